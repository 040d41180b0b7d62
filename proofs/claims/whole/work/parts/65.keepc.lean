/-! how long it can be kept from both: the class -/
def rkK (h : am_H) (a : Nat → Int) (f : Nat → (Nat → Int) → Int) (st : Int) (K : Nat) : Prop := (h.2.2.2 41 (nodeS st).toNat = -1 ∧ ∀ u : Nat, u < K → ¬ isK a f st u) ∨ ((0 ≤ h.2.2.2 41 (nodeS st).toNat ∧ h.2.2.2 41 (nodeS st).toNat < K) ∧ isK a f st (h.2.2.2 41 (nodeS st).toNat))
section KC
variable {scr : Nat × (Nat → Int)} {d : Nat} {h : am_H} {Q : Option am_V → am_H → Prop} {W : Wd} {ser : Nat} {a : Nat → Int} {f : Nat → (Nat → Int) → Int} {w B : Int}
theorem rkK.iff {st : Int} {K : Nat} (x : rkK h a f st K) {u : Nat} (hu : u < K) (hK : K ≤ 1000) : h.2.2.2 41 (nodeS st).toNat = u ↔ isK a f st u := by
  rcases x with ⟨x1, x2⟩ | ⟨x1, x2⟩
  · exact ⟨fun c => by omega, fun c => absurd c (x2 u hu)⟩
  · exact ⟨fun c => by rw [← c]; exact x2, fun c => x2.uniq c⟩
theorem k_isBound {st : Int} {K : Nat} (hs : am_sc scr) (hw : wf h) (x : grP h a f) (r : rok a f B) (hK : K ≤ 1000) (hr : Rch a f st) (ho : ¬ ovT a st) (H : ∀ z : Int, (z = 0 ∨ z = 1) → (z = 1 ↔ ∀ e, 0 ≤ e → e ≤ a 4 → ¬ ovT a (Tr a f st e) → h.2.2.2 41 (nodeS (Tr a f st e)).toNat ≠ -1 ∧ h.2.2.2 41 (nodeS (Tr a f st e)).toNat < K) → Q (some (.inl (z))) h) : am_R (am_prog scr) (d + 2) f_Search_isBoundBelow 0 [some (.inr (.inr (((40) : Nat) : Int))), some (.inl (nodeS st)), some (.inl ((K : Int))), none, none] [] h Q := by
  have h4 := r.1.1
  have so := hr.ok r
  have kn := x.2.1.known r hr ho
  have lp : ∀ (m e : Nat), e + m = 8 → (∀ e', 0 ≤ e' → e' < (e : Int) → ¬ ovT a (Tr a f st e') → h.2.2.2 41 (nodeS (Tr a f st e')).toNat ≠ -1 ∧ h.2.2.2 41 (nodeS (Tr a f st e')).toNat < K) → am_R (am_prog scr) (d + 2) f_Search_isBoundBelow 2 [some (.inr (.inr (((40) : Nat) : Int))), some (.inl (nodeS st)), some (.inl ((K : Int))), some (.inl ((e : Int))), none] [] h Q := by
    intro m
    induction m with
    | zero =>
      intro e he p
      refine w_Search_isBoundBelow_2 hs hw ?_
      refine k_gSleepers hs hw x.1 ⟨_, rfl, hw, fun _ => H 1 (by omega) ⟨fun _ e' h1 h2 => p e' h1 (by omega), fun _ => rfl⟩, fun c => by omega⟩
    | succ m ih =>
      intro e he p
      refine w_Search_isBoundBelow_2 hs hw ?_
      refine k_gSleepers hs hw x.1 ⟨_, rfl, hw, fun _ => H 1 (by omega) ⟨fun _ e' h1 h2 => p e' h1 (by omega), fun _ => rfl⟩, fun c1 => ?_⟩
      refine k_after hs hw x.2.2 r so ho kn (by omega) ⟨_, rfl, hw, ?_⟩
      have so2 := Tr_ok r (deed := (e : Int)) so ho
      have nb := node_b so2.1
      have nxt : (¬ ovT a (Tr a f st e) → h.2.2.2 41 (nodeS (Tr a f st e)).toNat ≠ -1 ∧ h.2.2.2 41 (nodeS (Tr a f st e)).toNat < K) → ∀ y, y = am_w ((e : Int) + 1) → am_R (am_prog scr) (d + 2) f_Search_isBoundBelow 2 [some (.inr (.inr (((40) : Nat) : Int))), some (.inl (nodeS st)), some (.inl ((K : Int))), some (.inl (y)), none] [] h Q := by
        intro hq y hy
        rw [am_w_id (by omega) (by omega)] at hy
        obtain rfl : y = ((e + 1 : Nat) : Int) := by omega
        refine ih (e + 1) (by omega) (fun e' h1 h2 => ?_)
        by_cases q : e' = e
        · rw [q]; exact hq
        · exact p e' h1 (by omega)
      refine k_gOn hs hw x.1 so2 ⟨_, rfl, hw, fun c2 => nxt (fun o => ?_), fun c2 => ⟨nb, fun c3 => ?_, fun c3 => ⟨nb, fun c4 => nxt (fun _ => ⟨c3, c4⟩), fun c4 => ?_⟩⟩⟩
      · rw [if_neg o] at c2; omega
      · have o : ¬ ovT a (Tr a f st e) := by
          intro q; rw [if_pos q] at c2; omega
        exact H 0 (by omega) ⟨fun c => by omega, fun c => absurd c3 (c e (by omega) (by omega) o).1⟩
      · have o : ¬ ovT a (Tr a f st e) := by
          intro q; rw [if_pos q] at c2; omega
        exact H 0 (by omega) ⟨fun c => by omega, fun c => absurd (c e (by omega) (by omega) o).2 c4⟩
  exact w_Search_isBoundBelow_0 hs hw (lp 8 0 rfl (fun e' h1 h2 => by omega))
/-- if none is just K, none is more, but for ever -/
theorem no_more {K : Nat} (hn : ∀ st, Rch a f st → ¬ ovT a st → ¬ isK a f st (K : Int)) : ∀ (m : Nat) (st : Int), Rch a f st → ¬ ovT a st → K + m < 268435456 → ¬ isK a f st ((K + m : Nat) : Int) := by
  intro m
  induction m with
  | zero => intro st hr ho _; exact hn st hr ho
  | succ m ih =>
    intro st hr ho hb c
    obtain ⟨e, e1, e2, e3⟩ := c.step (by omega)
    rw [if_neg (by omega), show ((K + (m + 1) : Nat) : Int) - 1 = ((K + m : Nat) : Int) by omega] at e3
    exact ih _ (hr.step ho e1) e2 (by omega) e3
theorem isK_all (r : rok a f B) {st : Int} (hr : Rch a f st) (ho : ¬ ovT a st) (h : ∀ u : Nat, u ≤ 143 → ¬ isK a f st u) : isK a f st 268435456 := by
  refine Or.inl ⟨rfl, ?_⟩
  apply Classical.byContradiction
  intro c
  have : ∃ k, ¬ kN a f k st := by
    apply Classical.byContradiction
    intro c2
    exact c (fun k => Classical.byContradiction (fun c3 => c2 ⟨k, c3⟩))
  obtain ⟨k, hk⟩ := this
  have h144 : ¬ kN a f 144 st := fun q => hk (kN_big r hr q k)
  obtain ⟨v, v1, v2⟩ := isK_ex (K := 143) ho (by omega) h144
  exact h v v1 v2
def lvK (b g : am_H) (a : Nat → Int) (f : Nat → (Nat → Int) → Int) (K : Nat) (i : Nat) (fl : Int) : Prop := wf g ∧ grP g a f ∧ fr [41] [] b g ∧ (∀ st, Rch a f st → ¬ ovT a st → (∃ j : Nat, j < i ∧ g.2.2.2 36 j = nodeS st) → rkK g a f st (K + 1)) ∧ (∀ st, Rch a f st → ¬ ovT a st → (∀ j : Nat, j < i → g.2.2.2 36 j ≠ nodeS st) → rkK g a f st K) ∧ ((fl = 0 ∧ ∀ st, Rch a f st → ¬ ovT a st → (∃ j : Nat, j < i ∧ g.2.2.2 36 j = nodeS st) → ¬ isK a f st (K : Int)) ∨ fl = 1) ∧ (∀ st, Rch a f st → ovT a st → g.2.2.2 41 (nodeS st).toNat = -1)
theorem k_lon_27 {b : am_H} {K : Nat} (hs : am_sc scr) (r : rok a f B) (hK : K < 180) (KK : ∀ (g : am_H) (fl : Int), wf g → grP g a f → fr [41] [] b g → (∀ st, Rch a f st → ¬ ovT a st → rkK g a f st (K + 1)) → ((fl = 0 ∧ ∀ st, Rch a f st → ¬ ovT a st → ¬ isK a f st (K : Int)) ∨ fl = 1) → (∀ st, Rch a f st → ovT a st → g.2.2.2 41 (nodeS st).toNat = -1) → am_R (am_prog scr) (d + 3) f_Search_longest 12 [some (.inr (.inr (((40) : Nat) : Int))), some (.inl (fl)), some (.inl (((K + 1 : Nat) : Int))), none, none] [] g Q) : ∀ (m i : Nat) (g : am_H) (fl : Int), (i : Int) + m = g.2.2.2 30 7 → lvK b g a f K i fl → am_R (am_prog scr) (d + 3) f_Search_longest 27 [some (.inr (.inr (((40) : Nat) : Int))), some (.inl (fl)), some (.inl ((K : Int))), some (.inl ((i : Int))), none] [] g Q := by
  intro m
  induction m with
  | zero =>
    intro i g fl hi x
    obtain ⟨x1, x2, x3, x4, x5, x6, x7⟩ := x
    refine w_Search_longest_27 hs x1 ⟨fun _ y hy => ?_, fun c => by omega⟩
    rw [am_w_id (by omega) (by omega)] at hy
    obtain rfl : y = ((K + 1 : Nat) : Int) := by omega
    have all : ∀ st, Rch a f st → ¬ ovT a st → ∃ j : Nat, j < i ∧ g.2.2.2 36 j = nodeS st := by
      intro st hr q
      obtain ⟨j, j1, j2⟩ := x2.2.1.2.2.2.1 st hr q
      exact ⟨j, by omega, j2⟩
    refine KK g fl x1 x2 x3 (fun st hr ho => x4 st hr ho (all st hr ho)) ?_ x7
    rcases x6 with ⟨y1, y2⟩ | y
    · exact Or.inl ⟨y1, fun st hr ho => y2 st hr ho (all st hr ho)⟩
    · exact Or.inr y
  | succ m ih =>
    intro i g fl hi x
    obtain ⟨x1, x2, x3, x4, x5, x6, x7⟩ := x
    have cb := x2.2.1.2.1
    obtain ⟨st, s1, s2, s3, s4⟩ := x2.2.1.2.2.1 i (by omega)
    have so := s1.ok r
    have ev : ¬ st % 2 = 1 := fun q => s2 (Or.inr q)
    have nb := on_144 r so s2
    have own : ∀ j : Nat, j < i → g.2.2.2 36 j ≠ nodeS st := fun j hj => by rw [← s3]; exact x2.2.1.2.2.2.2 j i hj (by omega)
    have rk := x5 st s1 s2 own
    have inj : ∀ s, Rch a f s → nodeS s = nodeS st → s = st := fun s hs2 e => (nodeS_inj so.1 (hs2.ok r).1 ev e.symm).symm
    have more : ∀ (g2 : am_H) (fl2 : Int), wf g2 → fr [41] [] g g2 → (∀ s, Rch a f s → s ≠ st → g2.2.2.2 41 (nodeS s).toNat = g.2.2.2 41 (nodeS s).toNat) → rkK g2 a f st (K + 1) → ((fl2 = 0 ∧ fl = 0 ∧ ¬ isK a f st (K : Int)) ∨ fl2 = 1) → lvK b g2 a f K (i + 1) fl2 := by
      intro g2 fl2 w2 f2 e2 rk2 hf
      have c36 : g2.2.2.2 36 = g.2.2.2 36 := f2.c 36 (by decide) (by simp)
      have tr : ∀ s K', Rch a f s → s ≠ st → rkK g a f s K' → rkK g2 a f s K' := by
        intro s K' hs2 ne z
        unfold rkK
        rw [e2 s hs2 ne]
        exact z
      refine ⟨w2, x2.fr f2 (by decide) (by simp), x3.trans f2, fun s hs2 ho hq => ?_, fun s hs2 hq hn => ?_, ?_, fun s hs2 ho => ?_⟩
      · by_cases q : s = st
        · rw [q]; exact rk2
        · refine tr s _ hs2 q (x4 s hs2 ho ?_)
          obtain ⟨j, j1, j2⟩ := hq
          rw [c36] at j2
          by_cases q2 : j = i
          · rw [q2, s3] at j2; exact absurd (inj s hs2 j2.symm) q
          · exact ⟨j, by omega, j2⟩
      · have q : s ≠ st := by
          intro q
          rw [c36] at hn
          exact hn i (by omega) (by rw [q]; exact s3)
        refine tr s _ hs2 q (x5 s hs2 hq (fun j hj => ?_))
        have := hn j (by omega)
        rw [c36] at this
        exact this
      · rcases hf with ⟨h1, h2, h3⟩ | h1
        · refine Or.inl ⟨h1, fun s hs2 ho hq => ?_⟩
          by_cases q : s = st
          · rw [q]; exact h3
          · rcases x6 with ⟨_, y2⟩ | y
            · refine y2 s hs2 ho ?_
              obtain ⟨j, j1, j2⟩ := hq
              rw [c36] at j2
              by_cases q2 : j = i
              · rw [q2, s3] at j2; exact absurd (inj s hs2 j2.symm) q
              · exact ⟨j, by omega, j2⟩
            · omega
        · exact Or.inr h1
      · rw [e2 s hs2 (fun q => s2 (by rw [← q]; exact ho))]
        exact x7 s hs2 ho
    have same : rkK g a f st (K + 1) → (¬ isK a f st (K : Int)) → lvK b g a f K (i + 1) fl := by
      intro h1 h2
      rcases x6 with y | y
      · exact more g fl x1 fr.rfl (fun _ _ _ => rfl) h1 (Or.inl ⟨y.1, y.1, h2⟩)
      · exact more g fl x1 fr.rfl (fun _ _ _ => rfl) h1 (Or.inr y)
    -- a rank says isK, below K + 1
    have val : ∀ s, Rch a f s → ¬ ovT a s → ∀ u : Nat, u < K → (g.2.2.2 41 (nodeS s).toNat = u ↔ isK a f s u) := by
      intro s hs2 ho u hu
      by_cases q : ∃ j' : Nat, j' < i ∧ g.2.2.2 36 j' = nodeS s
      · exact (x4 s hs2 ho q).iff (by omega) (by omega)
      · exact (x5 s hs2 ho (fun j' hj' c => q ⟨j', hj', c⟩)).iff (by omega) (by omega)
    have bnd : ∀ s, Rch a f s → ¬ ovT a s → -1 ≤ g.2.2.2 41 (nodeS s).toNat := by
      intro s hs2 ho
      by_cases q : ∃ j' : Nat, j' < i ∧ g.2.2.2 36 j' = nodeS s
      · rcases x4 s hs2 ho q with z | z <;> omega
      · rcases x5 s hs2 ho (fun j' hj' c => q ⟨j', hj', c⟩) with z | z <;> omega
    refine w_Search_longest_27 hs x1 ⟨fun c => by omega, fun _ => ⟨by omega, fun y3 h3 => ?_⟩⟩
    rw [Int.toNat_natCast, s3] at h3
    subst h3
    refine ⟨by omega, fun c y hy => ?_, fun c => ?_⟩
    · rw [am_w_id (by omega) (by omega)] at hy
      obtain rfl : y = ((i + 1 : Nat) : Int) := by omega
      refine ih (i + 1) g fl (by omega) (same ?_ ?_)
      · rcases rk with z | z
        · exact absurd z.1 c
        · exact Or.inr ⟨by omega, z.2⟩
      · intro q
        rcases rk with z | z
        · exact absurd z.1 c
        · have := z.2.uniq q; omega
    · have no : ∀ u : Nat, u < K → ¬ isK a f st u := by
        rcases rk with z | z
        · exact z.2
        · omega
      -- bound below K, if and only if it is K
      have key : (∀ e, 0 ≤ e → e ≤ a 4 → ¬ ovT a (Tr a f st e) → g.2.2.2 41 (nodeS (Tr a f st e)).toNat ≠ -1 ∧ g.2.2.2 41 (nodeS (Tr a f st e)).toNat < K) ↔ isK a f st (K : Int) := by
        constructor
        · intro hall
          have nk : ¬ kN a f (K + 1) st := by
            intro c2
            obtain ⟨_, e, h2, h3⟩ := c2
            have o := kN_0 h3
            have tr := s1.step (e := e) s2 h2
            have hh := hall e h2.1 h2.2 o
            have bb := bnd _ tr o
            have isk := (val _ tr o (g.2.2.2 41 (nodeS (Tr a f st e)).toNat).toNat (by omega)).mp (by omega)
            rcases isk with ⟨q, _⟩ | ⟨_, _, q⟩
            · omega
            · rw [Int.toNat_natCast] at q
              exact q (kN_le (by omega) h3)
          obtain ⟨v, v1, v2⟩ := isK_ex (K := K) s2 (by omega) nk
          by_cases q : v = K
          · rw [q] at v2; exact v2
          · exact absurd v2 (no v (by omega))
        · intro isk e h1 h2 o
          have tr := s1.step (e := e) s2 ⟨h1, h2⟩
          rcases isk with ⟨q, _⟩ | ⟨_, q1, q2⟩
          · omega
          · rw [Int.toNat_natCast] at q1 q2
            have nk : ¬ kN a f K (Tr a f st e) := fun c2 => q2 ⟨s2, e, ⟨h1, h2⟩, c2⟩
            have kpos : K ≠ 0 := fun c2 => nk (by rw [c2]; exact o)
            obtain ⟨v, v1, v2⟩ := isK_ex (a := a) (f := f) (K := K - 1) o (by omega) (by rw [show K - 1 + 1 = K by omega]; exact nk)
            have := (val _ tr o v (by omega)).mpr v2
            omega
      refine k_isBound hs x1 x2 r (by omega) s1 s2 (fun z hz hiff => ⟨_, rfl, x1, fun c2 y hy => ?_, fun c2 => ⟨by omega, fun g10 e10 y hy => ?_⟩⟩)
      · have nisk : ¬ isK a f st (K : Int) := fun q => by have := hiff.mpr (key.mpr q); omega
        rw [am_w_id (by omega) (by omega)] at hy
        obtain rfl : y = ((i + 1 : Nat) : Int) := by omega
        refine ih (i + 1) g fl (by omega) (same (Or.inl ⟨c, fun u hu => ?_⟩) nisk)
        by_cases q : u = K
        · rw [q]; exact nisk
        · exact no u (by omega)
      · have isk : isK a f st (K : Int) := key.mp (hiff.mp (by omega))
        have c41 : ∀ j, g10.2.2.2 41 j = if j = (nodeS st).toNat then (K : Int) else g.2.2.2 41 j := by
          intro j; rw [e10]; simp only [put_at, true_and]
        rw [am_w_id (by omega) (by omega)] at hy
        obtain rfl : y = ((i + 1 : Nat) : Int) := by omega
        have f10 : fr [41] [] g g10 := by rw [e10]; exact fr.rfl.put (Or.inl (by decide))
        refine ih (i + 1) g10 1 (by rw [f10.c 30 (by decide) (by simp)]; omega) (more g10 1 (by rw [e10]; exact x1.pa (by decide +kernel)) f10 (fun s hs2 ne => ?_) ?_ (Or.inr rfl))
        · rw [c41, if_neg]
          intro q
          have b1 := node_b (hs2.ok r).1
          exact ne (inj s hs2 (by omega))
        · refine Or.inr ?_
          rw [c41, if_pos rfl]
          exact ⟨by omega, isk⟩
/-- ranks after longest(): how long, -1 for ever or where it is over -/
def rkF (h : am_H) (a : Nat → Int) (f : Nat → (Nat → Int) → Int) : Prop := ∀ st, Rch a f st → (ovT a st → h.2.2.2 41 (nodeS st).toNat = -1) ∧ (¬ ovT a st → ∃ v, isK a f st v ∧ h.2.2.2 41 (nodeS st).toNat = if v = 268435456 then -1 else v)
theorem k_longest (hs : am_sc scr) (hw : wf h) (x : grP h a f) (r : rok a f B) (H : ∀ g, wf g → grP g a f → fr [41] [] h g → rkF g a f → Q (some (.inl (g.2.2.2 41 (nodeS (stA a)).toNat))) g) : am_R (am_prog scr) (d + 3) f_Search_longest 0 [some (.inr (.inr (((40) : Nat) : Int))), none, none, none, none] [] h Q := by
  have nb := node_b r.st.1
  have lp : ∀ (m K : Nat) (g : am_H) (fl : Int), K + m = 180 → wf g → grP g a f → fr [41] [] h g → (∀ st, Rch a f st → ¬ ovT a st → rkK g a f st K) → ((fl = 0 ∧ 1 ≤ K ∧ ∀ st, Rch a f st → ¬ ovT a st → ¬ isK a f st ((K - 1 : Nat) : Int)) ∨ fl = 1) → (∀ st, Rch a f st → ovT a st → g.2.2.2 41 (nodeS st).toNat = -1) → am_R (am_prog scr) (d + 3) f_Search_longest 12 [some (.inr (.inr (((40) : Nat) : Int))), some (.inl (fl)), some (.inl ((K : Int))), none, none] [] g Q := by
    intro m
    induction m with
    | zero =>
      intro K g fl hK wg xg fg rk hf ov
      refine w_Search_longest_12 hs wg ⟨fun _ => ?_, fun c => by omega⟩
      rw [xg.2.1.1]
      refine ⟨nb, H g wg xg fg (fun st hr => ⟨ov st hr, fun ho => ?_⟩)⟩
      rcases rk st hr ho with ⟨z1, z2⟩ | ⟨z1, z2⟩
      · exact ⟨268435456, isK_all r hr ho (fun u hu => z2 u (by omega)), by rw [if_pos rfl]; exact z1⟩
      · exact ⟨_, z2, by rw [if_neg (by omega)]⟩
    | succ m ih =>
      intro K g fl hK wg xg fg rk hf ov
      refine w_Search_longest_12 hs wg ⟨fun c => by omega, fun _ => ⟨fun c => ?_, fun c => ?_⟩⟩
      · rw [xg.2.1.1]
        refine ⟨nb, H g wg xg fg (fun st hr => ⟨ov st hr, fun ho => ?_⟩)⟩
        rcases hf with ⟨_, h2, h3⟩ | h1
        · rcases rk st hr ho with ⟨z1, z2⟩ | ⟨z1, z2⟩
          · refine ⟨268435456, isK_all r hr ho (fun u hu => ?_), by rw [if_pos rfl]; exact z1⟩
            by_cases q : u < K
            · exact z2 u q
            · have := no_more h3 (u - (K - 1)) st hr ho (by omega)
              rw [show K - 1 + (u - (K - 1)) = u by omega] at this
              exact this
          · exact ⟨_, z2, by rw [if_neg (by omega)]⟩
        · omega
      · have cb := xg.2.1.2.1
        refine k_lon_27 (b := g) (K := K) hs r (by omega) (fun g2 fl2 w2 x2 f2 rk2 hf2 ov2 => ?_) (g.2.2.2 30 7).toNat 0 g 0 (by omega) ⟨wg, xg, fr.rfl, fun st hr _ ⟨j, hj, _⟩ => by omega, fun st hr ho _ => rk st hr ho, Or.inl ⟨rfl, fun st hr _ ⟨j, hj, _⟩ => by omega⟩, ov⟩
        refine ih (K + 1) g2 fl2 (by omega) w2 x2 (fg.trans f2) rk2 ?_ ov2
        rcases hf2 with ⟨h1, h2⟩ | h1
        · exact Or.inl ⟨h1, by omega, by rw [show K + 1 - 1 = K by omega]; exact h2⟩
        · exact Or.inr h1
  refine w_Search_longest_0 hs hw ?_
  refine k_fillI (n := 185) hs hw (by omega) (by decide +kernel) (by omega) (by decide +kernel) (fun g1 w1 f1 e1 => ⟨rfl, w1, ?_⟩)
  have v : ∀ st, Rch a f st → g1.2.2.2 41 (nodeS st).toNat = -1 := fun st hr => by
    have := node_b (hr.ok r).1
    rw [e1, if_pos (by omega)]
  exact lp 180 0 g1 1 rfl w1 (x.fr f1 (by decide) (by simp)) f1 (fun st hr ho => Or.inl ⟨v st hr, fun u hu => by omega⟩) (Or.inr rfl) (fun st hr _ => v st hr)
theorem keep_none : ∀ (n i : Nat) {st v : Int}, Rch a f st → ¬ ovT a st → isK a f st v → (v = n ∧ n ≤ i ∧ v < 268435456) → keepP a f i st (-1) := by
  intro n
  induction n with
  | zero =>
    intro i st v hr ho x hv
    cases i with
    | zero => exact ⟨v, x, Or.inl ⟨by omega, rfl⟩⟩
    | succ i => exact ⟨v, x, Or.inl ⟨by omega, rfl⟩⟩
  | succ n ih =>
    intro i st v hr ho x hv
    obtain ⟨e, le⟩ := leastE_ex (x.step (by omega))
    obtain ⟨j, hj⟩ : ∃ j, i = j + 1 := ⟨i - 1, by omega⟩
    subst hj
    have kp := le.2.1
    have k2 := kp.2
    rw [if_neg (by omega)] at k2
    exact ⟨v, x, Or.inr ⟨by omega, e, le, ih j (hr.step ho le.1) kp.1 k2 (by omega)⟩⟩
theorem k_deedDownK {i : Int} (hs : am_sc scr) (hw : wf h) (x : grP h a f) (r : rok a f B) (rk : rkF h a f) (hi : 0 ≤ i ∧ i < 2147483647) : ∀ (n k : Nat) (st v : Int), Rch a f st → ¬ ovT a st → isK a f st v → v = n → v < 268435456 → (k : Int) ≤ i → k + n ≤ 1000 → (∀ z, keepP a f (i.toNat - k) st z → Q (some (.inl (z))) h) → am_R (am_prog scr) (d + 3) f_Search_deedDownwards 10 [some (.inr (.inr (((40) : Nat) : Int))), some (.inl (i)), some (.inl (nodeS st)), some (.inl ((k : Int)))] [] h Q := by
  have val : ∀ st v, Rch a f st → ¬ ovT a st → isK a f st v → v < 268435456 → h.2.2.2 41 (nodeS st).toNat = v := by
    intro st v hr ho hd h1
    obtain ⟨u, u1, u2⟩ := (rk st hr).2 ho
    have := u1.uniq hd
    subst this
    rw [u2, if_neg (by omega)]
  have piff : ∀ {st v : Int} (e : Int), Rch a f st → ¬ ovT a st → 0 < v → v < 268435456 → (0 ≤ e ∧ e ≤ a 4) → (h.2.2.2 41 (nodeS (Tr a f st e)).toNat = v - 1 ↔ kpP a f v (Tr a f st e)) := by
    intro st v e hr ho h1 h2 he
    have tr := hr.step ho he
    unfold kpP
    rw [if_neg (by omega)]
    refine ⟨fun c => ?_, fun c => val _ _ tr c.1 c.2 (by omega)⟩
    have o : ¬ ovT a (Tr a f st e) := fun q => by have := (rk _ tr).1 q; omega
    obtain ⟨u, u1, u2⟩ := (rk _ tr).2 o
    rw [c] at u2
    by_cases q : u = 268435456
    · rw [if_pos q] at u2; omega
    · rw [if_neg q] at u2
      rw [u2]; exact ⟨o, u1⟩
  have s60 : ∀ (k : Nat) (st v : Int), Rch a f st → ¬ ovT a st → isK a f st v → 0 ≤ v → v < 268435456 → (k : Int) ≤ i → ((k : Int) = i ∨ v = 0) → (∀ z, keepP a f (i.toNat - k) st z → Q (some (.inl (z))) h) → am_R (am_prog scr) (d + 3) f_Search_deedDownwards 60 [some (.inr (.inr (((40) : Nat) : Int))), some (.inl (i)), some (.inl (nodeS st)), some (.inl ((k : Int)))] [] h Q := by
    intro k st v hr ho hd h0 hv hk hor H
    have nb := node_b (hr.ok r).1
    have vb := hd.small r hr hv
    refine w_Search_deedDownwards_60 hs hw ⟨nb, ?_⟩
    rw [val st v hr ho hd hv]
    refine ⟨fun c => H _ ?_, fun c => ⟨nb, ?_⟩⟩
    · exact keep_none 0 _ hr ho hd ⟨by omega, by omega, by omega⟩
    · rw [am_w_id (by omega) (by omega)]
      refine k_deedTo hs hw x r (Or.inl rfl) hr ho (fun z hz => ⟨_, rfl, hw, H _ ?_⟩)
      rw [show i.toNat - k = 0 by omega]
      refine ⟨v, hd, Or.inr ⟨by omega, ?_⟩⟩
      rcases hz with ⟨_, z1⟩ | z1
      · exfalso
        obtain ⟨e, e1, e2⟩ := hd.step (by omega)
        exact z1 e e1.1 e1.2 ((piff e hr ho (by omega) hv e1).mpr e2)
      · exact z1.congr (fun e e1 e2 => piff e hr ho (by omega) hv ⟨e1, e2⟩)
  intro n
  induction n with
  | zero =>
    intro k st v hr ho hd hv hv2 hk hkn H
    have nb := node_b (hr.ok r).1
    refine w_Search_deedDownwards_10 hs hw ⟨fun c => ?_, fun c => ⟨nb, ?_⟩⟩
    · exact s60 k st v hr ho hd (by omega) hv2 hk (Or.inr (by omega)) H
    · rw [val st v hr ho hd hv2]
      exact ⟨fun c2 => s60 k st v hr ho hd (by omega) hv2 hk (Or.inr (by omega)) H, fun c2 => by omega⟩
  | succ n ih =>
    intro k st v hr ho hd hv hv2 hk hkn H
    have nb := node_b (hr.ok r).1
    have vb := hd.small r hr hv2
    refine w_Search_deedDownwards_10 hs hw ⟨fun c => ?_, fun c => ⟨nb, ?_⟩⟩
    · exact s60 k st v hr ho hd (by omega) hv2 hk (Or.inl (by omega)) H
    · rw [val st v hr ho hd hv2]
      refine ⟨fun c2 => by omega, fun c2 => ⟨nb, ?_⟩⟩
      rw [am_w_id (by omega) (by omega)]
      refine k_deedTo hs hw x r (Or.inl rfl) hr ho (fun z hz => ⟨_, rfl, hw, ?_⟩)
      have le : leastE a f (kpP a f v) st z := by
        rcases hz with ⟨_, z1⟩ | z1
        · exfalso
          obtain ⟨e, e1, e2⟩ := hd.step (by omega)
          exact z1 e e1.1 e1.2 ((piff e hr ho (by omega) hv2 e1).mpr e2)
        · exact z1.congr (fun e e1 e2 => piff e hr ho (by omega) hv2 ⟨e1, e2⟩)
      have h4 := r.1.1
      have l1 := le.1
      have go : ∀ z2 : Int, z2 = z → am_R (am_prog scr) (d + 2) f_Graph_after 0 [some (.inr (.inr (((30) : Nat) : Int))), some (.inl (nodeS st)), some (.inl (z2)), none] [] h (fun v1 g7 => ∃ r8 : Int, v1 = some (.inl (r8)) ∧ wf g7 ∧ (∀ y9 : Int, y9 = am_w ((k : Int) + 1) → (am_R (am_prog scr) (d + 2 + 1) f_Search_deedDownwards 10 [some (.inr (.inr (((40) : Nat) : Int))), some (.inl (i)), some (.inl (r8)), some (.inl (y9))] [] g7 Q))) := by
        intro z2 hz2
        subst hz2
        refine k_after hs hw x.2.2 r (hr.ok r) ho (x.2.1.known r hr ho) (by omega) ⟨_, rfl, hw, fun y hy => ?_⟩
        rw [am_w_id (by omega) (by omega)] at hy
        obtain rfl : y = ((k + 1 : Nat) : Int) := by omega
        have kp := le.2.1
        have k2 := kp.2
        rw [if_neg (by omega)] at k2
        refine ih (k + 1) _ (v - 1) (hr.step ho le.1) kp.1 k2 (by omega) (by omega) (by omega) (by omega) (fun z3 hz3 => H z3 ?_)
        rw [show i.toNat - k = (i.toNat - (k + 1)) + 1 by omega]
        exact ⟨v, hd, Or.inr ⟨by omega, _, le, hz3⟩⟩
      refine w_jM_max_0 hs hw ⟨fun c3 => ⟨_, rfl, hw, go z rfl⟩, fun c3 => ⟨_, rfl, hw, go 0 (by omega)⟩⟩
theorem k_endless {st : Int} (hs : am_sc scr) (hw : wf h) (x : grP h a f) (r : rok a f B) (rk : rkF h a f) (hr : Rch a f st) (ho : ¬ ovT a st) (hk : isK a f st 268435456) (H : ∀ z, leastE a f (kpP a f 268435456) st z → Q (some (.inl (z))) h) : am_R (am_prog scr) (d + 2) f_Search_endlessDeed 0 [some (.inr (.inr (((40) : Nat) : Int))), some (.inl (nodeS st)), none, none] [] h Q := by
  have h4 := r.1.1
  have so := hr.ok r
  have kn := x.2.1.known r hr ho
  have lp : ∀ (m e : Nat), e + m = 8 → (∀ e', 0 ≤ e' → e' < (e : Int) → ¬ kpP a f 268435456 (Tr a f st e')) → am_R (am_prog scr) (d + 2) f_Search_endlessDeed 2 [some (.inr (.inr (((40) : Nat) : Int))), some (.inl (nodeS st)), some (.inl ((e : Int))), none] [] h Q := by
    intro m
    induction m with
    | zero =>
      intro e he p
      exfalso
      obtain ⟨e', e1, e2⟩ := hk.step (by omega)
      exact p e' e1.1 (by omega) e2
    | succ m ih =>
      intro e he p
      refine w_Search_endlessDeed_2 hs hw ?_
      refine k_gSleepers hs hw x.1 ⟨_, rfl, hw, fun c => ?_, fun c1 => ?_⟩
      · exfalso
        obtain ⟨e', e1, e2⟩ := hk.step (by omega)
        exact p e' e1.1 (by omega) e2
      · refine k_after hs hw x.2.2 r so ho kn (by omega) ⟨_, rfl, hw, ?_⟩
        have so2 := Tr_ok r (deed := (e : Int)) so ho
        have nb := node_b so2.1
        have tr := hr.step (e := (e : Int)) ho ⟨by omega, by omega⟩
        have nxt : ¬ kpP a f 268435456 (Tr a f st e) → ∀ y, y = am_w ((e : Int) + 1) → am_R (am_prog scr) (d + 2) f_Search_endlessDeed 2 [some (.inr (.inr (((40) : Nat) : Int))), some (.inl (nodeS st)), some (.inl (y)), none] [] h Q := by
          intro hq y hy
          rw [am_w_id (by omega) (by omega)] at hy
          obtain rfl : y = ((e + 1 : Nat) : Int) := by omega
          refine ih (e + 1) (by omega) (fun e' h1 h2 => ?_)
          by_cases q : e' = e
          · rw [q]; exact hq
          · exact p e' h1 (by omega)
        refine k_gOn hs hw x.1 so2 ⟨_, rfl, hw, fun c2 => nxt (fun q => ?_), fun c2 => ⟨nb, fun c3 => nxt (fun q => ?_), fun c3 => ?_⟩⟩
        · rw [if_neg q.1] at c2; omega
        · obtain ⟨u, u1, u2⟩ := (rk _ tr).2 q.1
          have := u1.uniq q.2
          rw [if_pos rfl] at this
          rw [if_pos this] at u2
          exact c3 u2
        · have o : ¬ ovT a (Tr a f st e) := by
            intro q; rw [if_pos q] at c2; omega
          obtain ⟨u, u1, u2⟩ := (rk _ tr).2 o
          have uf : u = 268435456 := by
            apply Decidable.byContradiction
            intro q
            rw [if_neg q] at u2
            have : 0 ≤ u := by rcases u1 with ⟨z, _⟩ | ⟨z, _⟩ <;> omega
            omega
          rw [uf] at u1
          exact H _ ⟨⟨by omega, by omega⟩, ⟨o, by rw [if_pos rfl]; exact u1⟩, fun e' h1 h2 => p e' h1 h2⟩
  exact w_Search_endlessDeed_0 hs hw (lp 8 0 rfl (fun e' h1 h2 => by omega))
theorem k_longestDeed {i : Int} (hs : am_sc scr) (hw : wf h) (x : grP h a f) (r : rok a f B) (ho : ¬ ovA a) (hi : 0 ≤ i ∧ i ≤ 99) (H : ∀ g z, wf g → fr [41] [] h g → keepP a f i.toNat (stA a) z → Q (some (.inl (z))) g) : am_R (am_prog scr) (d + 4) f_Search_longestDeed 0 [some (.inr (.inr (((40) : Nat) : Int))), some (.inl (i)), none, none, none] [] h Q := by
  have ho : ¬ ovT a (stA a) := fun q => ho (r.over.mp q)
  refine w_Search_longestDeed_0 hs hw ?_
  refine k_longest hs hw x r (fun g wg xg fg rk => ⟨_, rfl, wg, ?_⟩)
  obtain ⟨v, v1, v2⟩ := (rk _ Rch.zero).2 ho
  rw [v2]
  have vb : v = 268435456 ∨ (0 ≤ v ∧ v < 268435456) := by rcases v1 with ⟨q, _⟩ | ⟨q, _⟩ <;> omega
  refine ⟨fun c => ?_, fun c => ⟨fun c2 => ?_, fun c2 => ?_⟩⟩
  · have vf : v = 268435456 := by
      rcases vb with q | q
      · exact q
      · rw [if_neg (by omega)] at c; omega
    subst vf
    intro y3 h3
    rw [xg.2.1.1] at h3
    subst h3
    have lp : ∀ (m k : Nat) (st : Int), (k : Int) + m = i → Rch a f st → ¬ ovT a st → isK a f st 268435456 → (∀ z, keepP a f (i.toNat - k) st z → keepP a f i.toNat (stA a) z) → ∀ y : Int, am_R (am_prog scr) (d + 4) f_Search_longestDeed 36 [some (.inr (.inr (((40) : Nat) : Int))), some (.inl (i)), some (.inl (y)), some (.inl (nodeS st)), some (.inl ((k : Int)))] [] g Q := by
      intro m
      induction m with
      | zero =>
        intro k st hk hr o isk back y
        refine w_Search_longestDeed_36 hs wg ⟨fun _ => ?_, fun c => by omega⟩
        refine k_endless hs wg xg r rk hr o isk (fun z hz => ⟨_, rfl, wg, H g _ wg fg (back _ ?_)⟩)
        rw [show i.toNat - k = 0 by omega]
        exact ⟨_, isk, Or.inr ⟨by omega, hz⟩⟩
      | succ m ih =>
        intro k st hk hr o isk back y
        refine w_Search_longestDeed_36 hs wg ⟨fun c => by omega, fun _ => ?_⟩
        refine k_endless hs wg xg r rk hr o isk (fun z hz => ⟨_, rfl, wg, ?_⟩)
        have h4 := r.1.1
        have l1 := hz.1
        refine k_after hs wg xg.2.2 r (hr.ok r) o (xg.2.1.known r hr o) (by omega) ⟨_, rfl, wg, fun q hq => ?_⟩
        rw [am_w_id (by omega) (by omega)] at hq
        obtain rfl : q = ((k + 1 : Nat) : Int) := by omega
        have kp := hz.2.1
        have k2 := kp.2
        rw [if_pos rfl] at k2
        refine ih (k + 1) _ (by omega) (hr.step o hz.1) kp.1 k2 (fun z3 hz3 => back z3 ?_) y
        rw [show i.toNat - k = (i.toNat - (k + 1)) + 1 by omega]
        exact ⟨_, isk, Or.inr ⟨by omega, _, hz, hz3⟩⟩
    exact lp i.toNat 0 (stA a) (by omega) Rch.zero ho v1 (fun z hz => hz) _
  · have vf : 0 ≤ v ∧ v < 268435456 := by
      rcases vb with q | q
      · rw [if_pos q] at c; omega
      · exact q
    rw [if_neg (by omega)] at c2
    exact H g _ wg fg (keep_none v.toNat _ Rch.zero ho v1 (by omega))
  · have vf : 0 ≤ v ∧ v < 268435456 := by
      rcases vb with q | q
      · rw [if_pos q] at c; omega
      · exact q
    have sm := v1.small r Rch.zero vf.2
    refine w_Search_deedDownwards_0 hs wg (fun y1 h1 => ?_)
    rw [xg.2.1.1] at h1
    subst h1
    exact k_deedDownK (i := i) hs wg xg r rk (by omega) v.toNat 0 (stA a) v Rch.zero ho v1 (by omega) vf.2 (by omega) (by omega) (fun z hz => ⟨_, rfl, wg, H g _ wg fg hz⟩)
theorem k_Skeeps (hs : am_sc scr) (hw : wf h) (wo : wc h W) (x : plW h W 24 ser a) (r : rok a (W.2.2.1 ser) B) (hB : B < 900000) (y : grI h W B) (H : ∀ g z, wf g → fr SEL PPF h g → wc g W → grI g W (B + 400) → ((ovA a → z = -5) ∧ (¬ ovA a → ∃ v, isK a (W.2.2.1 ser) (stA a) v ∧ z = if v = 268435456 then -1 else v)) → Q (some (.inl (z))) g) : am_R (am_prog scr) (d + 6) f_S_keeps 0 [some (.inr (.inr (((0) : Nat) : Int)))] [] h Q := by
  have p24 : 24 ∈ PL := by decide
  refine w_S_keeps_0 hs hw ?_
  refine k_goesOnC hs hw p24 wo x r ⟨_, rfl, hw, fun c => ?_, fun c => ?_⟩
  · have ho : ¬ ovA a := by
      intro q; rw [if_pos q] at c; omega
    refine k_prepare hs hw wo x r hB y (fun g1 w1 f1 wc1 y1 p1 => ⟨rfl, w1, ?_⟩)
    refine k_longest hs w1 p1 r (fun g2 w2 x2 f2 rk => ⟨_, rfl, w2, ?_⟩)
    obtain ⟨v, v1, v2⟩ := (rk _ Rch.zero).2 (fun q => ho (r.over.mp q))
    exact H g2 _ w2 ((f1.mono (by decide) (by decide)).trans (f2.mono (by decide) (by simp))) (wc1.fr f2 (by decide) (by simp)) (y1.fr f2 (by decide) (by simp) (by omega)) ⟨fun q => absurd q ho, fun _ => ⟨v, v1, v2⟩⟩
  · have ho : ovA a := by
      apply Decidable.byContradiction; intro q; rw [if_neg q] at c; omega
    exact H h _ hw fr.rfl wo (y.fr (L := []) (F := []) fr.rfl (by simp) (by simp) (by omega)) ⟨fun _ => rfl, fun q => absurd ho q⟩
theorem k_Skeeping {i : Int} (hs : am_sc scr) (hw : wf h) (wo : wc h W) (x : plW h W 24 ser a) (r : rok a (W.2.2.1 ser) B) (hB : B < 900000) (y : grI h W B) (H : ∀ g z, wf g → fr SEL PPF h g → wc g W → grI g W (B + 400) → ((0 ≤ i ∧ i ≤ 99 → ¬ ovA a → keepP a (W.2.2.1 ser) i.toNat (stA a) z) ∧ (0 ≤ i ∧ i ≤ 99 → ovA a → z = -5) ∧ (¬ (0 ≤ i ∧ i ≤ 99) → z = -3)) → Q (some (.inl (z))) g) : am_R (am_prog scr) (d + 6) f_S_keeping 0 [some (.inr (.inr (((0) : Nat) : Int))), some (.inl (i))] [] h Q := by
  have p24 : 24 ∈ PL := by decide
  have y0 : grI h W (B + 400) := y.fr (L := []) (F := []) fr.rfl (by simp) (by simp) (by omega)
  have no : ¬ (0 ≤ i ∧ i ≤ 99) → Q (some (.inl (-3))) h := fun q => H h _ hw fr.rfl wo y0 ⟨fun c => absurd c q, fun c => absurd c q, fun _ => rfl⟩
  refine w_S_keeping_0 hs hw ⟨fun c => no (by omega), fun c0 => ⟨fun c2 => ?_, fun c2 => no (by omega)⟩⟩
  refine k_goesOnC hs hw p24 wo x r ⟨_, rfl, hw, fun c => ?_, fun c => ?_⟩
  · have ho : ¬ ovA a := by
      intro q; rw [if_pos q] at c; omega
    refine k_prepare hs hw wo x r hB y (fun g1 w1 f1 wc1 y1 p1 => ⟨rfl, w1, ?_⟩)
    refine k_longestDeed hs w1 p1 r ho (by omega) (fun g2 z w2 f2 hz => ⟨_, rfl, w2, ?_⟩)
    exact H g2 _ w2 ((f1.mono (by decide) (by decide)).trans (f2.mono (by decide) (by simp))) (wc1.fr f2 (by decide) (by simp)) (y1.fr f2 (by decide) (by simp) (by omega)) ⟨fun _ _ => hz, fun _ q => absurd q ho, fun q => absurd ⟨by omega, c2⟩ q⟩
  · have ho : ovA a := by
      apply Decidable.byContradiction; intro q; rw [if_neg q] at c; omega
    exact H h _ hw fr.rfl wo y0 ⟨fun _ q => absurd ho q, fun _ _ => rfl, fun q => absurd ⟨by omega, c2⟩ q⟩
end KC
