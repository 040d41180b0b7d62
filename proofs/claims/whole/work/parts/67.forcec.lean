/-! forcing: the class -/
def rkB (h : am_H) (c : Nat) (a : Nat → Int) (f : Nat → (Nat → Int) → Int) (b : Bool) (st : Int) (K : Nat) : Prop := (h.2.2.2 c (nodeS st).toNat = -1 ∧ ∀ k, k < K → ¬ fN a f k b st) ∨ ((0 ≤ h.2.2.2 c (nodeS st).toNat ∧ h.2.2.2 c (nodeS st).toNat < K) ∧ isF a f b st (h.2.2.2 c (nodeS st).toNat))
section FX
variable {scr : Nat × (Nat → Int)} {d : Nat} {h : am_H} {Q : Option am_V → am_H → Prop} {W : Wd} {ser : Nat} {a : Nat → Int} {f : Nat → (Nat → Int) → Int} {B : Int}
theorem rkB.iff {c : Nat} {b : Bool} {st : Int} {K : Nat} (x : rkB h c a f b st K) {u : Nat} (hu : u < K) (hK : K ≤ 1000) : h.2.2.2 c (nodeS st).toNat = u ↔ isF a f b st u := by
  rcases x with ⟨x1, x2⟩ | ⟨x1, x2⟩
  · refine ⟨fun c => by omega, fun c => ?_⟩
    rcases c with ⟨c1, _⟩ | ⟨c1, c2, _⟩
    · omega
    · rw [Int.toNat_natCast] at c2
      exact absurd c2 (x2 u hu)
  · exact ⟨fun c => by rw [← c]; exact x2, fun c => x2.uniq c⟩
theorem fN_ov {b : Bool} {st : Int} (ho : ovT a st) : ∀ k, fN a f k b st → actI st = a 3 := by
  intro k hk
  cases k with
  | zero => exact hk
  | succ k =>
    rcases hk with q | q
    · exact q
    · exact absurd ho q.1
theorem rkB.ov {c : Nat} {b : Bool} {st : Int} {K : Nat} (ho : ovT a st) (x : rkB h c a f b st K) (hK : 1 ≤ K) : rkB h c a f b st (K + 1) := by
  rcases x with ⟨x1, x2⟩ | ⟨x1, x2⟩
  · exact Or.inl ⟨x1, fun k hk q => x2 0 (by omega) (fN_ov ho k q)⟩
  · exact Or.inr ⟨by omega, x2⟩
theorem k_allLead {st : Int} {K : Nat} (hs : am_sc scr) (hw : wf h) (x : grP h a f) (r : rok a f B) (hK : K ≤ 1000) (hr : Rch a f st) (ho : ¬ ovT a st) (H : ∀ z : Int, (z = 0 ∨ z = 1) → (z = 1 ↔ ∀ e, 0 ≤ e → e ≤ a 4 → h.2.2.2 41 (nodeS (Tr a f st e)).toNat ≠ -1 ∧ h.2.2.2 41 (nodeS (Tr a f st e)).toNat < K) → Q (some (.inl (z))) h) : am_R (am_prog scr) (d + 2) f_Search_allLeadBelow 0 [some (.inr (.inr (((40) : Nat) : Int))), some (.inl (nodeS st)), some (.inl ((K : Int))), none, none] [] h Q := by
  have h4 := r.1.1
  have so := hr.ok r
  have kn := x.2.1.known r hr ho
  have lp : ∀ (m e : Nat), e + m = 8 → (∀ e', 0 ≤ e' → e' < (e : Int) → h.2.2.2 41 (nodeS (Tr a f st e')).toNat ≠ -1 ∧ h.2.2.2 41 (nodeS (Tr a f st e')).toNat < K) → am_R (am_prog scr) (d + 2) f_Search_allLeadBelow 2 [some (.inr (.inr (((40) : Nat) : Int))), some (.inl (nodeS st)), some (.inl ((K : Int))), some (.inl ((e : Int))), none] [] h Q := by
    intro m
    induction m with
    | zero =>
      intro e he p
      refine w_Search_allLeadBelow_2 hs hw ?_
      refine k_gSleepers hs hw x.1 ⟨_, rfl, hw, fun _ => H 1 (by omega) ⟨fun _ e' h1 h2 => p e' h1 (by omega), fun _ => rfl⟩, fun c => by omega⟩
    | succ m ih =>
      intro e he p
      refine w_Search_allLeadBelow_2 hs hw ?_
      refine k_gSleepers hs hw x.1 ⟨_, rfl, hw, fun _ => H 1 (by omega) ⟨fun _ e' h1 h2 => p e' h1 (by omega), fun _ => rfl⟩, fun c1 => ?_⟩
      refine k_after hs hw x.2.2 r so ho kn (by omega) ⟨_, rfl, hw, ?_⟩
      have so2 := Tr_ok r (deed := (e : Int)) so ho
      have nb := node_b so2.1
      refine ⟨nb, fun y6 h6 => ?_⟩
      subst h6
      refine ⟨fun c3 => ?_, fun c3 => ⟨fun c4 y hy => ?_, fun c4 => ?_⟩⟩
      · exact H 0 (by omega) ⟨fun c => by omega, fun c => absurd c3 (c e (by omega) (by omega)).1⟩
      · rw [am_w_id (by omega) (by omega)] at hy
        obtain rfl : y = ((e + 1 : Nat) : Int) := by omega
        refine ih (e + 1) (by omega) (fun e' h1 h2 => ?_)
        by_cases q : e' = e
        · rw [q]; exact ⟨c3, c4⟩
        · exact p e' h1 (by omega)
      · exact H 0 (by omega) ⟨fun c => by omega, fun c => absurd (c e (by omega) (by omega)).2 c4⟩
  exact w_Search_allLeadBelow_0 hs hw (lp 8 0 rfl (fun e' h1 h2 => by omega))
/-- both told, below K -/
def rk2 (h : am_H) (a : Nat → Int) (f : Nat → (Nat → Int) → Int) (st : Int) (K : Nat) : Prop := rkB h 41 a f true st K ∧ rkB h 42 a f false st K
def lvF (b g : am_H) (a : Nat → Int) (f : Nat → (Nat → Int) → Int) (K : Nat) (i : Nat) (fl : Int) : Prop := wf g ∧ grP g a f ∧ fr [41, 42] [] b g ∧ (∀ st, Rch a f st → (ovT a st ∨ ∃ j : Nat, j < i ∧ g.2.2.2 36 j = nodeS st) → rk2 g a f st (K + 1)) ∧ (∀ st, Rch a f st → ¬ ovT a st → (∀ j : Nat, j < i → g.2.2.2 36 j ≠ nodeS st) → rk2 g a f st K) ∧ ((fl = 0 ∧ ∀ st, Rch a f st → (ovT a st ∨ ∃ j : Nat, j < i ∧ g.2.2.2 36 j = nodeS st) → ¬ isF a f true st (K : Int) ∧ ¬ isF a f false st (K : Int)) ∨ fl = 1)
theorem k_forceWithin {K : Nat} {st : Int} (hs : am_sc scr) (hw : wf h) (x : grP h a f) (r : rok a f B) (hK : 1 ≤ K ∧ K ≤ 360) (hr : Rch a f st) (ho : ¬ ovT a st) (rk : rk2 h a f st K) (all : ∀ s, Rch a f s → rk2 h a f s K ∨ rk2 h a f s (K + 1)) (H : ∀ g z, wf g → fr [41, 42] [] h g → (∀ n, n ≠ (nodeS st).toNat → g.2.2.2 41 n = h.2.2.2 41 n ∧ g.2.2.2 42 n = h.2.2.2 42 n) → rk2 g a f st (K + 1) → ((z = 0 ∧ ¬ isF a f true st (K : Int) ∧ ¬ isF a f false st (K : Int)) ∨ z = 1) → Q (some (.inl (z))) g) : am_R (am_prog scr) (d + 3) f_Search_forceWithin 0 [some (.inr (.inr (((40) : Nat) : Int))), some (.inl (nodeS st)), some (.inl ((K : Int))), none] [] h Q := by
  have so := hr.ok r
  have ev : ¬ st % 2 = 1 := fun q => ho (Or.inr q)
  have nb := node_b so.1
  have v1 : ∀ s, Rch a f s → ∀ u : Nat, u < K → (h.2.2.2 41 (nodeS s).toNat = u ↔ isF a f true s u) := by
    intro s hs2 u hu
    rcases all s hs2 with z | z
    · exact z.1.iff hu (by omega)
    · exact z.1.iff (by omega) (by omega)
  have v2 : ∀ s, Rch a f s → ∀ u : Nat, u < K → (h.2.2.2 42 (nodeS s).toNat = u ↔ isF a f false s u) := by
    intro s hs2 u hu
    rcases all s hs2 with z | z
    · exact z.2.iff hu (by omega)
    · exact z.2.iff (by omega) (by omega)
  have b1 : ∀ s, Rch a f s → -1 ≤ h.2.2.2 41 (nodeS s).toNat := by
    intro s hs2
    rcases all s hs2 with ⟨z | z, _⟩ | ⟨z | z, _⟩ <;> omega
  -- the second half, over a heap where 41 has been told for st
  have half : ∀ (g : am_H) (fl : Int), wf g → fr [41, 42] [] h g → grP g a f → (∀ n, n ≠ (nodeS st).toNat → g.2.2.2 41 n = h.2.2.2 41 n) → (∀ n, g.2.2.2 42 n = h.2.2.2 42 n) → rkB g 41 a f true st (K + 1) → (g.2.2.2 41 (nodeS st).toNat = K ∨ g.2.2.2 41 (nodeS st).toNat = h.2.2.2 41 (nodeS st).toNat) → ((fl = 0 ∧ ¬ isF a f true st (K : Int)) ∨ fl = 1) → am_R (am_prog scr) (d + 3) f_Search_forceWithin 37 [some (.inr (.inr (((40) : Nat) : Int))), some (.inl (nodeS st)), some (.inl ((K : Int))), some (.inl (fl))] [] g Q := by
    intro g fl wg fg xg e41 e42 rk41 e41s hfl
    have flb : fl = 0 ∨ fl = 1 := by rcases hfl with q | q <;> omega
    have rk42 : rkB g 42 a f false st K := by
      have := rk.2
      unfold rkB at this ⊢
      rw [e42]
      exact this
    have out : ∀ (g2 : am_H) (z : Int), wf g2 → fr [42] [] g g2 → (∀ n, n ≠ (nodeS st).toNat → g2.2.2.2 42 n = g.2.2.2 42 n) → rkB g2 42 a f false st (K + 1) → ((z = 0 ∧ fl = 0 ∧ ¬ isF a f false st (K : Int)) ∨ z = 1) → Q (some (.inl (z))) g2 := by
      intro g2 z w2 f2 e2 rkz hz
      refine H g2 z w2 (fg.trans (f2.mono (by decide) (by simp))) (fun n hn => ⟨by rw [f2.c 41 (by decide) (by simp)]; exact e41 n hn, by rw [e2 n hn, e42]⟩) ⟨?_, rkz⟩ ?_
      · unfold rkB
        rw [f2.c 41 (by decide) (by simp)]
        exact rk41
      · rcases hz with ⟨z1, z2, z3⟩ | z1
        · rcases hfl with q | q
          · exact Or.inl ⟨z1, q.2, z3⟩
          · omega
        · exact Or.inr z1
    refine w_Search_forceWithin_37 hs wg ⟨nb, fun c => ⟨flb, ?_⟩, fun c => ?_⟩
    · refine out g fl wg fr.rfl (fun _ _ => rfl) ?_ ?_
      · rcases rk42 with z | z
        · exact absurd z.1 c
        · exact Or.inr ⟨by omega, z.2⟩
      · rcases flb with q | q
        · refine Or.inl ⟨q, q, fun c2 => ?_⟩
          rcases rk42 with z | z
          · exact absurd z.1 c
          · have := z.2.uniq c2; omega
        · exact Or.inr q
    · have no : ∀ k, k < K → ¬ fN a f k false st := by
        rcases rk42 with z | z
        · exact z.2
        · omega
      have key : (∀ e, 0 ≤ e → e ≤ a 4 → g.2.2.2 41 (nodeS (Tr a f st e)).toNat ≠ -1 ∧ g.2.2.2 41 (nodeS (Tr a f st e)).toNat < K) ↔ isF a f false st (K : Int) := by
        -- ranks below K are as they were
        have vv : ∀ s, Rch a f s → ∀ u : Nat, u < K → (g.2.2.2 41 (nodeS s).toNat = u ↔ isF a f true s u) := by
          intro s hs2 u hu
          by_cases q : (nodeS s).toNat = (nodeS st).toNat
          · have sb := node_b (hs2.ok r).1
            have es : s = st := (nodeS_inj so.1 (hs2.ok r).1 ev (by omega)).symm
            subst es
            exact rk41.iff (by omega) (by omega)
          · rw [e41 _ q]; exact v1 s hs2 u hu
        have bb : ∀ s, Rch a f s → -1 ≤ g.2.2.2 41 (nodeS s).toNat := by
          intro s hs2
          by_cases q : (nodeS s).toNat = (nodeS st).toNat
          · rw [q]
            rcases e41s with q2 | q2
            · omega
            · rw [q2]; exact b1 st hr
          · rw [e41 _ q]; exact b1 s hs2
        constructor
        · intro hall
          obtain ⟨j, hj⟩ : ∃ j, K = j + 1 := ⟨K - 1, by omega⟩
          refine Or.inr ⟨by omega, ?_, fun k hk => no k (by omega)⟩
          rw [Int.toNat_natCast, hj]
          refine Or.inr ⟨ho, Or.inr ⟨rfl, fun e h1 h2 => ?_⟩⟩
          have hh := hall e h1 h2
          have tr := hr.step (e := e) ho ⟨h1, h2⟩
          have := bb _ tr
          have isf := (vv _ tr (g.2.2.2 41 (nodeS (Tr a f st e)).toNat).toNat (by omega)).mp (by omega)
          rcases isf with ⟨q, _⟩ | ⟨_, q, _⟩
          · omega
          · rw [Int.toNat_natCast] at q
            exact fN_le (by omega) q
        · intro isf e h1 h2
          have tr := hr.step (e := e) ho ⟨h1, h2⟩
          rcases isf with ⟨q, _⟩ | ⟨_, q1, _⟩
          · omega
          · rw [Int.toNat_natCast] at q1
            obtain ⟨j, hj⟩ : ∃ j, K = j + 1 := ⟨K - 1, by omega⟩
            rw [hj] at q1
            rcases q1 with q1 | ⟨_, ⟨q, _⟩ | ⟨_, q1⟩⟩
            · exact absurd q1 (no 0 (by omega))
            · cases q
            · obtain ⟨m, m1, m2⟩ := exF_min j (q1 e h1 h2)
              have := (vv _ tr m (by omega)).mpr (isF.of m2 (by omega))
              omega
      refine k_allLead hs wg xg r (by omega) hr ho (fun z hz hiff => ⟨_, rfl, wg, fun c2 => ⟨flb, ?_⟩, fun c2 => ⟨nb, fun g7 e7 => ?_⟩⟩)
      · have nisf : ¬ isF a f false st (K : Int) := fun q => by have := hiff.mpr (key.mpr q); omega
        refine out g fl wg fr.rfl (fun _ _ => rfl) (Or.inl ⟨c, fun k hk => ?_⟩) ?_
        · by_cases q : k = K
          · rw [q]
            intro c3
            exact nisf (Or.inr ⟨by omega, by rw [Int.toNat_natCast]; exact c3, fun k hk => no k (by omega)⟩)
          · exact no k (by omega)
        · rcases flb with q | q
          · exact Or.inl ⟨q, q, nisf⟩
          · exact Or.inr q
      · have isf : isF a f false st (K : Int) := key.mp (hiff.mp (by omega))
        refine out g7 1 (by rw [e7]; exact wg.pa (by decide +kernel)) (by rw [e7]; exact fr.rfl.put (Or.inl (by decide))) (fun n hn => by rw [e7, put_ne (by omega)]) (Or.inr ?_) (Or.inr rfl)
        have : g7.2.2.2 42 (nodeS st).toNat = K := by rw [e7]; exact put_eq
        rw [this]
        exact ⟨by omega, isf⟩
  refine w_Search_forceWithin_0 hs hw ⟨nb, fun c => ?_, fun c => ?_⟩
  · refine half h 0 hw fr.rfl x (fun _ _ => rfl) (fun _ => rfl) ?_ (Or.inr rfl) (Or.inl ⟨rfl, fun c2 => ?_⟩)
    · rcases rk.1 with z | z
      · exact absurd z.1 c
      · exact Or.inr ⟨by omega, z.2⟩
    · rcases rk.1 with z | z
      · exact absurd z.1 c
      · have := z.2.uniq c2; omega
  · have no : ∀ k, k < K → ¬ fN a f k true st := by
      rcases rk.1 with z | z
      · exact z.2
      · omega
    rw [am_w_id (by omega) (by omega)]
    refine k_deedTo hs hw x r (Or.inr rfl) hr ho (fun z hz => ⟨_, rfl, hw, fun c2 => ?_, fun c2 => ⟨nb, fun g5 e5 => ?_⟩⟩)
    · have none : ∀ e, 0 ≤ e → e ≤ a 4 → h.2.2.2 42 (nodeS (Tr a f st e)).toNat ≠ (K : Int) - 1 := by
        rcases hz with z1 | z1
        · exact z1.2
        · have := z1.1.1; omega
      have nd : ¬ fN a f K true st := by
        intro q
        have ex : exF a f ((K - 1) + 1) true st := ⟨by rw [show K - 1 + 1 = K by omega]; exact q, fun k hk => no k (by omega)⟩
        obtain ⟨_, e, e1, e2⟩ := exF_down r.1.1.1 ex
        refine none e e1.1 e1.2 ?_
        have := (v2 _ (hr.step ho e1) (K - 1) (by omega)).mpr (isF.of e2 (by omega))
        omega
      refine half h 0 hw fr.rfl x (fun _ _ => rfl) (fun _ => rfl) (Or.inl ⟨c, fun k hk => ?_⟩) (Or.inr rfl) (Or.inl ⟨rfl, fun c3 => ?_⟩)
      · by_cases q : k = K
        · rw [q]; exact nd
        · exact no k (by omega)
      · rcases c3 with ⟨q, _⟩ | ⟨_, q, _⟩
        · omega
        · rw [Int.toNat_natCast] at q; exact nd q
    · have le : leastE a f (fun s => h.2.2.2 42 (nodeS s).toNat = (K : Int) - 1) st z := by
        rcases hz with z1 | z1
        · exact absurd z1.1 c2
        · exact z1
      have tr := hr.step (e := z) ho le.1
      have isf : isF a f false (Tr a f st z) ((K - 1 : Nat) : Int) := by
        have e := le.2.1
        rw [show (K : Int) - 1 = ((K - 1 : Nat) : Int) by omega] at e
        exact (v2 _ tr (K - 1) (by omega)).mp e
      have dk : isF a f true st (K : Int) := by
        refine Or.inr ⟨by omega, ?_, fun k hk => no k (by omega)⟩
        rw [Int.toNat_natCast]
        obtain ⟨j, hj⟩ : ∃ j, K = j + 1 := ⟨K - 1, by omega⟩
        rw [hj]
        refine Or.inr ⟨ho, Or.inl ⟨rfl, z, le.1, ?_⟩⟩
        rcases isf with ⟨q, _⟩ | ⟨_, q, _⟩
        · omega
        · rw [Int.toNat_natCast, show K - 1 = j by omega] at q; exact q
      have f5 : fr [41, 42] [] h g5 := by rw [e5]; exact fr.rfl.put (Or.inl (by decide))
      have v41 : g5.2.2.2 41 (nodeS st).toNat = K := by rw [e5]; exact put_eq
      refine half g5 1 (by rw [e5]; exact hw.pa (by decide +kernel)) f5 (x.fr f5 (by decide) (by simp)) (fun n hn => by rw [e5, put_ne (by omega)]) (fun n => by rw [e5, put_ne (by omega)]) (Or.inr ?_) (Or.inl v41) (Or.inr rfl)
      rw [v41]
      exact ⟨by omega, dk⟩
theorem k_forced_53 {b : am_H} {K : Nat} (hs : am_sc scr) (r : rok a f B) (hK : 1 ≤ K ∧ K ≤ 360) (KK : ∀ (g : am_H) (fl : Int), wf g → grP g a f → fr [41, 42] [] b g → (∀ st, Rch a f st → rk2 g a f st (K + 1)) → ((fl = 0 ∧ ∀ st, Rch a f st → ¬ isF a f true st (K : Int) ∧ ¬ isF a f false st (K : Int)) ∨ fl = 1) → am_R (am_prog scr) (d + 4) f_Search_forcedIn 22 [some (.inr (.inr (((40) : Nat) : Int))), some (.inl (fl)), some (.inl (((K + 1 : Nat) : Int))), none] [] g Q) : ∀ (m i : Nat) (g : am_H) (fl : Int), (i : Int) + m = g.2.2.2 30 7 → lvF b g a f K i fl → am_R (am_prog scr) (d + 4) f_Search_forcedIn 53 [some (.inr (.inr (((40) : Nat) : Int))), some (.inl (fl)), some (.inl ((K : Int))), some (.inl ((i : Int)))] [] g Q := by
  intro m
  induction m with
  | zero =>
    intro i g fl hi x
    obtain ⟨x1, x2, x3, x4, x5, x6⟩ := x
    refine w_Search_forcedIn_53 hs x1 ⟨fun _ y hy => ?_, fun c => by omega⟩
    rw [am_w_id (by omega) (by omega)] at hy
    obtain rfl : y = ((K + 1 : Nat) : Int) := by omega
    have all : ∀ st, Rch a f st → (ovT a st ∨ ∃ j : Nat, j < i ∧ g.2.2.2 36 j = nodeS st) := by
      intro st hr
      by_cases q : ovT a st
      · exact Or.inl q
      · obtain ⟨j, j1, j2⟩ := x2.2.1.2.2.2.1 st hr q
        exact Or.inr ⟨j, by omega, j2⟩
    refine KK g fl x1 x2 x3 (fun st hr => x4 st hr (all st hr)) ?_
    rcases x6 with ⟨y1, y2⟩ | y
    · exact Or.inl ⟨y1, fun st hr => y2 st hr (all st hr)⟩
    · exact Or.inr y
  | succ m ih =>
    intro i g fl hi x
    obtain ⟨x1, x2, x3, x4, x5, x6⟩ := x
    have cb := x2.2.1.2.1
    obtain ⟨st, s1, s2, s3, s4⟩ := x2.2.1.2.2.1 i (by omega)
    have so := s1.ok r
    have ev : ¬ st % 2 = 1 := fun q => s2 (Or.inr q)
    have nb := on_144 r so s2
    have own : ∀ j : Nat, j < i → g.2.2.2 36 j ≠ nodeS st := fun j hj => by rw [← s3]; exact x2.2.1.2.2.2.2 j i hj (by omega)
    have rk := x5 st s1 s2 own
    have inj : ∀ s, Rch a f s → nodeS s = nodeS st → s = st := fun s hs2 e => (nodeS_inj so.1 (hs2.ok r).1 ev e.symm).symm
    have flb : fl = 0 ∨ fl = 1 := by rcases x6 with q | q <;> omega
    refine w_Search_forcedIn_53 hs x1 ⟨fun c => by omega, fun _ => ⟨by omega, ?_⟩⟩
    rw [Int.toNat_natCast, s3]
    refine k_forceWithin hs x1 x2 r hK s1 s2 rk (fun s hs2 => ?_) (fun g2 z w2 f2 e2 rk2' hz => ⟨_, rfl, w2, fun y5 h5 y hy => ?_⟩)
    · by_cases q : ovT a s ∨ ∃ j : Nat, j < i ∧ g.2.2.2 36 j = nodeS s
      · exact Or.inr (x4 s hs2 q)
      · exact Or.inl (x5 s hs2 (fun c => q (Or.inl c)) (fun j hj c => q (Or.inr ⟨j, hj, c⟩)))
    · rw [am_w_id (by omega) (by omega)] at hy
      obtain rfl : y = ((i + 1 : Nat) : Int) := by omega
      have zb : z = 0 ∨ z = 1 := by rcases hz with q | q <;> omega
      have or5 : y5 = if fl = 0 ∧ z = 0 then 0 else 1 := by
        rw [h5]
        rcases flb with q | q <;> rcases zb with q2 | q2 <;> rw [q, q2] <;> decide +kernel
      have c36 : g2.2.2.2 36 = g.2.2.2 36 := f2.c 36 (by decide) (by simp)
      have tr : ∀ s K', Rch a f s → s ≠ st → rk2 g a f s K' → rk2 g2 a f s K' := by
        intro s K' hs2 ne z
        have sb := node_b (hs2.ok r).1
        have nn : (nodeS s).toNat ≠ (nodeS st).toNat := fun q => ne (inj s hs2 (by omega))
        have := e2 _ nn
        unfold rk2 rkB at z ⊢
        rw [this.1, this.2]
        exact z
      refine ih (i + 1) g2 y5 (by rw [f2.c 30 (by decide) (by simp)]; omega) ⟨w2, x2.fr f2 (by decide) (by simp), x3.trans f2, fun s hs2 hq => ?_, fun s hs2 hq hn => ?_, ?_⟩
      · by_cases q : s = st
        · rw [q]; exact rk2'
        · refine tr s _ hs2 q (x4 s hs2 ?_)
          rcases hq with hq | ⟨j, j1, j2⟩
          · exact Or.inl hq
          · rw [c36] at j2
            by_cases q2 : j = i
            · rw [q2, s3] at j2; exact absurd (inj s hs2 j2.symm) q
            · exact Or.inr ⟨j, by omega, j2⟩
      · have q : s ≠ st := by
          intro q
          rw [c36] at hn
          exact hn i (by omega) (by rw [q]; exact s3)
        refine tr s _ hs2 q (x5 s hs2 hq (fun j hj => ?_))
        have := hn j (by omega)
        rw [c36] at this
        exact this
      · by_cases q : fl = 0 ∧ z = 0
        · rw [if_pos q] at or5
          refine Or.inl ⟨or5, fun s hs2 hq => ?_⟩
          by_cases q2 : s = st
          · rw [q2]
            rcases hz with hz | hz
            · exact hz.2
            · omega
          · rcases x6 with ⟨_, y2⟩ | y
            · refine y2 s hs2 ?_
              rcases hq with hq | ⟨j, j1, j2⟩
              · exact Or.inl hq
              · rw [c36] at j2
                by_cases q3 : j = i
                · rw [q3, s3] at j2; exact absurd (inj s hs2 j2.symm) q2
                · exact Or.inr ⟨j, by omega, j2⟩
            · omega
        · rw [if_neg q] at or5
          exact Or.inr or5
theorem no_farF (h4 : 0 ≤ a 4) {K : Nat} (hK : 1 ≤ K) (hn : ∀ st, Rch a f st → ¬ isF a f true st (K : Int) ∧ ¬ isF a f false st (K : Int)) (hK2 : K ≤ 1000) {b : Bool} {st : Int} (hr : Rch a f st) (hno : ∀ k, k < K → ¬ fN a f k b st) : ∀ k, ¬ fN a f k b st := by
  intro k hk
  obtain ⟨m, m1, m2⟩ := exF_min k hk
  have : K ≤ m := by
    apply Decidable.byContradiction
    intro c
    exact hno m (by omega) m2.1
  obtain ⟨p, q, p0, q0, pi⟩ := exF_path h4 m hr m2
  have y := pi (m - K) (by omega)
  rw [show m - (m - K) = K by omega] at y
  have := isF.of y.2.1 (by omega)
  cases hq : q (m - K) with
  | true => rw [hq] at this; exact (hn _ y.1).1 this
  | false => rw [hq] at this; exact (hn _ y.1).2 this
theorem k_forcedIn (hs : am_sc scr) (hw : wf h) (x : grP h a f) (r : rok a f B) (H : ∀ g v (K : Nat), wf g → grP g a f → fr [41, 42] [] h g → isF a f true (stA a) v → K ≤ 361 → (∀ st, Rch a f st → rk2 g a f st K) → (v < 268435456 → v < K) → Q (some (.inl (if v = 268435456 then -1 else v))) g) : am_R (am_prog scr) (d + 4) f_Search_forcedIn 0 [some (.inr (.inr (((40) : Nat) : Int))), none, none, none] [] h Q := by
  have nb := node_b r.st.1
  have lp : ∀ (m K : Nat) (g : am_H) (fl : Int), K + m = 361 → 1 ≤ K → wf g → grP g a f → fr [41, 42] [] h g → (∀ st, Rch a f st → rk2 g a f st K) → ((fl = 0 ∧ 2 ≤ K ∧ ∀ st, Rch a f st → ¬ isF a f true st ((K - 1 : Nat) : Int) ∧ ¬ isF a f false st ((K - 1 : Nat) : Int)) ∨ fl = 1) → am_R (am_prog scr) (d + 4) f_Search_forcedIn 22 [some (.inr (.inr (((40) : Nat) : Int))), some (.inl (fl)), some (.inl ((K : Int))), none] [] g Q := by
    intro m
    induction m with
    | zero =>
      intro K g fl hK hK1 wg xg fg rk hf
      refine w_Search_forcedIn_22 hs wg ⟨fun _ => ?_, fun c => by omega⟩
      rw [xg.2.1.1]
      refine ⟨nb, ?_⟩
      rcases (rk _ Rch.zero).1 with ⟨z1, z2⟩ | ⟨z1, z2⟩
      · have nd : ∀ k, ¬ fN a f k true (stA a) := by
          intro k hk
          obtain ⟨j, j1, j2, j3⟩ := fN_small r Rch.zero hk
          exact z2 j (by omega) j3.1
        have := H g 268435456 K wg xg fg (Or.inl ⟨rfl, nd⟩) (by omega) rk (fun c => by omega)
        rw [if_pos rfl] at this
        rw [z1]; exact this
      · have := H g _ K wg xg fg z2 (by omega) rk (fun _ => z1.2)
        rw [if_neg (by omega)] at this
        exact this
    | succ m ih =>
      intro K g fl hK hK1 wg xg fg rk hf
      refine w_Search_forcedIn_22 hs wg ?_
      rw [xg.2.1.1]
      have set : g.2.2.2 41 (nodeS (stA a)).toNat ≠ -1 → Q (some (.inl (g.2.2.2 41 (nodeS (stA a)).toNat))) g := by
        intro c
        rcases (rk _ Rch.zero).1 with ⟨z1, z2⟩ | ⟨z1, z2⟩
        · exact absurd z1 c
        · have := H g _ K wg xg fg z2 (by omega) rk (fun _ => z1.2)
          rw [if_neg (by omega)] at this
          exact this
      refine ⟨fun c => by omega, fun _ => ⟨fun c => ⟨nb, ?_⟩, fun c => ⟨nb, fun c2 => ⟨nb, set c2⟩, fun c2 => ?_⟩⟩⟩
      · by_cases q : g.2.2.2 41 (nodeS (stA a)).toNat = -1
        · rcases hf with ⟨_, h2, h3⟩ | h1
          · have nd : ∀ k, ¬ fN a f k true (stA a) := by
              rcases (rk _ Rch.zero).1 with ⟨z1, z2⟩ | ⟨z1, z2⟩
              · exact no_farF r.1.1.1 (K := K - 1) (by omega) h3 (by omega) Rch.zero (fun k hk => z2 k (by omega))
              · omega
            have := H g 268435456 K wg xg fg (Or.inl ⟨rfl, nd⟩) (by omega) rk (fun c => by omega)
            rw [if_pos rfl] at this
            rw [q]; exact this
          · omega
        · exact set q
      · have cb := xg.2.1.2.1
        refine k_forced_53 (b := g) (K := K) hs r (by omega) (fun g2 fl2 w2 x2 f2 rk2 hf2 => ?_) (g.2.2.2 30 7).toNat 0 g 0 (by omega) ⟨wg, xg, fr.rfl, fun st hr hq => ?_, fun st hr _ _ => rk st hr, Or.inl ⟨rfl, fun st hr hq => ?_⟩⟩
        · refine ih (K + 1) g2 fl2 (by omega) (by omega) w2 x2 (fg.trans f2) rk2 ?_
          rcases hf2 with ⟨h1, h2⟩ | h1
          · exact Or.inl ⟨h1, by omega, by rw [show K + 1 - 1 = K by omega]; exact h2⟩
          · exact Or.inr h1
        · rcases hq with hq | ⟨j, hj, _⟩
          · exact ⟨(rk st hr).1.ov hq hK1, (rk st hr).2.ov hq hK1⟩
          · omega
        · rcases hq with hq | ⟨j, hj, _⟩
          · have nn : ∀ b, ¬ isF a f b st (K : Int) := by
              intro b q
              rcases q with ⟨q, _⟩ | ⟨_, q2, q3⟩
              · omega
              · exact q3 0 (by omega) (fN_ov hq _ q2)
            exact ⟨nn true, nn false⟩
          · omega
  have init : ∀ (g : am_H) (c : Nat) (b : Bool), (∀ n : Nat, n < 185 → g.2.2.2 c n = if (if (0 : Int) = 0 then n < 180 ∧ a 3 ≤ ((n : Int) / 36) else ¬ n < 180) then 0 else -1) → ∀ st, Rch a f st → rkB g c a f b st 1 := by
    intro g c b e st hr
    have so := hr.ok r
    have nb := node_b so.1
    have ee := e (nodeS st).toNat (by omega)
    have goal : (if (0 : Int) = 0 then (nodeS st).toNat < 180 ∧ a 3 ≤ ((((nodeS st).toNat : Nat) : Int) / 36) else ¬ (nodeS st).toNat < 180) ↔ actI st = a 3 := by
      have en : (((nodeS st).toNat : Nat) : Int) = nodeS st := by omega
      rw [if_pos rfl, en, ← end_iff so]
      omega
    unfold rkB
    rw [ee]
    by_cases q : actI st = a 3
    · rw [if_pos (goal.mpr q)]
      exact Or.inr ⟨by omega, Or.inr ⟨by omega, q, fun k hk => by omega⟩⟩
    · rw [if_neg (fun c => q (goal.mp c))]
      exact Or.inl ⟨rfl, fun k hk c => by rw [show k = 0 by omega] at c; exact q c⟩
  refine w_Search_forcedIn_0 hs hw ?_
  refine k_clear (w := 0) hs hw x.1 (Or.inl rfl) (fun g1 w1 f1 e1 => ⟨rfl, w1, ?_⟩)
  have x1 := x.fr f1 (by decide) (by simp)
  refine k_clear (w := 0) hs w1 x1.1 (Or.inr rfl) (fun g2 w2 f2 e2 => ⟨rfl, w2, ?_⟩)
  have x2 := x1.fr f2 (by decide) (by simp)
  refine lp 360 1 g2 1 rfl (by omega) w2 x2 ((f1.mono (by decide) (by simp)).trans (f2.mono (by decide) (by simp))) (fun st hr => ⟨?_, init g2 42 false e2 st hr⟩) (Or.inr rfl)
  have := init g1 41 true e1 st hr
  unfold rkB at this ⊢
  rw [f2.c 41 (by decide) (by simp)]
  exact this
theorem k_Sforces (hs : am_sc scr) (hw : wf h) (wo : wc h W) (x : plW h W 24 ser a) (r : rok a (W.2.2.1 ser) B) (hB : B < 900000) (y : grI h W B) (H : ∀ g z, wf g → fr SEL PPF h g → wc g W → grI g W (B + 400) → (∃ v, isF a (W.2.2.1 ser) true (stA a) v ∧ z = if v = 268435456 then -1 else v) → Q (some (.inl (z))) g) : am_R (am_prog scr) (d + 6) f_S_forces 0 [some (.inr (.inr (((0) : Nat) : Int)))] [] h Q := by
  refine w_S_forces_0 hs hw ?_
  refine k_prepare hs hw wo x r hB y (fun g1 w1 f1 wc1 y1 p1 => ⟨rfl, w1, ?_⟩)
  refine k_forcedIn hs w1 p1 r (fun g2 v K w2 x2 f2 isf hK rk hv => ⟨_, rfl, w2, ?_⟩)
  exact H g2 _ w2 ((f1.mono (by decide) (by decide)).trans (f2.mono (by decide) (by simp))) (wc1.fr f2 (by decide) (by simp)) (y1.fr f2 (by decide) (by simp) (by omega)) ⟨v, isf, rfl⟩
theorem k_Sbest (hs : am_sc scr) (hw : wf h) (wo : wc h W) (x : plW h W 24 ser a) (r : rok a (W.2.2.1 ser) B) (hB : B < 900000) (y : grI h W B) (H : ∀ g z, wf g → fr SEL PPF h g → wc g W → grI g W (B + 400) → bestP a (W.2.2.1 ser) z → Q (some (.inl (z))) g) : am_R (am_prog scr) (d + 6) f_S_best 0 [some (.inr (.inr (((0) : Nat) : Int)))] [] h Q := by
  refine w_S_best_0 hs hw ?_
  refine k_prepare hs hw wo x r hB y (fun g1 w1 f1 wc1 y1 p1 => ⟨rfl, w1, ?_⟩)
  refine w_Search_forcingDeed_0 hs w1 ?_
  refine k_forcedIn hs w1 p1 r (fun g2 v K w2 x2 f2 isf hK rk hv => ⟨_, rfl, w2, ?_⟩)
  have HH := fun z hz => H g2 z w2 ((f1.mono (by decide) (by decide)).trans (f2.mono (by decide) (by simp))) (wc1.fr f2 (by decide) (by simp)) (y1.fr f2 (by decide) (by simp) (by omega)) hz
  have vb : v = 268435456 ∨ (0 ≤ v ∧ v < 268435456) := by rcases isf with ⟨q, _⟩ | ⟨q, _⟩ <;> omega
  refine ⟨fun c => ⟨_, rfl, w2, HH _ ⟨v, isf, Or.inl ⟨?_, rfl⟩⟩⟩, fun c => ?_⟩
  · rcases vb with q | q
    · exact Or.inr q
    · rw [if_neg (by omega)] at c; omega
  · have vf : 0 < v ∧ v < 268435456 := by
      rcases vb with q | q
      · rw [if_pos q] at c; omega
      · rw [if_neg (by omega)] at c; omega
    have hvK := hv vf.2
    rw [if_neg (by omega), am_w_id (by omega) (by omega), x2.2.1.1]
    have ex : exF a (W.2.2.1 ser) ((v - 1).toNat + 1) true (stA a) := by
      rcases isf with ⟨c, _⟩ | ⟨_, c1, c2⟩
      · omega
      · rw [show (v - 1).toNat + 1 = v.toNat by omega]
        exact ⟨c1, fun k hk => c2 k (by omega)⟩
    obtain ⟨ho, e, e1, e2⟩ := exF_down r.1.1.1 ex
    have piff : ∀ e, 0 ≤ e → e ≤ a 4 → (g2.2.2.2 42 (nodeS (Tr a (W.2.2.1 ser) (stA a) e)).toNat = v - 1 ↔ isF a (W.2.2.1 ser) false (Tr a (W.2.2.1 ser) (stA a) e) (v - 1)) := by
      intro e h1 h2
      have := (rk _ (Rch.zero.step ho ⟨h1, h2⟩)).2.iff (u := (v - 1).toNat) (by omega) (by omega)
      rw [show (((v - 1).toNat : Nat) : Int) = v - 1 by omega] at this
      exact this
    refine k_deedTo hs w2 x2 r (Or.inr rfl) Rch.zero ho (fun z hz => ⟨_, rfl, w2, _, rfl, w2, HH _ ⟨v, isf, Or.inr ⟨vf, ?_⟩⟩⟩)
    rcases hz with ⟨_, z1⟩ | z1
    · exfalso
      have := isF.of e2 (by omega)
      rw [show (((v - 1).toNat : Nat) : Int) = v - 1 by omega] at this
      exact z1 e e1.1 e1.2 ((piff e e1.1 e1.2).mpr this)
    · exact z1.congr piff
end FX
/-! who can come to snore -/
def hofP (a : Nat → Int) (f : Nat → (Nat → Int) → Int) (s : Nat) : Prop := ∃ st e, Rch a f st ∧ ¬ ovT a st ∧ (0 ≤ e ∧ e ≤ a 4) ∧ Tr a f st e % 2 = 0 ∧ lastI (Tr a f st e) = (s : Int)
section HO
variable {scr : Nat × (Nat → Int)} {d : Nat} {h : am_H} {Q : Option am_V → am_H → Prop} {W : Wd} {ser : Nat} {a : Nat → Int} {f : Nat → (Nat → Int) → Int} {B : Int}
theorem k_MheardOf (hs : am_sc scr) (hw : wf h) (ha : h.2.2.2 110 = a) (r : rok a f B) (H : ∀ g z, wf g → fr [114, 115, 119, 120, 123] [(109, 0), (109, 29)] h g → isBits z 6 (hofP a f) → Q (some (.inl (z))) g) : am_R (am_prog scr) (d + 6) f_M_heardOf 0 [some (.inr (.inr ((109 : Nat) : Int))), none, none, none, none] [] h Q := by
  refine w_M_heardOf_0 hs hw (fun g1 q1 => ?_)
  have w1 : wf g1 := by rw [q1]; exact (put0 hw).1
  have f0 : fr [] [(109, 0)] h g1 := by rw [q1]; exact (put0 hw).2
  have a1 : g1.2.2.2 110 = a := (f0.c 110 (by simp) (by decide)).trans ha
  have f1 : fr [114, 115, 119, 120, 123] [(109, 0), (109, 29)] h g1 := f0.mono (by simp) (by decide)
  have h4 := r.1.1
  refine k_laysStands hs w1 a1 r (fun g wg fg x => ⟨rfl, wg, ?_⟩)
  have c29 := x.1
  -- those that were gone through
  have P2 : ∀ (i e s : Nat), Prop := fun i e s => ∃ (j e' : Nat), (j : Int) < g.2.2.2 109 29 ∧ e' < 7 ∧ (j < i ∨ (j = i ∧ e' < e)) ∧ thV a f (g.2.2.2 119 j) e' ≠ -1 ∧ thV a f (g.2.2.2 119 j) e' % 2 = 0 ∧ lastI (thV a f (g.2.2.2 119 j) e') = (s : Int)
  have fin : ∀ z, isBits z 6 (fun s => ∃ (j e' : Nat), (j : Int) < g.2.2.2 109 29 ∧ e' < 7 ∧ thV a f (g.2.2.2 119 j) e' ≠ -1 ∧ thV a f (g.2.2.2 119 j) e' % 2 = 0 ∧ lastI (thV a f (g.2.2.2 119 j) e') = (s : Int)) → Q (some (.inl (z))) g := by
    intro z hz
    refine H g z wg (f1.trans (fg.mono (by decide) (by decide))) (hz.same (fun s hs2 => ?_))
    constructor
    · rintro ⟨st, e, hr, ho, he, p1, p2⟩
      obtain ⟨j, j1, j2⟩ := x.2.2.1 st hr
      have tv : thV a f st e.toNat = Tr a f st e := by
        unfold thV
        rw [show ((e.toNat : Nat) : Int) = e by omega, if_pos ⟨ho, he.2⟩]
      have tb := (Tr_ok r (deed := e) (hr.ok r) ho).1
      refine ⟨j, e.toNat, j1, by omega, ?_⟩
      rw [j2, tv]
      exact ⟨by omega, p1, p2⟩
    · rintro ⟨j, e', j1, he, p0, p1, p2⟩
      have hr := x.2.1 j j1
      rcases thV_r r hr e' with q | ⟨q1, q2, q3, q4, q5⟩
      · exact absurd q p0
      · rw [q5] at p1 p2
        exact ⟨_, (e' : Int), hr, q3, ⟨by omega, q4⟩, p1, p2⟩
  have lp : ∀ (m i : Nat) (z : Int), (i : Int) + m = g.2.2.2 109 29 → isBits z 6 (fun s => ∃ (j e' : Nat), j < i ∧ e' < 7 ∧ thV a f (g.2.2.2 119 j) e' ≠ -1 ∧ thV a f (g.2.2.2 119 j) e' % 2 = 0 ∧ lastI (thV a f (g.2.2.2 119 j) e') = (s : Int)) → am_R (am_prog scr) (d + 6) f_M_heardOf 13 [some (.inr (.inr ((109 : Nat) : Int))), some (.inl (z)), some (.inl ((i : Int))), none, none] [] g Q := by
    intro m
    induction m with
    | zero =>
      intro i z hi hz
      refine w_M_heardOf_13 hs wg ⟨fun _ => fin z (hz.same (fun s _ => ?_)), fun c => by omega⟩
      constructor
      · rintro ⟨j, e', j1, j2⟩; exact ⟨j, e', by omega, j2⟩
      · rintro ⟨j, e', j1, j2⟩; exact ⟨j, e', by omega, j2⟩
    | succ m ih =>
      intro i z hi hz
      have hr := x.2.1 i (by omega)
      have so := (hr.ok r).1
      have inner : ∀ (n e : Nat) (z : Int), e + n = 7 → isBits z 6 (fun s => ∃ (j e' : Nat), (j < i ∧ e' < 7 ∨ (j = i ∧ e' < e)) ∧ thV a f (g.2.2.2 119 j) e' ≠ -1 ∧ thV a f (g.2.2.2 119 j) e' % 2 = 0 ∧ lastI (thV a f (g.2.2.2 119 j) e') = (s : Int)) → am_R (am_prog scr) (d + 6) f_M_heardOf 23 [some (.inr (.inr ((109 : Nat) : Int))), some (.inl (z)), some (.inl ((i : Int))), some (.inl ((e : Int))), none] [] g Q := by
        intro n
        induction n with
        | zero =>
          intro e z he hz
          refine w_M_heardOf_23 hs wg ⟨fun _ y hy => ?_, fun c => by omega⟩
          rw [am_w_id (by omega) (by omega)] at hy
          obtain rfl : y = ((i + 1 : Nat) : Int) := by omega
          refine ih (i + 1) z (by omega) (hz.same (fun s _ => ?_))
          constructor
          · rintro ⟨j, e', j1, j2, j3⟩; exact ⟨j, e', by omega, j3⟩
          · rintro ⟨j, e', j1, j3⟩; exact ⟨j, e', by omega, by omega, j3⟩
        | succ n ihn =>
          intro e z he hz
          have zb : 0 ≤ z ∧ z < 2147483648 := by have := hz.1; have := hz.2.1; omega
          have e7 : am_w (am_w (7 * g.2.2.2 119 i) + (e : Int)) = 7 * g.2.2.2 119 i + (e : Int) := by simp (disch := omega) only [am_w_id, am_W_id]
          have skip : (thV a f (g.2.2.2 119 i) e = -1 ∨ ¬ thV a f (g.2.2.2 119 i) e % 2 = 0) → ∀ y5, y5 = am_or z 0 → ∀ y6, y6 = am_w ((e : Int) + 1) → am_R (am_prog scr) (d + 6) f_M_heardOf 23 [some (.inr (.inr ((109 : Nat) : Int))), some (.inl (y5)), some (.inl ((i : Int))), some (.inl (y6)), none] [] g Q := by
            intro hq y5 h5 y6 h6
            rw [or_0 zb] at h5
            subst h5
            rw [am_w_id (by omega) (by omega)] at h6
            obtain rfl : y6 = ((e + 1 : Nat) : Int) := by omega
            refine ihn (e + 1) y5 (by omega) (hz.same (fun s _ => ?_))
            constructor
            · rintro ⟨j, e', j1, j2, j3, j4⟩
              by_cases q : j = i ∧ e' = e
              · rw [q.1, q.2] at j2 j3
                rcases hq with hq | hq
                · exact absurd hq j2
                · exact absurd j3 hq
              · exact ⟨j, e', by omega, j2, j3, j4⟩
            · rintro ⟨j, e', j1, j2⟩; exact ⟨j, e', by omega, j2⟩
          refine w_M_heardOf_23 hs wg ⟨fun c => by omega, fun _ => ⟨by omega, ?_⟩⟩
          rw [Int.toNat_natCast, e7, x.2.2.2.2 _ hr e (by omega)]
          refine ⟨by omega, fun y4 h4' => ?_⟩
          subst h4'
          rcases thV_r r hr e with q | ⟨q1, q2, q3, q4, q5⟩
          · exact ⟨fun _ => skip (Or.inl q), fun c => absurd q c⟩
          · refine ⟨fun c => by omega, fun _ => ?_⟩
            rw [tm q2.1]
            refine ⟨fun c => skip (Or.inr c), fun c => ?_⟩
            refine k_lastIn hs wg (by omega) ⟨_, rfl, wg, fun y11 h11 y12 h12 => ?_⟩
            have lb := lastI_b q2.1
            rw [am_w_id (by omega) (by omega)] at h12
            obtain rfl : y12 = ((e + 1 : Nat) : Int) := by omega
            subst h11
            refine ihn (e + 1) _ (by omega) (hz.or (by omega) (by omega) (fun s _ => ?_))
            constructor
            · rintro ⟨j, e', j1, j2, j3, j4⟩
              by_cases q : j = i ∧ e' = e
              · rw [q.1, q.2] at j4
                exact Or.inr j4.symm
              · exact Or.inl ⟨j, e', by omega, j2, j3, j4⟩
            · rintro (⟨j, e', j1, j2⟩ | j1)
              · exact ⟨j, e', by omega, j2⟩
              · exact ⟨i, e, by omega, by omega, c, j1.symm⟩
      refine w_M_heardOf_13 hs wg ⟨fun c => by omega, fun _ => ?_⟩
      refine inner 7 0 z rfl (hz.same (fun s _ => ?_))
      constructor
      · rintro ⟨j, e', j1, j3⟩; exact ⟨j, e', by omega, by omega, j3⟩
      · rintro ⟨j, e', j1, j2, j3⟩; exact ⟨j, e', by omega, j3⟩
  exact lp (g.2.2.2 109 29).toNat 0 0 (by omega) (isBits.zero (fun s _ => by rintro ⟨j, e', j1, _⟩; omega))
theorem k_SheardOf (hs : am_sc scr) (hw : wf h) (wo : wc h W) (x : plW h W 24 ser a) (r : rok a (W.2.2.1 ser) B) (hB : B < 900000) (y : grI h W B) (H : ∀ g z, wf g → fr PPL PPF h g → wc g W → grI g W (B + 400) → isBits z 6 (hofP a (W.2.2.1 ser)) → Q (some (.inl (z))) g) : am_R (am_prog scr) (d + 6) f_S_heardOf 0 [some (.inr (.inr (((0) : Nat) : Int)))] [] h Q := by
  have h4 := r.1.1
  refine w_S_heardOf_0 hs hw ?_
  refine k_prepare hs hw wo x r hB y (fun g w1 f1 wc1 y1 p1 => ⟨rfl, w1, ?_⟩)
  have cb := p1.2.1.2.1
  generalize hf : W.2.2.1 ser = f at r p1 H
  have HH := fun z hz => H g z w1 f1 wc1 y1 hz
  clear H
  have lp : ∀ (m i : Nat) (z : Int), (i : Int) + m = g.2.2.2 30 7 → isBits z 6 (fun s => ∃ (j : Nat) (st e : Int), j < i ∧ Rch a f st ∧ ¬ ovT a st ∧ g.2.2.2 36 j = nodeS st ∧ (0 ≤ e ∧ e ≤ a 4) ∧ Tr a f st e % 2 = 0 ∧ lastI (Tr a f st e) = (s : Int)) → am_R (am_prog scr) (d + 5) f_Search_snorers 4 [some (.inr (.inr (((40) : Nat) : Int))), some (.inl (z)), some (.inl ((i : Int))), none, none] [] g (fun v g2 => ∃ r3 : Int, v = some (.inl (r3)) ∧ wf g2 ∧ (Q (some (.inl (r3))) g2)) := by
    intro m
    induction m with
    | zero =>
      intro i z hi hz
      refine w_Search_snorers_4 hs w1 ⟨fun _ => ⟨_, rfl, w1, HH z (hz.same (fun s _ => ?_))⟩, fun c => by omega⟩
      constructor
      · rintro ⟨st, e, hr, ho, he, p⟩
        obtain ⟨j, j1, j2⟩ := p1.2.1.2.2.2.1 st hr ho
        exact ⟨j, st, e, by omega, hr, ho, j2, he, p⟩
      · rintro ⟨j, st, e, j1, hr, ho, j2, he, p⟩; exact ⟨st, e, hr, ho, he, p⟩
    | succ m ih =>
      intro i z hi hz
      obtain ⟨st, s1, s2, s3, s4⟩ := p1.2.1.2.2.1 i (by omega)
      have so := s1.ok r
      have ev : ¬ st % 2 = 1 := fun q => s2 (Or.inr q)
      have inner : ∀ (n e : Nat) (z : Int), e + n = 8 → isBits z 6 (fun s => (∃ (j : Nat) (st e : Int), j < i ∧ Rch a f st ∧ ¬ ovT a st ∧ g.2.2.2 36 j = nodeS st ∧ (0 ≤ e ∧ e ≤ a 4) ∧ Tr a f st e % 2 = 0 ∧ lastI (Tr a f st e) = (s : Int)) ∨ ∃ e', (0 ≤ e' ∧ e' ≤ a 4 ∧ e' < (e : Int)) ∧ Tr a f st e' % 2 = 0 ∧ lastI (Tr a f st e') = (s : Int)) → am_R (am_prog scr) (d + 5) f_Search_snorers 17 [some (.inr (.inr (((40) : Nat) : Int))), some (.inl (z)), some (.inl ((i : Int))), some (.inl ((e : Int))), none] [] g (fun v g2 => ∃ r3 : Int, v = some (.inl (r3)) ∧ wf g2 ∧ (Q (some (.inl (r3))) g2)) := by
        have up : ∀ (e : Nat) (z : Int), a 4 < (e : Int) → isBits z 6 (fun s => (∃ (j : Nat) (st e : Int), j < i ∧ Rch a f st ∧ ¬ ovT a st ∧ g.2.2.2 36 j = nodeS st ∧ (0 ≤ e ∧ e ≤ a 4) ∧ Tr a f st e % 2 = 0 ∧ lastI (Tr a f st e) = (s : Int)) ∨ ∃ e', (0 ≤ e' ∧ e' ≤ a 4 ∧ e' < (e : Int)) ∧ Tr a f st e' % 2 = 0 ∧ lastI (Tr a f st e') = (s : Int)) → ∀ y3, y3 = am_w ((i : Int) + 1) → am_R (am_prog scr) (d + 5) f_Search_snorers 4 [some (.inr (.inr (((40) : Nat) : Int))), some (.inl (z)), some (.inl (y3)), none, none] [] g (fun v g2 => ∃ r3 : Int, v = some (.inl (r3)) ∧ wf g2 ∧ (Q (some (.inl (r3))) g2)) := by
          intro e z he hz y3 h3
          rw [am_w_id (by omega) (by omega)] at h3
          obtain rfl : y3 = ((i + 1 : Nat) : Int) := by omega
          refine ih (i + 1) z (by omega) (hz.same (fun s _ => ?_))
          constructor
          · rintro ⟨j, st', e', j1, hr, ho, j2, he', p⟩
            by_cases q : j = i
            · rw [q, s3] at j2
              have es := nodeS_inj so.1 (hr.ok r).1 ev j2
              subst es
              exact Or.inr ⟨e', by omega, p⟩
            · exact Or.inl ⟨j, st', e', by omega, hr, ho, j2, he', p⟩
          · rintro (⟨j, st', e', j1, p⟩ | ⟨e', he', p⟩)
            · exact ⟨j, st', e', by omega, p⟩
            · exact ⟨i, st, e', by omega, s1, s2, s3, by omega, p⟩
        intro n
        induction n with
        | zero =>
          intro e z he hz
          refine w_Search_snorers_17 hs w1 ?_
          exact k_gSleepers hs w1 p1.1 ⟨_, rfl, w1, fun c => up e z (by omega) hz, fun c => by omega⟩
        | succ n ihn =>
          intro e z he hz
          refine w_Search_snorers_17 hs w1 ?_
          refine k_gSleepers hs w1 p1.1 ⟨_, rfl, w1, fun c => up e z (by omega) hz, fun c => ⟨by omega, ?_⟩⟩
          rw [Int.toNat_natCast, s3]
          refine k_after hs w1 p1.2.2 r so s2 (p1.2.1.known r s1 s2) (by omega) ⟨_, rfl, w1, ?_⟩
          have so2 := Tr_ok r (deed := (e : Int)) so s2
          refine k_gStill hs w1 ⟨_, rfl, w1, fun c2 y9 h9 => ?_, fun c2 => ?_⟩
          · have od : Tr a f st e % 2 = 1 := by
              apply Decidable.byContradiction; intro q; have := nodeS_e so2.1 q; rw [if_pos (by omega)] at c2; omega
            rw [am_w_id (by omega) (by omega)] at h9
            obtain rfl : y9 = ((e + 1 : Nat) : Int) := by omega
            refine ihn (e + 1) z (by omega) (hz.same (fun s _ => ?_))
            constructor
            · rintro (p | ⟨e', he', p⟩)
              · exact Or.inl p
              · by_cases q : e' = e
                · rw [q] at p; omega
                · exact Or.inr ⟨e', by omega, p⟩
            · rintro (p | ⟨e', he', p⟩)
              · exact Or.inl p
              · exact Or.inr ⟨e', by omega, p⟩
          · have ev2 : ¬ Tr a f st e % 2 = 1 := by
              intro q; have := nodeS_o so2.1 q; rw [if_neg (by omega)] at c2; omega
            have ne := nodeS_e so2.1 ev2
            refine k_gLast hs w1 (by omega) ⟨_, rfl, w1, fun y12 h12 y13 h13 => ?_⟩
            rw [ne.2.2.2.1] at h12
            have lb := lastI_b so2.1.1
            rw [am_w_id (by omega) (by omega)] at h13
            obtain rfl : y13 = ((e + 1 : Nat) : Int) := by omega
            subst h12
            refine ihn (e + 1) _ (by omega) (hz.or (by omega) (by omega) (fun s _ => ?_))
            constructor
            · rintro (p | ⟨e', he', p⟩)
              · exact Or.inl (Or.inl p)
              · by_cases q : e' = e
                · rw [q] at p; exact Or.inr p.2.symm
                · exact Or.inl (Or.inr ⟨e', by omega, p⟩)
            · rintro ((p | ⟨e', he', p⟩) | p)
              · exact Or.inl p
              · exact Or.inr ⟨e', by omega, p⟩
              · exact Or.inr ⟨(e : Int), by omega, by omega, p.symm⟩
      refine w_Search_snorers_4 hs w1 ⟨fun c => by omega, fun _ => ?_⟩
      refine inner 8 0 z rfl (hz.same (fun s _ => ?_))
      constructor
      · rintro (p | ⟨e', he', p⟩)
        · exact p
        · omega
      · exact fun p => Or.inl p
  exact w_Search_snorers_0 hs w1 (lp (g.2.2.2 30 7).toNat 0 0 (by omega) (isBits.zero (fun s _ => by rintro ⟨j, st, e, j1, _⟩; omega)))
end HO
