/-! the class: fewest beats -/
theorem leastE_ex {a : Nat → Int} {f : Nat → (Nat → Int) → Int} {P : Int → Prop} {st : Int} (h : ∃ e, (0 ≤ e ∧ e ≤ a 4) ∧ P (Tr a f st e)) : ∃ e, leastE a f P st e := by
  obtain ⟨e, h1, h2⟩ := h
  obtain ⟨n, hn⟩ : ∃ n : Nat, e = n := ⟨e.toNat, by omega⟩
  subst hn
  induction n using Nat.strongRecOn with
  | _ n ih =>
    by_cases q : ∃ m : Nat, m < n ∧ P (Tr a f st m)
    · obtain ⟨m, m1, m2⟩ := q
      exact ih m m1 (by omega) m2
    · refine ⟨(n : Int), h1, h2, fun e' h3 h4 c => q ⟨e'.toNat, by omega, ?_⟩⟩
      rw [show ((e'.toNat : Nat) : Int) = e' by omega]
      exact c
/-- ranks: all numbers of beats below K are told -/
def rkI (h : am_H) (a : Nat → Int) (f : Nat → (Nat → Int) → Int) (w : Int) (st : Int) (K : Nat) : Prop := (h.2.2.2 41 (nodeS st).toNat = -1 ∧ ∀ k, k < K → ¬ dN a f w k st) ∨ ((0 ≤ h.2.2.2 41 (nodeS st).toNat ∧ h.2.2.2 41 (nodeS st).toNat < K) ∧ isD a f w st (h.2.2.2 41 (nodeS st).toNat))
section SE
variable {scr : Nat × (Nat → Int)} {d : Nat} {h : am_H} {Q : Option am_V → am_H → Prop} {W : Wd} {ser : Nat} {a : Nat → Int} {f : Nat → (Nat → Int) → Int} {w B : Int}
theorem rkI.iff {st : Int} {K : Nat} (x : rkI h a f w st K) {u : Nat} (hu : u < K) (hK : K ≤ 1000) : h.2.2.2 41 (nodeS st).toNat = u ↔ isD a f w st u := by
  rcases x with ⟨x1, x2⟩ | ⟨x1, x2⟩
  · refine ⟨fun c => by omega, fun c => ?_⟩
    rcases c with ⟨c1, _⟩ | ⟨c1, c2, _⟩
    · omega
    · rw [Int.toNat_natCast] at c2
      exact absurd c2 (x2 u hu)
  · exact ⟨fun c => by rw [← c]; exact x2, fun c => x2.uniq c⟩
theorem k_clear {c : Nat} (hs : am_sc scr) (hw : wf h) (x : ghs h a) (hc : c = 41 ∨ c = 42) (H : ∀ g, wf g → fr [c] [] h g → (∀ n : Nat, n < 185 → g.2.2.2 c n = if (if w = 0 then n < 180 ∧ a 3 ≤ ((n : Int) / 36) else ¬ n < 180) then 0 else -1) → Q none g) : am_R (am_prog scr) (d + 2) f_Search_clear 0 [some (.inr (.inr (((40) : Nat) : Int))), some (.inr (.inr (((c) : Nat) : Int))), some (.inl (w)), none] [] h Q := by
  have hk : c < 133 ∧ wk c = (1, 185) ∧ c ∉ wr_o ∧ c ≠ 31 ∧ c ≠ 21 := by rcases hc with rfl | rfl <;> decide +kernel
  refine w_Search_clear_0 hs hw ?_
  refine down (n := 185) (I := fillI h c 0 (fun n => if (if w = 0 then n < 180 ∧ a 3 ≤ ((n : Int) / 36) else ¬ n < 180) then 0 else -1)) (R := fun i g => am_R (am_prog scr) (d + 2) f_Search_clear 2 [some (.inr (.inr (((40) : Nat) : Int))), some (.inr (.inr (((c) : Nat) : Int))), some (.inl (w)), some (.inl ((i : Int)))] [] g Q) ?_ ?_ 185 0 h (by omega) (fillI.zero hw)
  · intro g hI
    refine w_Search_clear_2 hs hI.1 ⟨hI.1.l hk.1 hk.2.1 (by omega), ?_⟩
    rw [Int.toNat_natCast, hI.1.k hk.1 hk.2.1]
    refine ⟨fun _ => H g hI.1 hI.2.1 (fun n hn => by rw [hI.2.2 n, if_pos (by omega)]), fun c => by simp only at c; omega⟩
  · intro i g hi hI k
    have xg : ghs g a := x.fr hI.2.1 (by simp; omega) (by simp)
    refine w_Search_clear_2 hs hI.1 ⟨hI.1.l hk.1 hk.2.1 (by omega), ?_⟩
    rw [Int.toNat_natCast, hI.1.k hk.1 hk.2.1]
    refine ⟨fun c => by simp only at c; omega, fun _ => ?_⟩
    have nx : ∀ (v : Int) (g2 : am_H), v = (if (if w = 0 then i < 180 ∧ a 3 ≤ ((i : Int) / 36) else ¬ i < 180) then 0 else -1) → g2 = am_put g c (i : Int).toNat v → ∀ y, y = am_w ((i : Int) + 1) → am_R (am_prog scr) (d + 2) f_Search_clear 2 [some (.inr (.inr (((40) : Nat) : Int))), some (.inr (.inr (((c) : Nat) : Int))), some (.inl (w)), some (.inl (y))] [] g2 Q := by
      intro v g2 hv e2 y hy
      rw [am_w_id (by omega) (by omega)] at hy
      subst hy
      refine k g2 ?_
      rw [e2]
      exact hI.put hk.2.2.1 (by omega) (by rw [hv, Nat.zero_add])
    have fin : ∀ z : Int, (z = 0 ∨ z = 1) → (z = 1 ↔ (if w = 0 then i < 180 ∧ a 3 ≤ ((i : Int) / 36) else ¬ i < 180)) → ((z = 0 → ((am_inA g ((c : Nat) : Int) 1 (i : Int)) ∧ ((((c : Nat) : Int).toNat ∉ wr_o) ∧ (∀ h6 : am_H, h6 = am_put g ((c : Nat) : Int).toNat (i : Int).toNat (-1) → (∀ y7 : Int, y7 = am_w ((i : Int) + 1) → (am_R (am_prog scr) (d + 2) f_Search_clear 2 [some (.inr (.inr (((40) : Nat) : Int))), some (.inr (.inr (((c) : Nat) : Int))), some (.inl (w)), some (.inl (y7))] [] h6 Q)))))) ∧ (¬ (z = 0) → ((am_inA g ((c : Nat) : Int) 1 (i : Int)) ∧ ((((c : Nat) : Int).toNat ∉ wr_o) ∧ (∀ h10 : am_H, h10 = am_put g ((c : Nat) : Int).toNat (i : Int).toNat 0 → (∀ y11 : Int, y11 = am_w ((i : Int) + 1) → (am_R (am_prog scr) (d + 2) f_Search_clear 2 [some (.inr (.inr (((40) : Nat) : Int))), some (.inr (.inr (((c) : Nat) : Int))), some (.inl (w)), some (.inl (y11))] [] h10 Q))))))) := by
      intro z hz hiff
      rw [Int.toNat_natCast]
      refine ⟨fun c1 => ⟨hI.1.a hk.1 hk.2.1 (by omega) (by omega), hk.2.2.1, fun g2 e2 y hy => nx _ g2 ?_ e2 y hy⟩, fun c1 => ⟨hI.1.a hk.1 hk.2.1 (by omega) (by omega), hk.2.2.1, fun g2 e2 y hy => nx _ g2 ?_ e2 y hy⟩⟩
      · rw [if_neg (fun q => by have := hiff.mpr q; omega)]
      · rw [if_pos (hiff.mp (by omega))]
    refine w_Search_isGoal_0 hs hI.1 ⟨fun c1 => ?_, fun c1 => ?_⟩
    · refine k_gEndN hs hI.1 xg (by omega) ⟨_, rfl, hI.1, by split <;> simp, _, rfl, hI.1, fin _ (by split <;> simp) ?_⟩
      rw [if_pos c1]
      by_cases q : (i : Int) < 180 ∧ a 3 ≤ (i : Int) / 36
      · rw [if_pos q]; exact ⟨fun _ => ⟨by omega, q.2⟩, fun _ => rfl⟩
      · rw [if_neg q]; exact ⟨fun c => by omega, fun c => absurd ⟨by omega, c.2⟩ q⟩
    · refine k_gStill hs hI.1 ⟨_, rfl, hI.1, by split <;> simp, _, rfl, hI.1, fin _ (by split <;> simp) ?_⟩
      rw [if_neg c1]
      by_cases q : (i : Int) < 180
      · rw [if_pos q]; exact ⟨fun c => by omega, fun c => absurd (by omega) c⟩
      · rw [if_neg q]; exact ⟨fun _ => by omega, fun _ => rfl⟩
theorem k_deedTo {c : Nat} {st wt : Int} (hs : am_sc scr) (hw : wf h) (x : grP h a f) (r : rok a f B) (hc : c = 41 ∨ c = 42) (hr : Rch a f st) (ho : ¬ ovT a st) (H : ∀ z, ((z = -1 ∧ ∀ e, 0 ≤ e → e ≤ a 4 → h.2.2.2 c (nodeS (Tr a f st e)).toNat ≠ wt) ∨ leastE a f (fun s => h.2.2.2 c (nodeS s).toNat = wt) st z) → Q (some (.inl (z))) h) : am_R (am_prog scr) (d + 2) f_Search_deedTo 0 [some (.inr (.inr (((40) : Nat) : Int))), some (.inr (.inr (((c) : Nat) : Int))), some (.inl (nodeS st)), some (.inl (wt)), none] [] h Q := by
  have hk : c < 133 ∧ wk c = (1, 185) := by rcases hc with rfl | rfl <;> decide +kernel
  have h4 := r.1.1
  have so := hr.ok r
  have kn := x.2.1.known r hr ho
  have lp : ∀ (m e : Nat), e + m = 8 → (∀ e', 0 ≤ e' → e' < (e : Int) → h.2.2.2 c (nodeS (Tr a f st e')).toNat ≠ wt) → am_R (am_prog scr) (d + 2) f_Search_deedTo 3 [some (.inr (.inr (((40) : Nat) : Int))), some (.inr (.inr (((c) : Nat) : Int))), some (.inl (nodeS st)), some (.inl (wt)), some (.inl ((e : Int)))] [] h Q := by
    intro m
    induction m with
    | zero =>
      intro e he p
      refine w_Search_deedTo_3 hs hw ?_
      refine k_gSleepers hs hw x.1 ⟨_, rfl, hw, fun _ => H _ (Or.inl ⟨rfl, fun e' h1 h2 => p e' h1 (by omega)⟩), fun c => by omega⟩
    | succ m ih =>
      intro e he p
      refine w_Search_deedTo_3 hs hw ?_
      refine k_gSleepers hs hw x.1 ⟨_, rfl, hw, fun _ => H _ (Or.inl ⟨rfl, fun e' h1 h2 => p e' h1 (by omega)⟩), fun c1 => ?_⟩
      refine k_after hs hw x.2.2 r so ho kn (by omega) ⟨_, rfl, hw, ?_⟩
      have nb := node_b (Tr_ok r (deed := (e : Int)) so ho).1
      refine ⟨hw.a hk.1 hk.2 nb.1 nb.2, fun c2 y hy => ?_, fun c2 => ?_⟩
      · rw [Int.toNat_natCast] at c2
        rw [am_w_id (by omega) (by omega)] at hy
        obtain rfl : y = ((e + 1 : Nat) : Int) := by omega
        refine ih (e + 1) (by omega) (fun e' h1 h2 => ?_)
        by_cases q : e' = e
        · rw [q]; exact c2
        · exact p e' h1 (by omega)
      · rw [Int.toNat_natCast] at c2
        exact H _ (Or.inr ⟨⟨by omega, by omega⟩, c2, fun e' h1 h2 => p e' h1 h2⟩)
  exact w_Search_deedTo_0 hs hw (lp 8 0 rfl (fun e' h1 h2 => by omega))
/-- no stand at just K beats: none farther -/
theorem no_far {K : Nat} (hK : 1 ≤ K) (hn : ∀ st, Rch a f st → ¬ isD a f w st (K : Int)) (hK2 : K ≤ 1000) {st : Int} (hr : Rch a f st) (hno : ∀ k, k < K → ¬ dN a f w k st) : ∀ k, ¬ dN a f w k st := by
  intro k hk
  obtain ⟨m, m1, m2, m3⟩ := dN_min k hk
  have : K ≤ m := by
    apply Decidable.byContradiction
    intro c
    exact hno m (by omega) m2
  obtain ⟨p, p0, pi⟩ := dN_path m hr m2 m3
  have y := pi (m - K) (by omega)
  rw [show m - (m - K) = K by omega] at y
  exact hn _ y.1 (Or.inr ⟨by omega, by rw [Int.toNat_natCast]; exact y.2.1, fun k hk => y.2.2.1 k (by omega)⟩)
theorem dN_ov {st : Int} (ho : ovT a st) : ∀ k, dN a f w k st → soB a w st = true := by
  intro k hk
  cases k with
  | zero => exact hk
  | succ k =>
    rcases hk with q | q
    · exact q
    · exact absurd ho q.1
theorem rkI.ov {g : am_H} {st : Int} {K : Nat} (ho : ovT a st) (x : rkI h a f w st K) (hK : 1 ≤ K) (e : g.2.2.2 41 (nodeS st).toNat = h.2.2.2 41 (nodeS st).toNat) : rkI g a f w st (K + 1) := by
  unfold rkI
  rw [e]
  rcases x with ⟨x1, x2⟩ | ⟨x1, x2⟩
  · refine Or.inl ⟨x1, fun k hk c => ?_⟩
    exact x2 0 (by omega) (dN_ov ho k c)
  · exact Or.inr ⟨by omega, x2⟩
/-- one level: places ahead of i are done -/
def lvI (b g : am_H) (a : Nat → Int) (f : Nat → (Nat → Int) → Int) (w : Int) (K : Nat) (i : Nat) (fl : Int) : Prop := wf g ∧ grP g a f ∧ fr [41] [] b g ∧ (∀ st, Rch a f st → (ovT a st ∨ ∃ j : Nat, j < i ∧ g.2.2.2 36 j = nodeS st) → rkI g a f w st (K + 1)) ∧ (∀ st, Rch a f st → ¬ ovT a st → (∀ j : Nat, j < i → g.2.2.2 36 j ≠ nodeS st) → rkI g a f w st K) ∧ ((fl = 0 ∧ ∀ st, Rch a f st → (ovT a st ∨ ∃ j : Nat, j < i ∧ g.2.2.2 36 j = nodeS st) → ¬ isD a f w st (K : Int)) ∨ fl = 1)
theorem k_few_45 {b : am_H} {K : Nat} (hs : am_sc scr) (r : rok a f B) (hK : 1 ≤ K ∧ K ≤ 180) (KK : ∀ (g : am_H) (fl : Int), wf g → grP g a f → fr [41] [] b g → (∀ st, Rch a f st → rkI g a f w st (K + 1)) → ((fl = 0 ∧ ∀ st, Rch a f st → ¬ isD a f w st (K : Int)) ∨ fl = 1) → am_R (am_prog scr) (d + 3) f_Search_fewest 13 [some (.inr (.inr (((40) : Nat) : Int))), some (.inl (w)), some (.inl (fl)), some (.inl (((K + 1 : Nat) : Int))), none, none] [] g Q) : ∀ (m i : Nat) (g : am_H) (fl : Int), (i : Int) + m = g.2.2.2 30 7 → lvI b g a f w K i fl → am_R (am_prog scr) (d + 3) f_Search_fewest 45 [some (.inr (.inr (((40) : Nat) : Int))), some (.inl (w)), some (.inl (fl)), some (.inl ((K : Int))), some (.inl ((i : Int))), none] [] g Q := by
  intro m
  induction m with
  | zero =>
    intro i g fl hi x
    obtain ⟨x1, x2, x3, x4, x5, x6⟩ := x
    refine w_Search_fewest_45 hs x1 ⟨fun _ y hy => ?_, fun c => by omega⟩
    rw [am_w_id (by omega) (by omega)] at hy
    obtain rfl : y = ((K + 1 : Nat) : Int) := by omega
    have all : ∀ st, Rch a f st → (ovT a st ∨ ∃ j : Nat, j < i ∧ g.2.2.2 36 j = nodeS st) := by
      intro st hr
      by_cases q : ovT a st
      · exact Or.inl q
      · obtain ⟨j, j1, j2⟩ := x2.2.1.2.2.2.1 st hr q
        exact Or.inr ⟨j, by omega, j2⟩
    refine KK g fl x1 x2 x3 (fun st hr => x4 st hr (all st hr)) ?_
    rcases x6 with ⟨y1, y2⟩ | y
    · exact Or.inl ⟨y1, fun st hr => y2 st hr (all st hr)⟩
    · exact Or.inr y
  | succ m ih =>
    intro i g fl hi x
    obtain ⟨x1, x2, x3, x4, x5, x6⟩ := x
    have cb := x2.2.1.2.1
    obtain ⟨st, s1, s2, s3, s4⟩ := x2.2.1.2.2.1 i (by omega)
    have so := s1.ok r
    have ev : ¬ st % 2 = 1 := fun q => s2 (Or.inr q)
    have nb := on_144 r so s2
    have own : ∀ j : Nat, j < i → g.2.2.2 36 j ≠ nodeS st := fun j hj => by rw [← s3]; exact x2.2.1.2.2.2.2 j i hj (by omega)
    have rk := x5 st s1 s2 own
    have inj : ∀ s, Rch a f s → nodeS s = nodeS st → s = st := fun s hs2 e => (nodeS_inj so.1 (hs2.ok r).1 ev e.symm).symm
    -- what a place more says
    have more : ∀ (g2 : am_H) (fl2 : Int), wf g2 → fr [41] [] g g2 → (∀ s, Rch a f s → s ≠ st → g2.2.2.2 41 (nodeS s).toNat = g.2.2.2 41 (nodeS s).toNat) → rkI g2 a f w st (K + 1) → ((fl2 = 0 ∧ fl = 0 ∧ ¬ isD a f w st (K : Int)) ∨ fl2 = 1) → lvI b g2 a f w K (i + 1) fl2 := by
      intro g2 fl2 w2 f2 e2 rk2 hf
      have c36 : g2.2.2.2 36 = g.2.2.2 36 := f2.c 36 (by decide) (by simp)
      have tr : ∀ s K', Rch a f s → s ≠ st → rkI g a f w s K' → rkI g2 a f w s K' := by
        intro s K' hs2 ne z
        unfold rkI
        rw [e2 s hs2 ne]
        exact z
      refine ⟨w2, x2.fr f2 (by decide) (by simp), x3.trans f2, fun s hs2 hq => ?_, fun s hs2 hq hn => ?_, ?_⟩
      · by_cases q : s = st
        · rw [q]; exact rk2
        · refine tr s _ hs2 q (x4 s hs2 ?_)
          rcases hq with hq | ⟨j, j1, j2⟩
          · exact Or.inl hq
          · rw [c36] at j2
            by_cases q2 : j = i
            · rw [q2, s3] at j2; exact absurd (inj s hs2 j2.symm) q
            · exact Or.inr ⟨j, by omega, j2⟩
      · have q : s ≠ st := by
          intro q
          rw [c36] at hn
          exact hn i (by omega) (by rw [q]; exact s3)
        refine tr s _ hs2 q (x5 s hs2 hq (fun j hj => ?_))
        have := hn j (by omega)
        rw [c36] at this
        exact this
      · rcases hf with ⟨h1, h2, h3⟩ | h1
        · refine Or.inl ⟨h1, fun s hs2 hq => ?_⟩
          by_cases q : s = st
          · rw [q]; exact h3
          · rcases x6 with ⟨_, y2⟩ | y
            · refine y2 s hs2 ?_
              rcases hq with hq | ⟨j, j1, j2⟩
              · exact Or.inl hq
              · rw [c36] at j2
                by_cases q2 : j = i
                · rw [q2, s3] at j2; exact absurd (inj s hs2 j2.symm) q
                · exact Or.inr ⟨j, by omega, j2⟩
            · omega
        · exact Or.inr h1
    have same : rkI g a f w st (K + 1) → (¬ isD a f w st (K : Int)) → lvI b g a f w K (i + 1) fl := by
      intro h1 h2
      rcases x6 with y | y
      · exact more g fl x1 fr.rfl (fun _ _ _ => rfl) h1 (Or.inl ⟨y.1, y.1, h2⟩)
      · exact more g fl x1 fr.rfl (fun _ _ _ => rfl) h1 (Or.inr y)
    refine w_Search_fewest_45 hs x1 ⟨fun c => by omega, fun _ => ⟨by omega, fun y3 h3 => ?_⟩⟩
    rw [Int.toNat_natCast, s3] at h3
    subst h3
    refine ⟨by omega, fun c y hy => ?_, fun c => ?_⟩
    · rw [am_w_id (by omega) (by omega)] at hy
      obtain rfl : y = ((i + 1 : Nat) : Int) := by omega
      refine ih (i + 1) g fl (by omega) (same ?_ ?_)
      · rcases rk with z | z
        · exact absurd z.1 c
        · exact Or.inr ⟨by omega, z.2⟩
      · intro q
        rcases rk with z | z
        · exact absurd z.1 c
        · have := z.2.uniq q; omega
    · have no : ∀ k, k < K → ¬ dN a f w k st := by
        rcases rk with z | z
        · exact z.2
        · omega
      rw [am_w_id (by omega) (by omega)]
      refine k_deedTo hs x1 x2 r (Or.inl rfl) s1 s2 (fun z hz => ⟨_, rfl, x1, fun c2 y hy => ?_, fun c2 => ⟨by omega, fun g10 e10 y hy => ?_⟩⟩)
      · -- none leads there
        have none : ∀ e, 0 ≤ e → e ≤ a 4 → g.2.2.2 41 (nodeS (Tr a f st e)).toNat ≠ (K : Int) - 1 := by
          rcases hz with z1 | z1
          · exact z1.2
          · have := z1.1.1; omega
        have nd : ¬ dN a f w K st := by
          intro q
          obtain ⟨j, hj⟩ : ∃ j, K = j + 1 := ⟨K - 1, by omega⟩
          rw [hj] at q
          rcases q with q | ⟨_, e, h2, h3⟩
          · exact no 0 (by omega) q
          · have tr := s1.step (e := e) s2 h2
            have nn : ∀ k, k < j → ¬ dN a f w k (Tr a f st e) := fun k hk c3 => no (k + 1) (by omega) (Or.inr ⟨s2, e, h2, c3⟩)
            have isd : isD a f w (Tr a f st e) (j : Int) := Or.inr ⟨by omega, by rw [Int.toNat_natCast]; exact h3, fun k hk => nn k (by omega)⟩
            have := none e h2.1 h2.2
            apply this
            rw [show (K : Int) - 1 = (j : Int) by omega]
            by_cases q : ovT a (Tr a f st e) ∨ ∃ j' : Nat, j' < i ∧ g.2.2.2 36 j' = nodeS (Tr a f st e)
            · exact ((x4 _ tr q).iff (by omega) (by omega)).mpr isd
            · exact ((x5 _ tr (fun c => q (Or.inl c)) (fun j' hj' c => q (Or.inr ⟨j', hj', c⟩))).iff (by omega) (by omega)).mpr isd
        rw [am_w_id (by omega) (by omega)] at hy
        obtain rfl : y = ((i + 1 : Nat) : Int) := by omega
        refine ih (i + 1) g fl (by omega) (same (Or.inl ⟨c, fun k hk => ?_⟩) (fun q => ?_))
        · by_cases q : k = K
          · rw [q]; exact nd
          · exact no k (by omega)
        · rcases q with ⟨q, _⟩ | ⟨_, q, _⟩
          · omega
          · rw [Int.toNat_natCast] at q; exact nd q
      · have le : leastE a f (fun s => g.2.2.2 41 (nodeS s).toNat = (K : Int) - 1) st z := by
          rcases hz with z1 | z1
          · exact absurd z1.1 c2
          · exact z1
        have tr := s1.step (e := z) s2 le.1
        have isd : isD a f w (Tr a f st z) ((K - 1 : Nat) : Int) := by
          have e := le.2.1
          rw [show (K : Int) - 1 = ((K - 1 : Nat) : Int) by omega] at e
          by_cases q : ovT a (Tr a f st z) ∨ ∃ j' : Nat, j' < i ∧ g.2.2.2 36 j' = nodeS (Tr a f st z)
          · exact ((x4 _ tr q).iff (by omega) (by omega)).mp e
          · exact ((x5 _ tr (fun c => q (Or.inl c)) (fun j' hj' c => q (Or.inr ⟨j', hj', c⟩))).iff (by omega) (by omega)).mp e
        have dk : isD a f w st (K : Int) := by
          refine Or.inr ⟨by omega, ?_, fun k hk => no k (by omega)⟩
          rw [Int.toNat_natCast]
          obtain ⟨j, hj⟩ : ∃ j, K = j + 1 := ⟨K - 1, by omega⟩
          rw [hj]
          refine Or.inr ⟨s2, z, le.1, ?_⟩
          rcases isd with ⟨q, _⟩ | ⟨_, q, _⟩
          · omega
          · rw [Int.toNat_natCast, show K - 1 = j by omega] at q; exact q
        have c41 : ∀ j, g10.2.2.2 41 j = if j = (nodeS st).toNat then (K : Int) else g.2.2.2 41 j := by
          intro j; rw [e10]; simp only [put_at, true_and]
        rw [am_w_id (by omega) (by omega)] at hy
        obtain rfl : y = ((i + 1 : Nat) : Int) := by omega
        have f10 : fr [41] [] g g10 := by rw [e10]; exact fr.rfl.put (Or.inl (by decide))
        refine ih (i + 1) g10 1 (by rw [f10.c 30 (by decide) (by simp)]; omega) (more g10 1 (by rw [e10]; exact x1.pa (by decide +kernel)) f10 (fun s hs2 ne => ?_) ?_ (Or.inr rfl))
        · rw [c41, if_neg]
          intro q
          have b1 := node_b (hs2.ok r).1
          exact ne (inj s hs2 (by omega))
        · refine Or.inr ?_
          rw [c41, if_pos rfl]
          exact ⟨by omega, dk⟩
theorem k_fewest (hs : am_sc scr) (hw : wf h) (x : grP h a f) (r : rok a f B) (hw2 : w = 0 ∨ w = 1) (H : ∀ g v (K : Nat), wf g → grP g a f → fr [41] [] h g → isD a f w (stA a) v → K ≤ 181 → (∀ st, Rch a f st → rkI g a f w st K) → (v < 268435456 → v < K) → g.2.2.2 41 (nodeS (stA a)).toNat = (if v = 268435456 then -1 else v) → Q (some (.inl (if v = 268435456 then -1 else v))) g) : am_R (am_prog scr) (d + 3) f_Search_fewest 0 [some (.inr (.inr (((40) : Nat) : Int))), some (.inl (w)), none, none, none, none] [] h Q := by
  have nb := node_b r.st.1
  have lp : ∀ (m K : Nat) (g : am_H) (fl : Int), K + m = 181 → 1 ≤ K → wf g → grP g a f → fr [41] [] h g → (∀ st, Rch a f st → rkI g a f w st K) → ((fl = 0 ∧ 2 ≤ K ∧ ∀ st, Rch a f st → ¬ isD a f w st ((K - 1 : Nat) : Int)) ∨ fl = 1) → am_R (am_prog scr) (d + 3) f_Search_fewest 13 [some (.inr (.inr (((40) : Nat) : Int))), some (.inl (w)), some (.inl (fl)), some (.inl ((K : Int))), none, none] [] g Q := by
    intro m
    induction m with
    | zero =>
      intro K g fl hK hK1 wg xg fg rk hf
      have fin : (0 ≤ g.2.2.2 30 5 ∧ g.2.2.2 30 5 < 185) ∧ Q (some (.inl (g.2.2.2 41 (g.2.2.2 30 5).toNat))) g := by
        rw [xg.2.1.1]
        refine ⟨nb, ?_⟩
        rcases rk _ Rch.zero with ⟨z1, z2⟩ | ⟨z1, z2⟩
        · have nd : ∀ k, ¬ dN a f w k (stA a) := by
            intro k hk
            obtain ⟨j, j1, j2, j3, j4⟩ := dN_small r Rch.zero hk
            exact z2 j (by omega) j3
          have := H g 268435456 K wg xg fg (Or.inl ⟨rfl, nd⟩) (by omega) rk (fun c => by omega) (by rw [if_pos rfl]; exact z1)
          rw [if_pos rfl] at this
          rw [z1]; exact this
        · have := H g _ K wg xg fg z2 (by omega) rk (fun _ => z1.2) (by rw [if_neg (by omega)])
          rw [if_neg (by omega)] at this
          exact this
      exact w_Search_fewest_13 hs wg ⟨fun _ => fin, fun c => by omega⟩
    | succ m ih =>
      intro K g fl hK hK1 wg xg fg rk hf
      refine w_Search_fewest_13 hs wg ?_
      rw [xg.2.1.1]
      have set : g.2.2.2 41 (nodeS (stA a)).toNat ≠ -1 → Q (some (.inl (g.2.2.2 41 (nodeS (stA a)).toNat))) g := by
        intro c
        rcases rk _ Rch.zero with ⟨z1, z2⟩ | ⟨z1, z2⟩
        · exact absurd z1 c
        · have := H g _ K wg xg fg z2 (by omega) rk (fun _ => z1.2) (by rw [if_neg (by omega)])
          rw [if_neg (by omega)] at this
          exact this
      refine ⟨fun c => by omega, fun _ => ⟨fun c => ⟨nb, ?_⟩, fun c => ⟨nb, fun c2 => ⟨nb, set c2⟩, fun c2 => ?_⟩⟩⟩
      · by_cases q : g.2.2.2 41 (nodeS (stA a)).toNat = -1
        · rcases hf with ⟨_, h2, h3⟩ | h1
          · have nd : ∀ k, ¬ dN a f w k (stA a) := by
              rcases rk _ Rch.zero with ⟨z1, z2⟩ | ⟨z1, z2⟩
              · exact no_far (K := K - 1) (by omega) h3 (by omega) Rch.zero (fun k hk => z2 k (by omega))
              · omega
            have := H g 268435456 K wg xg fg (Or.inl ⟨rfl, nd⟩) (by omega) rk (fun c => by omega) (by rw [if_pos rfl]; exact q)
            rw [if_pos rfl] at this
            rw [q]; exact this
          · omega
        · exact set q
      · have cb := xg.2.1.2.1
        refine k_few_45 (b := g) (K := K) hs r (by omega) (fun g2 fl2 w2 x2 f2 rk2 hf2 => ?_) (g.2.2.2 30 7).toNat 0 g 0 (by omega) ⟨wg, xg, fr.rfl, fun st hr hq => ?_, fun st hr _ _ => rk st hr, Or.inl ⟨rfl, fun st hr hq => ?_⟩⟩
        · refine ih (K + 1) g2 fl2 (by omega) (by omega) w2 x2 (fg.trans f2) rk2 ?_
          rcases hf2 with ⟨h1, h2⟩ | h1
          · exact Or.inl ⟨h1, by omega, by rw [show K + 1 - 1 = K by omega]; exact h2⟩
          · exact Or.inr h1
        · rcases hq with hq | ⟨j, hj, _⟩
          · exact (rk st hr).ov hq hK1 rfl
          · omega
        · rcases hq with hq | ⟨j, hj, _⟩
          · intro q
            rcases q with ⟨q, _⟩ | ⟨_, q2, q3⟩
            · omega
            · exact q3 0 (by omega) (dN_ov hq _ q2)
          · omega
  refine w_Search_fewest_0 hs hw ?_
  refine k_clear (w := w) hs hw x.1 (Or.inl rfl) (fun g1 w1 f1 e1 => ⟨rfl, w1, ?_⟩)
  have x1 := x.fr f1 (by decide) (by simp)
  refine lp 180 1 g1 1 rfl (by omega) w1 x1 f1 (fun st hr => ?_) (Or.inr rfl)
  have so := hr.ok r
  have nb := node_b so.1
  have ee := e1 (nodeS st).toNat (by omega)
  have goal : (if w = 0 then (nodeS st).toNat < 180 ∧ a 3 ≤ ((((nodeS st).toNat : Nat) : Int) / 36) else ¬ (nodeS st).toNat < 180) ↔ soB a w st = true := by
    have en : (((nodeS st).toNat : Nat) : Int) = nodeS st := by omega
    unfold soB
    rcases hw2 with q | q
    · rw [if_pos q, if_pos q, en, decide_eq_true_eq, ← end_iff so]
      omega
    · rw [if_neg (by omega), if_neg (by omega), if_pos q, decide_eq_true_eq]
      by_cases q2 : st % 2 = 1
      · have := nodeS_o so.1 q2
        have := so.2.2.2.2 q2
        exact ⟨fun _ => ⟨by omega, q2⟩, fun _ => by omega⟩
      · have := nodeS_e so.1 q2
        exact ⟨fun c => by omega, fun c => absurd c.2 q2⟩
  unfold rkI
  rw [ee]
  by_cases q : soB a w st = true
  · rw [if_pos (goal.mpr q)]
    exact Or.inr ⟨by omega, Or.inr ⟨by omega, q, fun k hk => by omega⟩⟩
  · rw [if_neg (fun c => q (goal.mp c))]
    exact Or.inl ⟨rfl, fun k hk c => by rw [show k = 0 by omega] at c; exact q c⟩
theorem way_none : ∀ (n i : Nat) {st v : Int}, Rch a f st → isD a f w st v → (v = 268435456 ∨ (v = n ∧ n ≤ i)) → wayP a f w i st (-1) := by
  intro n
  induction n with
  | zero =>
    intro i st v hr x hv
    cases i with
    | zero => exact ⟨v, x, Or.inl ⟨by omega, rfl⟩⟩
    | succ i => exact ⟨v, x, Or.inl ⟨by omega, rfl⟩⟩
  | succ n ih =>
    intro i st v hr x hv
    by_cases q : v = 268435456
    · cases i with
      | zero => exact ⟨v, x, Or.inl ⟨by omega, rfl⟩⟩
      | succ i => exact ⟨v, x, Or.inl ⟨by omega, rfl⟩⟩
    · by_cases q2 : 0 < v ∧ v < 268435456
      · obtain ⟨d1, d2⟩ := x.down q2
        obtain ⟨e, le⟩ := leastE_ex (P := fun s => isD a f w s (v - 1)) d2
        obtain ⟨j, hj⟩ : ∃ j, i = j + 1 := ⟨i - 1, by omega⟩
        subst hj
        exact ⟨v, x, Or.inr ⟨q2, e, le, ih j (hr.step d1 le.1) le.2.1 (Or.inr (by omega))⟩⟩
      · exfalso
        rcases x with ⟨x, _⟩ | ⟨x, _⟩ <;> omega
theorem leastE.congr {P R : Int → Prop} {st z : Int} (h : ∀ e, 0 ≤ e → e ≤ a 4 → (P (Tr a f st e) ↔ R (Tr a f st e))) (x : leastE a f P st z) : leastE a f R st z := ⟨x.1, (h z x.1.1 x.1.2).mp x.2.1, fun e' h1 h2 c => x.2.2 e' h1 h2 ((h e' h1 (by have := x.1.2; omega)).mpr c)⟩
theorem k_deedDown {i : Int} {K : Nat} (hs : am_sc scr) (hw : wf h) (x : grP h a f) (r : rok a f B) (hK : K ≤ 181) (rk : ∀ st, Rch a f st → rkI h a f w st K) (hi : 0 ≤ i ∧ i < 2147483647) : ∀ (n k : Nat) (st v : Int), Rch a f st → isD a f w st v → v = n → v < K → (k : Int) ≤ i → k + n ≤ 1000 → (∀ z, wayP a f w (i.toNat - k) st z → Q (some (.inl (z))) h) → am_R (am_prog scr) (d + 3) f_Search_deedDownwards 10 [some (.inr (.inr (((40) : Nat) : Int))), some (.inl (i)), some (.inl (nodeS st)), some (.inl ((k : Int)))] [] h Q := by
  have val : ∀ st v, Rch a f st → isD a f w st v → 0 ≤ v → v < K → h.2.2.2 41 (nodeS st).toNat = v := by
    intro st v hr hd h0 h1
    have := ((rk st hr).iff (u := v.toNat) (by omega) (by omega)).mpr (by rw [show ((v.toNat : Nat) : Int) = v by omega]; exact hd)
    omega
  have least : ∀ {st v z : Int}, Rch a f st → ¬ ovT a st → 0 < v → v < K → leastE a f (fun s => h.2.2.2 41 (nodeS s).toNat = v - 1) st z → leastE a f (fun s => isD a f w s (v - 1)) st z := by
    intro st v z hr ho h1 h2 le
    refine le.congr (fun e e1 e2 => ?_)
    have := (rk _ (hr.step ho ⟨e1, e2⟩)).iff (u := (v - 1).toNat) (by omega) (by omega)
    rw [show (((v - 1).toNat : Nat) : Int) = v - 1 by omega] at this
    exact this
  have s60 : ∀ (k : Nat) (st v : Int), Rch a f st → isD a f w st v → 0 ≤ v → v < K → (k : Int) ≤ i → ((k : Int) = i ∨ v = 0) → (∀ z, wayP a f w (i.toNat - k) st z → Q (some (.inl (z))) h) → am_R (am_prog scr) (d + 3) f_Search_deedDownwards 60 [some (.inr (.inr (((40) : Nat) : Int))), some (.inl (i)), some (.inl (nodeS st)), some (.inl ((k : Int)))] [] h Q := by
    intro k st v hr hd h0 hv hk hor H
    have nb := node_b (hr.ok r).1
    refine w_Search_deedDownwards_60 hs hw ⟨nb, ?_⟩
    rw [val st v hr hd h0 hv]
    refine ⟨fun c => H _ ?_, fun c => ⟨nb, ?_⟩⟩
    · exact way_none 0 _ hr hd (Or.inr ⟨by omega, by omega⟩)
    · have ho := (hd.down (by omega)).1
      rw [am_w_id (by omega) (by omega)]
      refine k_deedTo hs hw x r (Or.inl rfl) hr ho (fun z hz => ⟨_, rfl, hw, H _ ?_⟩)
      rw [show i.toNat - k = 0 by omega]
      refine ⟨v, hd, Or.inr ⟨by omega, ?_⟩⟩
      rcases hz with ⟨_, z1⟩ | z1
      · exfalso
        obtain ⟨e, e1, e2⟩ := (hd.down (by omega)).2
        exact z1 e e1.1 e1.2 (val _ _ (hr.step ho e1) e2 (by omega) (by omega))
      · exact least hr ho (by omega) hv z1
  intro n
  induction n with
  | zero =>
    intro k st v hr hd hv hvK hk hkn H
    have nb := node_b (hr.ok r).1
    refine w_Search_deedDownwards_10 hs hw ⟨fun c => ?_, fun c => ⟨nb, ?_⟩⟩
    · exact s60 k st v hr hd (by omega) hvK hk (Or.inr (by omega)) H
    · rw [val st v hr hd (by omega) hvK]
      exact ⟨fun c2 => s60 k st v hr hd (by omega) hvK hk (Or.inr (by omega)) H, fun c2 => by omega⟩
  | succ n ih =>
    intro k st v hr hd hv hvK hk hkn H
    have nb := node_b (hr.ok r).1
    have ho := (hd.down (by omega)).1
    refine w_Search_deedDownwards_10 hs hw ⟨fun c => ?_, fun c => ⟨nb, ?_⟩⟩
    · exact s60 k st v hr hd (by omega) hvK hk (Or.inl (by omega)) H
    · rw [val st v hr hd (by omega) hvK]
      refine ⟨fun c2 => by omega, fun c2 => ⟨nb, ?_⟩⟩
      rw [am_w_id (by omega) (by omega)]
      refine k_deedTo hs hw x r (Or.inl rfl) hr ho (fun z hz => ⟨_, rfl, hw, ?_⟩)
      have le : leastE a f (fun s => isD a f w s (v - 1)) st z := by
        rcases hz with ⟨_, z1⟩ | z1
        · exfalso
          obtain ⟨e, e1, e2⟩ := (hd.down (by omega)).2
          exact z1 e e1.1 e1.2 (val _ _ (hr.step ho e1) e2 (by omega) (by omega))
        · exact least hr ho (by omega) hvK z1
      have h4 := r.1.1
      have l1 := le.1
      have go : ∀ z2 : Int, z2 = z → am_R (am_prog scr) (d + 2) f_Graph_after 0 [some (.inr (.inr (((30) : Nat) : Int))), some (.inl (nodeS st)), some (.inl (z2)), none] [] h (fun v1 g7 => ∃ r8 : Int, v1 = some (.inl (r8)) ∧ wf g7 ∧ (∀ y9 : Int, y9 = am_w ((k : Int) + 1) → (am_R (am_prog scr) (d + 2 + 1) f_Search_deedDownwards 10 [some (.inr (.inr (((40) : Nat) : Int))), some (.inl (i)), some (.inl (r8)), some (.inl (y9))] [] g7 Q))) := by
        intro z2 hz2
        subst hz2
        refine k_after hs hw x.2.2 r (hr.ok r) ho (x.2.1.known r hr ho) (by omega) ⟨_, rfl, hw, fun y hy => ?_⟩
        rw [am_w_id (by omega) (by omega)] at hy
        obtain rfl : y = ((k + 1 : Nat) : Int) := by omega
        refine ih (k + 1) _ (v - 1) (hr.step ho le.1) le.2.1 (by omega) (by omega) (by omega) (by omega) (fun z3 hz3 => H z3 ?_)
        rw [show i.toNat - k = (i.toNat - (k + 1)) + 1 by omega]
        exact ⟨v, hd, Or.inr ⟨by omega, _, le, hz3⟩⟩
      refine w_jM_max_0 hs hw ⟨fun c3 => ⟨_, rfl, hw, go z rfl⟩, fun c3 => ⟨_, rfl, hw, go 0 (by omega)⟩⟩
def SEL : List Nat := PPL ++ [41, 42]
theorem k_Ssoonest {v : Int} (hs : am_sc scr) (hw : wf h) (wo : wc h W) (x : plW h W 24 ser a) (r : rok a (W.2.2.1 ser) B) (hB : B < 900000) (y : grI h W B) (H : ∀ g z, wf g → fr SEL PPF h g → wc g W → grI g W (B + 400) → ((0 ≤ v ∧ v ≤ 1 → ∃ u, isD a (W.2.2.1 ser) v (stA a) u ∧ z = if u = 268435456 then -1 else u) ∧ (¬ (0 ≤ v ∧ v ≤ 1) → z = -2)) → Q (some (.inl (z))) g) : am_R (am_prog scr) (d + 6) f_S_soonest 0 [some (.inr (.inr (((0) : Nat) : Int))), some (.inl (v))] [] h Q := by
  have no : ¬ (0 ≤ v ∧ v ≤ 1) → Q (some (.inl (-2))) h := fun q => H h _ hw fr.rfl wo (y.fr (L := []) (F := []) fr.rfl (by simp) (by simp) (by omega)) ⟨fun c => absurd c q, fun _ => rfl⟩
  refine w_S_soonest_0 hs hw ⟨fun c => no (by omega), fun c => ⟨fun c2 => ?_, fun c2 => no (by omega)⟩⟩
  refine k_prepare hs hw wo x r hB y (fun g1 w1 f1 wc1 y1 p1 => ⟨rfl, w1, ?_⟩)
  have go : ∀ t : Int, t = v → am_R (am_prog scr) (d + 5) f_Search_fewest 0 [some (.inr (.inr (((40) : Nat) : Int))), some (.inl (t)), none, none, none, none] [] g1 (fun v1 g2 => ∃ r3 : Int, v1 = some (.inl (r3)) ∧ wf g2 ∧ Q (some (.inl (r3))) g2) := by
    intro t ht
    subst ht
    refine k_fewest hs w1 p1 r (by omega) (fun g2 u K w2 x2 f2 isd hK rk hv e2 => ⟨_, rfl, w2, ?_⟩)
    exact H g2 _ w2 ((f1.mono (by decide) (by decide)).trans (f2.mono (by decide) (by simp))) (wc1.fr f2 (by decide) (by simp)) (y1.fr f2 (by decide) (by simp) (by omega)) ⟨fun _ => ⟨u, isd, rfl⟩, fun q => absurd ⟨by omega, c2⟩ q⟩
  exact ⟨fun c3 => go 0 (by omega), fun c3 => go 1 (by omega)⟩
theorem k_Sway {v i : Int} (hs : am_sc scr) (hw : wf h) (wo : wc h W) (x : plW h W 24 ser a) (r : rok a (W.2.2.1 ser) B) (hB : B < 900000) (y : grI h W B) (hi : am_w i = i) (H : ∀ g z, wf g → fr SEL PPF h g → wc g W → grI g W (B + 400) → ((0 ≤ v ∧ v ≤ 1 → 0 ≤ i → wayP a (W.2.2.1 ser) v i.toNat (stA a) z) ∧ (0 ≤ v ∧ v ≤ 1 → i < 0 → z = -3) ∧ (¬ (0 ≤ v ∧ v ≤ 1) → z = -2)) → Q (some (.inl (z))) g) : am_R (am_prog scr) (d + 6) f_S_way 0 [some (.inr (.inr (((0) : Nat) : Int))), some (.inl (v)), some (.inl (i))] [] h Q := by
  have ir := am_w_rg hi
  have y0 : grI h W (B + 400) := y.fr (L := []) (F := []) fr.rfl (by simp) (by simp) (by omega)
  have no : ¬ (0 ≤ v ∧ v ≤ 1) → Q (some (.inl (-2))) h := fun q => H h _ hw fr.rfl wo y0 ⟨fun c => absurd c q, fun c => absurd c q, fun _ => rfl⟩
  refine w_S_way_0 hs hw ⟨fun c => no (by omega), fun c => ⟨fun c2 => ⟨fun c3 => ?_, fun c3 => ?_⟩, fun c2 => no (by omega)⟩⟩
  · refine k_prepare hs hw wo x r hB y (fun g1 w1 f1 wc1 y1 p1 => ⟨rfl, w1, ?_⟩)
    have go : ∀ t : Int, t = v → am_R (am_prog scr) (d + 5) f_Search_fewestDeed 0 [some (.inr (.inr (((40) : Nat) : Int))), some (.inl (t)), some (.inl (i)), none] [] g1 (fun v1 g2 => ∃ r3 : Int, v1 = some (.inl (r3)) ∧ wf g2 ∧ Q (some (.inl (r3))) g2) := by
      intro t ht
      subst ht
      refine w_Search_fewestDeed_0 hs w1 ?_
      refine k_fewest hs w1 p1 r (by omega) (fun g2 u K w2 x2 f2 isd hK rk hv e2 => ⟨_, rfl, w2, ?_⟩)
      have HH := fun z hz => H g2 z w2 ((f1.mono (by decide) (by decide)).trans (f2.mono (by decide) (by simp))) (wc1.fr f2 (by decide) (by simp)) (y1.fr f2 (by decide) (by simp) (by omega)) ⟨fun _ _ => hz, fun _ q => by omega, fun q => absurd ⟨by omega, c2⟩ q⟩
      have ub : u = 268435456 ∨ (0 ≤ u ∧ u < 268435456) := by rcases isd with ⟨q, _⟩ | ⟨q, _⟩ <;> omega
      refine ⟨fun c4 => ⟨_, rfl, w2, HH _ ?_⟩, fun c4 => ?_⟩
      · rcases ub with q | q
        · exact way_none 0 _ Rch.zero isd (Or.inl q)
        · rw [if_neg (by omega)] at c4
          exact way_none u.toNat _ Rch.zero isd (Or.inr ⟨by omega, by omega⟩)
      · have ub2 : 0 ≤ u ∧ u < 268435456 := by
          rcases ub with q | q
          · rw [if_pos q] at c4; omega
          · exact q
        refine w_Search_deedDownwards_0 hs w2 (fun y1 h1 => ?_)
        rw [x2.2.1.1] at h1
        subst h1
        exact k_deedDown (i := i) hs w2 x2 r hK rk (by omega) u.toNat 0 (stA a) u Rch.zero isd (by omega) (hv ub2.2) (by omega) (by have := hv ub2.2; omega) (fun z hz => ⟨_, rfl, w2, _, rfl, w2, HH _ hz⟩)
    exact ⟨fun c3 => go 0 (by omega), fun c3 => go 1 (by omega)⟩
  · exact H h _ hw fr.rfl wo y0 ⟨fun _ q => by omega, fun _ _ => rfl, fun q => absurd ⟨by omega, c2⟩ q⟩
end SE
