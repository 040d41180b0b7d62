/-! which word it is: the reference -/
def mtK (T : Nat → Int) (s e i : Nat) : Bool := decide (e = s + kwN i) && (List.range (kwN i)).all (fun k => decide (T (s + k) = (txL 37).getD (kwP i + k) 0))
def kyF (T : Nat → Int) (s e : Nat) : Nat → Nat → Nat
  | 0, _ => 24
  | m + 1, i => if mtK T s e i = true then i else kyF T s e m (i + 1)
theorem mtK_t {T : Nat → Int} {s e i : Nat} : mtK T s e i = true ↔ (e = s + kwN i ∧ ∀ k, k < kwN i → T (s + k) = (txL 37).getD (kwP i + k) 0) := by
  unfold mtK
  rw [Bool.and_eq_true, decide_eq_true_eq, List.all_eq_true]
  constructor
  · rintro ⟨h1, h2⟩
    exact ⟨h1, fun k hk => of_decide_eq_true (h2 k (List.mem_range.mpr hk))⟩
  · rintro ⟨h1, h2⟩
    exact ⟨h1, fun k hk => decide_eq_true (h2 k (List.mem_range.mp hk))⟩
section KY
variable {scr : Nat × (Nat → Int)} {d : Nat} {h : am_H} {Q : Option am_V → am_H → Prop} {T : Nat → Int} {N s e : Nat}
theorem k_keyAt (hs : am_sc scr) (hw : wf h) (t : teM h T N) (e6 : h.2.2.2 109 6 = (s : Int)) (e7 : h.2.2.2 109 7 = (e : Int)) (hse : s ≤ e ∧ e ≤ N) (H : Q (some (.inl ((kyF T s e 24 0 : Int)))) h) : am_R (am_prog scr) (d + 5) f_M_keyAt 0 [some (.inr (.inr ((109 : Nat) : Int))), none, none, none] [] h Q := by
  obtain ⟨t1, t2, t3, t4⟩ := t
  obtain ⟨l37, kw⟩ := kw_t
  generalize hK : kyF T s e 24 0 = KK at H
  have lp : ∀ (m i : Nat), i + m = 24 → kyF T s e m i = KK → am_R (am_prog scr) (d + 5) f_M_keyAt 4 [some (.inr (.inr ((109 : Nat) : Int))), some (.inl ((i : Int))), some (.inl ((kwP i : Int))), none] [] h Q := by
    intro m
    induction m with
    | zero =>
      intro i hi hk
      simp only [kyF] at hk
      refine w_M_keyAt_4 hs hw ?_
      refine k_len (j := 37) hs hw (by omega) (by omega) ⟨_, rfl, hw, fun _ => ?_, fun c => ?_⟩
      · rw [← hk] at H; exact H
      · rw [l37, show i = 24 by omega] at c
        have : kwP 24 = 123 := rfl
        omega
    | succ m ih =>
      intro i hi hk
      obtain ⟨k1, k2, k3, k4⟩ := kw i (by omega)
      simp only [kyF] at hk
      -- the next word
      have skip : ¬ mtK T s e i = true → ∀ (x3 : Int) (q k : Nat), k + q = kwN i → am_R (am_prog scr) (d + 5) f_M_keyAt 97 [some (.inr (.inr ((109 : Nat) : Int))), some (.inl ((i : Int))), some (.inl (((kwP i + k : Nat) : Int))), some (.inl (x3))] [] h Q := by
        intro no x3 q
        rw [if_neg no] at hk
        induction q with
        | zero =>
          intro k hq
          refine w_M_keyAt_97 hs hw ?_
          refine k_chr (j := 37) hs hw (by omega) (by omega) (by omega) ⟨_, rfl, hw, fun _ y3 h3 y4 h4 => ?_, fun c => ?_⟩
          · rw [am_w_id (by omega) (by omega)] at h3 h4
            obtain rfl : y3 = ((kwP (i + 1) : Nat) : Int) := by omega
            obtain rfl : y4 = ((i + 1 : Nat) : Int) := by omega
            exact ih (i + 1) (by omega) hk
          · rw [Int.toNat_natCast, show k = kwN i by omega] at c
            exact absurd k3 c
        | succ q ihq =>
          intro k hq
          refine w_M_keyAt_97 hs hw ?_
          refine k_chr (j := 37) hs hw (by omega) (by omega) (by omega) ⟨_, rfl, hw, fun c => ?_, fun _ y5 h5 => ?_⟩
          · rw [Int.toNat_natCast] at c
            exact absurd c (k4 k (by omega))
          · rw [am_w_id (by omega) (by omega)] at h5
            obtain rfl : y5 = ((kwP i + (k + 1) : Nat) : Int) := by omega
            exact ihq (k + 1) (by omega)
      have fin : ∀ k : Nat, k ≤ kwN i → (∀ k', k' < k → s + k' < e ∧ T (s + k') = (txL 37).getD (kwP i + k') 0) → (k < kwN i → ¬ (s + k < e ∧ T (s + k) = (txL 37).getD (kwP i + k) 0)) → am_R (am_prog scr) (d + 5) f_M_keyAt 69 [some (.inr (.inr ((109 : Nat) : Int))), some (.inl ((i : Int))), some (.inl ((kwP i : Int))), some (.inl ((k : Int)))] [] h Q := by
        intro k hk2 ok st
        refine w_M_keyAt_69 hs hw ?_
        rw [am_w_id (x := (kwP i : Int) + (k : Int)) (by omega) (by omega)]
        refine k_chr (j := 37) hs hw (by omega) (by omega) (by omega) ⟨_, rfl, hw, fun c => ?_, fun c => ?_⟩
        · rw [show ((kwP i : Int) + (k : Int)).toNat = kwP i + k by omega] at c
          have lt : k < kwN i := by
            apply Decidable.byContradiction; intro q; rw [show k = kwN i by omega] at c; exact c k3
          refine skip (fun z => ?_) _ (kwN i) 0 (by omega)
          obtain ⟨z1, z2⟩ := mtK_t.mp z
          exact st lt ⟨by omega, z2 k lt⟩
        · rw [show ((kwP i : Int) + (k : Int)).toNat = kwP i + k by omega] at c
          have eq : k = kwN i := by
            apply Decidable.byContradiction; intro q; exact k4 k (by omega) c
          rw [e6, e7, am_w_id (x := (s : Int) + (k : Int)) (by omega) (by omega)]
          refine ⟨fun c2 => skip (fun z => ?_) _ (kwN i) 0 (by omega), fun c2 => ?_⟩
          · have := (mtK_t.mp z).1; omega
          · have yes : mtK T s e i = true := mtK_t.mpr ⟨by omega, fun k' hk' => (ok k' (by omega)).2⟩
            rw [if_pos yes] at hk
            rw [← hk] at H
            exact H
      have cmp : ∀ (q k : Nat), k + q = kwN i → (∀ k', k' < k → s + k' < e ∧ T (s + k') = (txL 37).getD (kwP i + k') 0) → am_R (am_prog scr) (d + 5) f_M_keyAt 15 [some (.inr (.inr ((109 : Nat) : Int))), some (.inl ((i : Int))), some (.inl ((kwP i : Int))), some (.inl ((k : Int)))] [] h Q := by
        intro q
        induction q with
        | zero =>
          intro k hq ok
          refine w_M_keyAt_15 hs hw ?_
          rw [am_w_id (x := (kwP i : Int) + (k : Int)) (by omega) (by omega)]
          refine k_chr (j := 37) hs hw (by omega) (by omega) (by omega) ⟨_, rfl, hw, fun _ => fin k (by omega) ok (fun z => by omega), fun c => ?_⟩
          rw [show ((kwP i : Int) + (k : Int)).toNat = kwP i + kwN i by omega] at c
          exact absurd k3 c
        | succ q ihq =>
          intro k hq ok
          refine w_M_keyAt_15 hs hw ?_
          rw [am_w_id (x := (kwP i : Int) + (k : Int)) (by omega) (by omega)]
          refine k_chr (j := 37) hs hw (by omega) (by omega) (by omega) ⟨_, rfl, hw, fun c => ?_, fun _ => ?_⟩
          · rw [show ((kwP i : Int) + (k : Int)).toNat = kwP i + k by omega] at c
            exact absurd c (k4 k (by omega))
          · rw [e6, e7, am_w_id (x := (s : Int) + (k : Int)) (by omega) (by omega)]
            refine ⟨fun c2 => fin k (by omega) ok (fun _ z => by omega), fun c2 => ⟨by omega, ?_⟩⟩
            rw [show ((s : Int) + (k : Int)).toNat = s + k by omega, t3 (s + k) (by omega)]
            refine k_chr (j := 37) hs hw (by omega) (by omega) (by omega) ⟨_, rfl, hw, fun c3 => ?_, fun c3 y hy => ?_⟩
            · rw [show ((kwP i : Int) + (k : Int)).toNat = kwP i + k by omega] at c3
              exact fin k (by omega) ok (fun _ z => c3 z.2)
            · rw [show ((kwP i : Int) + (k : Int)).toNat = kwP i + k by omega] at c3
              rw [am_w_id (by omega) (by omega)] at hy
              obtain rfl : y = ((k + 1 : Nat) : Int) := by omega
              refine ihq (k + 1) (by omega) (fun k' hk' => ?_)
              by_cases z : k' = k
              · rw [z]; exact ⟨by omega, c3⟩
              · exact ok k' (by omega)
      refine w_M_keyAt_4 hs hw ?_
      refine k_len (j := 37) hs hw (by omega) (by omega) ⟨_, rfl, hw, fun c => by omega, fun _ => ?_⟩
      exact cmp (kwN i) 0 (by omega) (fun k' hk' => by omega)
  refine w_M_keyAt_0 hs hw ?_
  exact lp 24 0 rfl hK
end KY
