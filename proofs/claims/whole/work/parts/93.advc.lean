/-! the next token: the class, signs -/
/-- the first place of a sign; -1: none -/
def ixF (c : Int) : Nat → Nat → Int
  | 0, _ => -1
  | m + 1, k => if (txL 0).getD k 0 = c then (k : Int) else ixF c m (k + 1)
theorem sg_ix : ∀ c : Nat, c < 256 → ((ixF (Int.bmod (c : Int) 256) 12 0 < 0 ↔ sgF (c : Int) 12 = 27)) := by decide +kernel
section AG
variable {scr : Nat × (Nat → Int)} {d : Nat} {h : am_H} {Q : Option am_V → am_H → Prop}
theorem k_idx {c b : Int} (hs : am_sc scr) (hw : wf h) : ∀ (m k : Nat), k + m = 12 → Q (some (.inl (ixF b m k))) h → am_R (am_prog scr) d f_jL_indexOfChar 7 [some (.inr (.inr (-2 - 498))), some (.inl (c)), some (.inl (0)), some (.inl (((12 : Nat) : Int))), some (.inl (b)), some (.inl ((k : Int)))] [] h Q := by
  have l0 : (txL 0).length = 12 := by decide +kernel
  have e0 : (am_tx.getD (-500 - (-2 - 498 : Int)).toNat []) = txL 0 := rfl
  intro m
  induction m with
  | zero =>
    intro k hk H
    simp only [ixF] at H
    exact w_jL_indexOfChar_7 hs hw ⟨fun _ => H, fun z => by omega⟩
  | succ m ih =>
    intro k hk H
    simp only [ixF] at H
    refine w_jL_indexOfChar_7 hs hw ⟨fun z => by omega, fun _ => ?_⟩
    rw [tx_n, e0, l0, Int.toNat_natCast]
    refine ⟨by omega, fun z y2 h2 => ?_, fun z => ?_⟩
    · rw [am_w_id (by omega) (by omega)] at h2
      obtain rfl : y2 = ((k + 1 : Nat) : Int) := by omega
      rw [if_neg z] at H
      exact ih (k + 1) (by omega) H
    · rw [if_pos z] at H
      exact H
theorem k_indexOf {c : Int} (hs : am_sc scr) (hw : wf h) (hc : 0 ≤ c ∧ c < 256) (H : Q (some (.inl (ixF (Int.bmod c 256) 12 0))) h) : am_R (am_prog scr) (d + 4) f_jS_indexOf 0 [some (.inr (.inr (-2))), some (.inl (c))] [] h Q := by
  have l0 : (txL 0).length = 12 := by decide +kernel
  refine w_jS_indexOf_0 hs hw ?_
  rw [tx_n]
  refine ⟨by omega, ?_⟩
  refine w_jS_indexOf2_0 hs hw ?_
  rw [tx_n]
  refine ⟨by omega, ?_⟩
  refine w_jS_isLatin1_0 hs hw ⟨fun z => by omega, fun _ => ⟨by rw [tx_n]; omega, fun z => absurd rfl z, fun _ => ⟨_, rfl, hw, fun z => by omega, fun _ => ⟨by omega, by omega, ?_⟩⟩⟩⟩
  refine k_len (j := 0) hs hw (by omega) (by omega) ⟨_, rfl, hw, ?_⟩
  rw [l0]
  refine w_jL_indexOf_0 hs hw ?_
  refine w_jL_canEncode_0 hs hw ⟨fun z => by omega, fun _ => ⟨fun z => by omega, fun _ => ⟨_, rfl, hw, fun _ => ?_, fun z => by omega⟩⟩⟩
  refine w_jM_max_0 hs hw ⟨fun z => by omega, fun _ => ⟨_, rfl, hw, ?_⟩⟩
  rw [tx_n]
  refine ⟨by omega, ?_⟩
  have e0 : (am_tx.getD (-500 - (-2 - 498 : Int)).toNat []) = txL 0 := rfl
  rw [e0, l0]
  refine w_jM_min_0 hs hw ⟨fun z => by omega, fun _ => ⟨_, rfl, hw, fun _ => ?_, fun z => by omega⟩⟩
  refine w_jL_indexOfChar_0 hs hw (fun y1 h1 => ?_)
  subst h1
  exact k_idx hs hw (c := c) (b := Int.bmod c 256) 12 0 rfl ⟨_, rfl, hw, _, rfl, hw, _, rfl, hw, H⟩
end AG
