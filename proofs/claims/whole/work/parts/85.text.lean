/-! texts -/
def txL (j : Nat) : List Int := am_tx.getD j []
theorem tx_n : am_tx.length = 39 := by decide +kernel
theorem tx_b : ∀ j, j < 39 → (txL j).length ≤ 200 ∧ ∀ i, i < (txL j).length → 0 ≤ (txL j).getD i 0 ∧ (txL j).getD i 0 < 128 := by decide +kernel
section TX
variable {scr : Nat × (Nat → Int)} {d : Nat} {h : am_H} {Q : Option am_V → am_H → Prop} {j : Nat}
theorem k_len (hs : am_sc scr) (hw : wf h) (hj : j < 39) {a0 : Int} (e : a0 = -2 - (j : Int)) (H : Q (some (.inl (((txL j).length : Int)))) h) : am_R (am_prog scr) (d + 1) f_jS_length 0 [some (.inr (.inr a0))] [] h Q := by
  have b := tx_b j hj
  refine w_jS_length_0 hs hw ?_
  rw [tx_n, show (-500 - (a0 - 498)).toNat = j by omega]
  refine ⟨by omega, by omega, by omega, ?_⟩
  refine w_jS_coder_0 hs hw ⟨fun c => by omega, fun _ => ⟨by rw [tx_n]; omega, ⟨_, rfl, hw, ?_⟩⟩⟩
  have e0 : am_shr (((am_tx.getD j []).length : Nat) : Int) 0 = ((txL j).length : Int) := by
    rw [shr32 (am_w_id (by omega) (by have := b.1; unfold txL at this; omega)) (by omega)]
    show (((am_tx.getD j []).length : Nat) : Int) / ((2 ^ 0 : Nat) : Int) = _
    rw [Nat.pow_zero]
    simp only [Int.natCast_one, Int.ediv_one]
    rfl
  rw [e0]
  exact H
theorem k_chr (hs : am_sc scr) (hw : wf h) (hj : j < 39) {a0 x : Int} (e : a0 = -2 - (j : Int)) (hx : 0 ≤ x ∧ x < ((txL j).length : Int)) (H : Q (some (.inl ((txL j).getD x.toNat 0))) h) : am_R (am_prog scr) (d + 4) f_jS_charAt 0 [some (.inr (.inr a0)), some (.inl (x))] [] h Q := by
  have b := tx_b j hj
  have cb := b.2 x.toNat (by omega)
  refine w_jS_charAt_0 hs hw ?_
  rw [tx_n]
  refine ⟨by omega, ?_⟩
  refine w_jS_isLatin1_0 hs hw ⟨fun c => by omega, fun _ => ⟨by rw [tx_n]; omega, fun c => absurd rfl c, fun _ => ⟨_, rfl, hw, fun c => by omega, fun _ => ⟨by omega, ?_⟩⟩⟩⟩
  refine w_jL_charAt_0 hs hw ?_
  rw [tx_n, show (-500 - (a0 - 498)).toNat = j by omega]
  refine ⟨by omega, ?_⟩
  refine w_jS_checkIndex_0 hs hw ?_
  have ll : (((am_tx.getD j []).length : Nat) : Int) = ((txL j).length : Int) := rfl
  refine w_jP_checkIndex_0 hs hw ⟨fun c => by omega, fun _ => ⟨fun _ => ⟨_, rfl, hw, rfl, hw, ⟨by omega, by omega, hx.1, hx.2⟩, ?_⟩, fun c => by omega⟩⟩
  have ch : am_i2c (am_and ((am_tx.getD j []).getD x.toNat 0) 255) = (txL j).getD x.toNat 0 := by
    have e1 : (am_tx.getD j []).getD x.toNat 0 = (txL j).getD x.toNat 0 := rfl
    rw [e1, and255 (am_w_id (by omega) (by omega)), Int.emod_eq_of_lt cb.1 (by omega)]
    unfold am_i2c
    generalize (txL j).getD x.toNat 0 = c at cb
    have : ∀ c : Nat, c < 128 → am_i2c (c : Int) = (c : Int) := by decide +kernel
    have := this c.toNat (by omega)
    rw [show ((c.toNat : Nat) : Int) = c by omega] at this
    exact this
  rw [ch]
  exact ⟨cb, _, rfl, hw, cb, H⟩
end TX
