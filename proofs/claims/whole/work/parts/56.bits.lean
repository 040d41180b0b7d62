/-! bits -/
theorem bv32 {a : Int} (ha : 0 ≤ a ∧ a < 2147483648) : (Int32.ofInt a).toBitVec.toNat = a.toNat := by
  show (BitVec.ofInt 32 a).toNat = _
  rw [BitVec.toNat_ofInt, Int.emod_eq_of_lt ha.1 (by omega)]
theorem ti32 {x : Int32} (h : x.toBitVec.toNat < 2147483648) : x.toInt = (x.toBitVec.toNat : Int) := by
  show BitVec.toInt x.toBitVec = _
  exact BitVec.toInt_eq_toNat_of_lt (by omega)
theorem or32 {a b : Int} (ha : 0 ≤ a ∧ a < 2147483648) (hb : 0 ≤ b ∧ b < 2147483648) : am_or a b = ((a.toNat ||| b.toNat : Nat) : Int) := by
  have n : (Int32.ofInt a ||| Int32.ofInt b).toBitVec.toNat = a.toNat ||| b.toNat := by
    show ((Int32.ofInt a).toBitVec ||| (Int32.ofInt b).toBitVec).toNat = _
    rw [BitVec.toNat_or, bv32 ha, bv32 hb]
  have lt : a.toNat ||| b.toNat < 2 ^ 31 := Nat.or_lt_two_pow (by omega) (by omega)
  unfold am_or
  rw [ti32 (by rw [n]; omega), n]
theorem and32 {a b : Int} (ha : 0 ≤ a ∧ a < 2147483648) (hb : 0 ≤ b ∧ b < 2147483648) : am_and a b = ((a.toNat &&& b.toNat : Nat) : Int) := by
  have n : (Int32.ofInt a &&& Int32.ofInt b).toBitVec.toNat = a.toNat &&& b.toNat := by
    show ((Int32.ofInt a).toBitVec &&& (Int32.ofInt b).toBitVec).toNat = _
    rw [BitVec.toNat_and, bv32 ha, bv32 hb]
  have lt : a.toNat &&& b.toNat < 2 ^ 31 := Nat.and_lt_two_pow _ (by omega)
  unfold am_and
  rw [ti32 (by rw [n]; omega), n]
theorem shl1 {k : Int} (hk : 0 ≤ k ∧ k < 31) : am_shl 1 k = ((2 ^ k.toNat : Nat) : Int) := by
  have : ∀ k : Nat, k < 31 → am_shl 1 (k : Int) = ((2 ^ k : Nat) : Int) := by decide +kernel
  have := this k.toNat (by omega)
  rw [show ((k.toNat : Nat) : Int) = k by omega] at this
  exact this
theorem shr32 {a k : Int} (ha : am_w a = a) (hk : 0 ≤ k ∧ k < 32) : am_shr a k = a / ((2 ^ k.toNat : Nat) : Int) := by
  have h1 : ∀ k : Nat, k < 32 → (((Int32.ofInt (k : Int) &&& 31).toBitVec).smod 32).toNat = k := by decide +kernel
  have h2 := h1 k.toNat (by omega)
  rw [show ((k.toNat : Nat) : Int) = k by omega] at h2
  unfold am_shr
  show BitVec.toInt ((Int32.ofInt a).toBitVec.sshiftRight (((Int32.ofInt k &&& 31).toBitVec).smod 32).toNat) = _
  rw [h2, BitVec.toInt_sshiftRight, Int.shiftRight_eq_div_pow]
  have h3 : (Int32.ofInt a).toBitVec.toInt = a := by
    show (Int32.ofInt a).toInt = a
    rw [am_ti]; exact ha
  rw [h3]
/-- a bit of a set, as it is asked for -/
theorem bit32 {v k : Int} (hv : 0 ≤ v ∧ v < 2147483648) (hk : 0 ≤ k ∧ k < 31) : am_and (am_shr v k) 1 = if v.toNat.testBit k.toNat then 1 else 0 := by
  have e : am_shr v k = ((v.toNat / 2 ^ k.toNat : Nat) : Int) := by
    rw [shr32 (am_w_id (by omega) (by omega)) (by omega)]
    obtain ⟨n, rfl⟩ : ∃ n : Nat, v = n := ⟨v.toNat, by omega⟩
    rw [Int.toNat_natCast]
    rfl
  have lt : v.toNat / 2 ^ k.toNat ≤ v.toNat := Nat.div_le_self _ _
  rw [e, Nat.testBit_eq_decide_div_mod_eq]
  generalize v.toNat / 2 ^ k.toNat = z at lt
  rw [and32 (by omega) (by omega)]
  have e1 : ((1 : Int).toNat) = 1 := rfl
  rw [Int.toNat_natCast, e1, Nat.and_one_is_mod]
  by_cases q : z % 2 = 1
  · rw [q]; simp
  · rw [show z % 2 = 0 by omega]; simp
/-- v says of each number below n whether P -/
def isBits (v : Int) (n : Nat) (P : Nat → Prop) : Prop := 0 ≤ v ∧ v < ((2 ^ n : Nat) : Int) ∧ ∀ s, s < n → (v.toNat.testBit s = true ↔ P s)
theorem isBits.uniq {v w : Int} {n : Nat} {P : Nat → Prop} (x : isBits v n P) (y : isBits w n P) : v = w := by
  have : v.toNat = w.toNat := by
    apply Nat.eq_of_testBit_eq
    intro i
    by_cases q : i < n
    · rw [Bool.eq_iff_iff, x.2.2 i q, y.2.2 i q]
    · have h1 : v.toNat < 2 ^ i := Nat.lt_of_lt_of_le (by have := x.2.1; have := x.1; omega) (Nat.pow_le_pow_right (by omega) (by omega : n ≤ i))
      have h2 : w.toNat < 2 ^ i := Nat.lt_of_lt_of_le (by have := y.2.1; have := y.1; omega) (Nat.pow_le_pow_right (by omega) (by omega : n ≤ i))
      rw [Nat.testBit_lt_two_pow h1, Nat.testBit_lt_two_pow h2]
  have h1 := x.1
  have h2 := y.1
  omega
theorem isBits.zero {n : Nat} {P : Nat → Prop} (h : ∀ s, s < n → ¬ P s) : isBits 0 n P := by
  refine ⟨by omega, ?_, fun s hs => ?_⟩
  · have := Nat.two_pow_pos n; omega
  · have e : ((0 : Int).toNat) = 0 := rfl
    rw [e, Nat.zero_testBit]
    simp [h s hs]
theorem isBits.or {v k : Int} {n : Nat} {P P' : Nat → Prop} (x : isBits v n P) (hn : n ≤ 30) (hk : 0 ≤ k ∧ k < (n : Int)) (h : ∀ s, s < n → (P' s ↔ P s ∨ (s : Int) = k)) : isBits (am_or v (am_shl 1 k)) n P' := by
  have p1 : 2 ^ n ≤ 2 ^ 30 := Nat.pow_le_pow_right (by omega) hn
  have p2 : 2 ^ k.toNat < 2 ^ n := Nat.pow_lt_pow_right (by omega) (by omega)
  have x1 := x.1
  have x2 := x.2.1
  have p3 : (0 : Int) ≤ ((2 ^ k.toNat : Nat) : Int) ∧ ((2 ^ k.toNat : Nat) : Int) < 2147483648 := ⟨Int.natCast_nonneg _, by
    have : 2 ^ k.toNat < 2147483648 := by omega
    generalize 2 ^ k.toNat = z at this
    omega⟩
  rw [shl1 (by omega), or32 (by omega) p3]
  rw [Int.toNat_natCast]
  refine ⟨by omega, ?_, fun s hs => ?_⟩
  · have := Nat.or_lt_two_pow (n := n) (x := v.toNat) (y := 2 ^ k.toNat) (by omega) p2
    omega
  · rw [Int.toNat_natCast, Nat.testBit_or, Nat.testBit_two_pow, Bool.or_eq_true, decide_eq_true_eq, x.2.2 s hs, h s hs]
    have : k.toNat = s ↔ (s : Int) = k := by omega
    rw [this]
theorem isBits.same {v : Int} {n : Nat} {P P' : Nat → Prop} (x : isBits v n P) (h : ∀ s, s < n → (P' s ↔ P s)) : isBits v n P' := ⟨x.1, x.2.1, fun s hs => by rw [x.2.2 s hs, h s hs]⟩
theorem or_0 {v : Int} (hv : 0 ≤ v ∧ v < 2147483648) : am_or v 0 = v := by
  rw [or32 hv (by omega)]
  have e : ((0 : Int).toNat) = 0 := rfl
  rw [e, Nat.or_zero]
  omega
-- longs
theorem bv64 {a : Int} (ha : 0 ≤ a ∧ a < 9223372036854775808) : (Int64.ofInt a).toBitVec.toNat = a.toNat := by
  show (BitVec.ofInt 64 a).toNat = _
  rw [BitVec.toNat_ofInt, Int.emod_eq_of_lt ha.1 (by omega)]
theorem ti64 {x : Int64} (h : x.toBitVec.toNat < 9223372036854775808) : x.toInt = (x.toBitVec.toNat : Int) := by
  show BitVec.toInt x.toBitVec = _
  exact BitVec.toInt_eq_toNat_of_lt (by omega)
theorem or64 {a b : Int} (ha : 0 ≤ a ∧ a < 9223372036854775808) (hb : 0 ≤ b ∧ b < 9223372036854775808) : am_lor a b = ((a.toNat ||| b.toNat : Nat) : Int) := by
  have n : (Int64.ofInt a ||| Int64.ofInt b).toBitVec.toNat = a.toNat ||| b.toNat := by
    show ((Int64.ofInt a).toBitVec ||| (Int64.ofInt b).toBitVec).toNat = _
    rw [BitVec.toNat_or, bv64 ha, bv64 hb]
  have lt : a.toNat ||| b.toNat < 2 ^ 63 := Nat.or_lt_two_pow (by omega) (by omega)
  unfold am_lor
  rw [ti64 (by rw [n]; omega), n]
theorem and64 {a b : Int} (ha : 0 ≤ a ∧ a < 9223372036854775808) (hb : 0 ≤ b ∧ b < 9223372036854775808) : am_land a b = ((a.toNat &&& b.toNat : Nat) : Int) := by
  have n : (Int64.ofInt a &&& Int64.ofInt b).toBitVec.toNat = a.toNat &&& b.toNat := by
    show ((Int64.ofInt a).toBitVec &&& (Int64.ofInt b).toBitVec).toNat = _
    rw [BitVec.toNat_and, bv64 ha, bv64 hb]
  have lt : a.toNat &&& b.toNat < 2 ^ 63 := Nat.and_lt_two_pow _ (by omega)
  unfold am_land
  rw [ti64 (by rw [n]; omega), n]
theorem shr64 {a k : Int} (ha : am_W a = a) (hk : 0 ≤ k ∧ k < 64) : am_lshr a k = a / ((2 ^ k.toNat : Nat) : Int) := by
  have h1 : ∀ k : Nat, k < 64 → ((((Int32.ofInt (k : Int)).toInt64 &&& 63).toBitVec).smod 64).toNat = k := by decide +kernel
  have h2 := h1 k.toNat (by omega)
  rw [show ((k.toNat : Nat) : Int) = k by omega] at h2
  unfold am_lshr
  show BitVec.toInt ((Int64.ofInt a).toBitVec.sshiftRight ((((Int32.ofInt k).toInt64 &&& 63).toBitVec).smod 64).toNat) = _
  rw [h2, BitVec.toInt_sshiftRight, Int.shiftRight_eq_div_pow]
  have h3 : (Int64.ofInt a).toBitVec.toInt = a := by
    show (Int64.ofInt a).toInt = a
    rw [am_tl]; exact ha
  rw [h3]
theorem bit64 {v k : Int} (hv : 0 ≤ v ∧ v < 2147483648) (hk : 0 ≤ k ∧ k < 31) : am_land (am_lshr v k) 1 = if v.toNat.testBit k.toNat then 1 else 0 := by
  have e : am_lshr v k = ((v.toNat / 2 ^ k.toNat : Nat) : Int) := by
    rw [shr64 (am_W_id (by omega) (by omega)) (by omega)]
    obtain ⟨n, rfl⟩ : ∃ n : Nat, v = n := ⟨v.toNat, by omega⟩
    rw [Int.toNat_natCast]
    rfl
  have lt : v.toNat / 2 ^ k.toNat ≤ v.toNat := Nat.div_le_self _ _
  rw [e, Nat.testBit_eq_decide_div_mod_eq]
  generalize v.toNat / 2 ^ k.toNat = z at lt
  rw [and64 (by omega) (by omega)]
  have e1 : ((1 : Int).toNat) = 1 := rfl
  rw [Int.toNat_natCast, e1, Nat.and_one_is_mod]
  by_cases q : z % 2 = 1
  · rw [q]; simp
  · rw [show z % 2 = 0 by omega]; simp
theorem lshl_4 {x : Int} (hx : 0 ≤ x ∧ x < 72057594037927936) : am_lshl x 4 = x * 16 := by
  have h1 : (((Int32.ofInt 4).toInt64 &&& 63).toBitVec.smod 64).toNat = 4 := by decide +kernel
  have n : (Int64.ofInt x <<< ((Int32.ofInt 4).toInt64 &&& 63)).toBitVec.toNat = x.toNat * 16 := by
    show ((Int64.ofInt x).toBitVec <<< (((Int32.ofInt 4).toInt64 &&& 63).toBitVec.smod 64).toNat).toNat = _
    rw [h1, BitVec.toNat_shiftLeft, bv64 (by omega), Nat.shiftLeft_eq]
    omega
  unfold am_lshl
  rw [ti64 (by rw [n]; omega), n]
  omega
theorem lshl_7 {x : Int} (hx : 0 ≤ x ∧ x < 72057594037927936) : am_lshl x 7 = x * 128 := by
  have h1 : (((Int32.ofInt 7).toInt64 &&& 63).toBitVec.smod 64).toNat = 7 := by decide +kernel
  have n : (Int64.ofInt x <<< ((Int32.ofInt 7).toInt64 &&& 63)).toBitVec.toNat = x.toNat * 128 := by
    show ((Int64.ofInt x).toBitVec <<< (((Int32.ofInt 7).toInt64 &&& 63).toBitVec.smod 64).toNat).toNat = _
    rw [h1, BitVec.toNat_shiftLeft, bv64 (by omega), Nat.shiftLeft_eq]
    omega
  unfold am_lshl
  rw [ti64 (by rw [n]; omega), n]
  omega
theorem or_add {x y : Nat} (k : Nat) (hy : y < 2 ^ k) : x * 2 ^ k ||| y = x * 2 ^ k + y := by
  have := Nat.shiftLeft_add_eq_or_of_lt hy x
  rw [Nat.shiftLeft_eq] at this
  exact this.symm
theorem shl_4 {x : Int} (hx : 0 ≤ x ∧ x < 6) : am_shl x 4 = 16 * x := by
  have : ∀ k : Nat, k < 6 → am_shl (k : Int) 4 = 16 * (k : Int) := by decide +kernel
  have := this x.toNat (by omega)
  rw [show ((x.toNat : Nat) : Int) = x by omega] at this
  exact this
/-- one sleeper more in a setting -/
theorem set_step {x b e : Int} (hx : 0 ≤ x ∧ x < 36028797018963968) (hb : 0 ≤ b ∧ b < 6) (he : 0 ≤ e ∧ e < 10) : am_lor (am_lor (am_lshl x 7) (am_shl b 4)) e = x * 128 + b * 16 + e := by
  rw [lshl_7 (by omega), shl_4 hb, or64 (a := x * 128) (b := 16 * b) (by omega) (by omega)]
  have e1 : (x * 128).toNat ||| (16 * b).toNat = x.toNat * 128 + b.toNat * 16 := by
    have := or_add (x := x.toNat) (y := b.toNat * 16) 7 (by omega)
    rw [show (x * 128).toNat = x.toNat * 2 ^ 7 by omega, show (16 * b).toNat = b.toNat * 16 by omega, this]
  rw [e1, or64 (by omega) (by omega), Int.toNat_natCast]
  have := or_add (x := x.toNat * 8 + b.toNat) (y := e.toNat) 4 (by omega)
  rw [show x.toNat * 128 + b.toNat * 16 = (x.toNat * 8 + b.toNat) * 2 ^ 4 by omega, this]
  omega
theorem set_end {x e : Int} (hx : 0 ≤ x ∧ x < 72057594037927936) (he : 0 ≤ e ∧ e < 10) : am_lor (am_lshl x 4) e = x * 16 + e := by
  rw [lshl_4 hx, or64 (by omega) (by omega)]
  have := or_add (x := x.toNat) (y := e.toNat) 4 (by omega)
  rw [show (x * 16).toNat = x.toNat * 2 ^ 4 by omega, this]
  omega
/-- no more than n different numbers below n -/
theorem pigeon : ∀ (n k : Nat) (f : Nat → Nat), (∀ i, i < k → f i < n) → (∀ i j, i < j → j < k → f i ≠ f j) → k ≤ n := by
  intro n
  induction n with
  | zero =>
    intro k f h1 h2
    rcases Nat.eq_zero_or_pos k with q | q
    · omega
    · have := h1 0 q; omega
  | succ n ih =>
    intro k f h1 h2
    by_cases q : ∃ i, i < k ∧ f i = n
    · obtain ⟨i, hi, e⟩ := q
      have := ih (k - 1) (fun j => if j < i then f j else f (j + 1)) (fun j hj => by
        show (if j < i then f j else f (j + 1)) < n
        split
        · rename_i c
          have := h1 j (by omega)
          have := h2 j i c hi
          omega
        · rename_i c
          have := h1 (j + 1) (by omega)
          have := h2 i (j + 1) (by omega) (by omega)
          omega) (fun x y hxy hy => by
        show (if x < i then f x else f (x + 1)) ≠ (if y < i then f y else f (y + 1))
        split
        · split
          · exact h2 x y hxy (by omega)
          · exact h2 x (y + 1) (by omega) (by omega)
        · split
          · omega
          · exact h2 (x + 1) (y + 1) (by omega) (by omega))
      omega
    · have := ih k f (fun j hj => by
        have h3 := h1 j hj
        have : f j ≠ n := fun e => q ⟨j, hj, e⟩
        omega) h2
      omega
