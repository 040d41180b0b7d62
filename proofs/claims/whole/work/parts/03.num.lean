/-! numbers of the small machine and of the real one -/
theorem am_w_w (x : Int) : am_w (am_w x) = am_w x := by unfold am_w; exact Int.bmod_bmod ..
theorem am_W_W (x : Int) : am_W (am_W x) = am_W x := by unfold am_W; exact Int.bmod_bmod ..
theorem am_w_id {x : Int} (h1 : -2147483648 ≤ x) (h2 : x < 2147483648) : am_w x = x := by
  unfold am_w
  exact Int.bmod_eq_of_le (by omega) (by omega)
theorem am_W_id {x : Int} (h1 : -9223372036854775808 ≤ x) (h2 : x < 9223372036854775808) : am_W x = x := by
  unfold am_W
  exact Int.bmod_eq_of_le (by omega) (by omega)
theorem am_w_rg {x : Int} (h : am_w x = x) : -2147483648 ≤ x ∧ x < 2147483648 := by
  unfold am_w at h
  have h1 := Int.le_bmod (x := x) (m := 4294967296) (by omega)
  have h2 := Int.bmod_lt (x := x) (m := 4294967296) (by omega)
  omega
theorem am_W_rg {x : Int} (h : am_W x = x) : -9223372036854775808 ≤ x ∧ x < 9223372036854775808 := by
  unfold am_W at h
  have h1 := Int.le_bmod (x := x) (m := 18446744073709551616) (by omega)
  have h2 := Int.bmod_lt (x := x) (m := 18446744073709551616) (by omega)
  omega
theorem am_ti (x : Int) : (Int32.ofInt x).toInt = am_w x := by rw [Int32.toInt_ofInt]; rfl
theorem am_tl (x : Int) : (Int64.ofInt x).toInt = am_W x := by rw [Int64.toInt_ofInt]; rfl
theorem am_oi (x : Int) : Int32.ofInt (am_w x) = Int32.ofInt x := Int32.toInt_inj.mp (by rw [am_ti, am_ti, am_w_w])
theorem am_ol (x : Int) : Int64.ofInt (am_W x) = Int64.ofInt x := Int64.toInt_inj.mp (by rw [am_tl, am_tl, am_W_W])
theorem am_io (x : Int32) : Int32.ofInt x.toInt = x := Int32.toInt_inj.mp (by rw [am_ti]; unfold am_w; exact Int.bmod_eq_of_le (by have := x.le_toInt; omega) (by have := x.toInt_lt; omega))
theorem am_lo (x : Int64) : Int64.ofInt x.toInt = x := Int64.toInt_inj.mp (by rw [am_tl]; unfold am_W; exact Int.bmod_eq_of_le (by have := x.le_toInt; omega) (by have := x.toInt_lt; omega))
theorem am_wr (x : Int32) : am_w x.toInt = x.toInt := by rw [← am_ti, am_io]
theorem am_Wr (x : Int64) : am_W x.toInt = x.toInt := by rw [← am_tl, am_lo]
theorem am_iadd (a b : Int) : Int32.ofInt a + Int32.ofInt b = Int32.ofInt (am_w (a + b)) := by rw [am_oi, Int32.ofInt_add]
theorem am_isub (a b : Int) : Int32.ofInt a - Int32.ofInt b = Int32.ofInt (am_w (a - b)) := by rw [am_oi, Int32.ofInt_sub]
theorem am_imul (a b : Int) : Int32.ofInt a * Int32.ofInt b = Int32.ofInt (am_w (a * b)) := by rw [am_oi, Int32.ofInt_mul]
theorem am_ineg (a : Int) : -Int32.ofInt a = Int32.ofInt (am_w (-a)) := by rw [am_oi, Int32.ofInt_neg]
theorem am_ladd (a b : Int) : Int64.ofInt a + Int64.ofInt b = Int64.ofInt (am_W (a + b)) := by rw [am_ol, Int64.ofInt_add]
theorem am_lsub (a b : Int) : Int64.ofInt a - Int64.ofInt b = Int64.ofInt (am_W (a - b)) := by rw [am_ol, Int64.ofInt_sub]
theorem am_lmul (a b : Int) : Int64.ofInt a * Int64.ofInt b = Int64.ofInt (am_W (a * b)) := by rw [am_ol, Int64.ofInt_mul]
theorem am_idiv {a b : Int} (ha : am_w a = a) (hb : am_w b = b) : Int32.ofInt a / Int32.ofInt b = Int32.ofInt (am_w (a.tdiv b)) := by
  apply Int32.toInt_inj.mp
  rw [Int32.toInt_div, am_ti, am_ti, am_ti, ha, hb, am_w_w]
  rfl
theorem am_ldiv {a b : Int} (ha : am_W a = a) (hb : am_W b = b) : Int64.ofInt a / Int64.ofInt b = Int64.ofInt (am_W (a.tdiv b)) := by
  apply Int64.toInt_inj.mp
  rw [Int64.toInt_div, am_tl, am_tl, am_tl, ha, hb, am_W_W]
  rfl
theorem am_tmod_le {a b lo hi : Int} (h1 : lo ≤ a) (h2 : a < hi) (h3 : lo ≤ 0) (h4 : 0 < hi) : lo ≤ a.tmod b ∧ a.tmod b < hi := by
  have e := Int.natAbs_tmod a b
  have e2 := Nat.mod_le a.natAbs b.natAbs
  rcases Int.le_total 0 a with h | h
  · have e3 := Int.tmod_nonneg b h
    omega
  · have e4 : (-a).tmod b = -(a.tmod b) := Int.neg_tmod ..
    have e3 := Int.tmod_nonneg b (a := -a) (by omega)
    omega
theorem am_tmod_w {a b : Int} (ha : am_w a = a) : am_w (a.tmod b) = a.tmod b := by
  have h := am_w_rg ha
  have h2 := am_tmod_le (b := b) h.1 h.2 (by omega) (by omega)
  exact am_w_id h2.1 h2.2
theorem am_tmod_W {a b : Int} (ha : am_W a = a) : am_W (a.tmod b) = a.tmod b := by
  have h := am_W_rg ha
  have h2 := am_tmod_le (b := b) h.1 h.2 (by omega) (by omega)
  exact am_W_id h2.1 h2.2
theorem am_irem {a b : Int} (ha : am_w a = a) (hb : am_w b = b) : Int32.ofInt a - Int32.ofInt a / Int32.ofInt b * Int32.ofInt b = Int32.ofInt (a.tmod b) := by
  rw [am_idiv ha hb, am_oi]
  rw [show a.tmod b = a - a.tdiv b * b by have := Int.tmod_add_mul_tdiv a b; rw [Int.mul_comm] at this; omega]
  rw [Int32.ofInt_sub, Int32.ofInt_mul]
theorem am_lrem {a b : Int} (ha : am_W a = a) (hb : am_W b = b) : Int64.ofInt a - Int64.ofInt a / Int64.ofInt b * Int64.ofInt b = Int64.ofInt (a.tmod b) := by
  rw [am_ldiv ha hb, am_ol]
  rw [show a.tmod b = a - a.tdiv b * b by have := Int.tmod_add_mul_tdiv a b; rw [Int.mul_comm] at this; omega]
  rw [Int64.ofInt_sub, Int64.ofInt_mul]
theorem am_ieq {a b : Int} (ha : am_w a = a) (hb : am_w b = b) : Int32.ofInt a = Int32.ofInt b ↔ a = b := by
  rw [← Int32.toInt_inj, am_ti, am_ti, ha, hb]
theorem am_ilt {a b : Int} (ha : am_w a = a) (hb : am_w b = b) : Int32.ofInt a < Int32.ofInt b ↔ a < b := by
  rw [Int32.lt_iff_toInt_lt, am_ti, am_ti, ha, hb]
theorem am_ile {a b : Int} (ha : am_w a = a) (hb : am_w b = b) : Int32.ofInt a ≤ Int32.ofInt b ↔ a ≤ b := by
  rw [Int32.le_iff_toInt_le, am_ti, am_ti, ha, hb]
theorem am_leq {a b : Int} (ha : am_W a = a) (hb : am_W b = b) : Int64.ofInt a = Int64.ofInt b ↔ a = b := by
  rw [← Int64.toInt_inj, am_tl, am_tl, ha, hb]
theorem am_llt {a b : Int} (ha : am_W a = a) (hb : am_W b = b) : Int64.ofInt a < Int64.ofInt b ↔ a < b := by
  rw [Int64.lt_iff_toInt_lt, am_tl, am_tl, ha, hb]
theorem am_w0 : am_w 0 = 0 := by decide +kernel
theorem am_i0 : Int32.ofInt 0 = 0 := by decide +kernel
theorem am_i2l' {a : Int} (ha : am_w a = a) : (Int32.ofInt a).toInt64 = Int64.ofInt a := by
  apply Int64.toInt_inj.mp
  rw [Int32.toInt_toInt64, am_ti, am_tl, ha]
  have h := am_w_rg ha
  exact (am_W_id (by omega) (by omega)).symm
theorem am_l2i' {a : Int} : (Int64.ofInt a).toInt32 = Int32.ofInt (am_w a) := by
  apply Int32.toInt_inj.mp
  rw [Int64.toInt_toInt32, am_tl, am_oi, am_ti]
  unfold am_W am_w
  exact Int.bmod_bmod_of_dvd (by decide)
theorem am_i2b' {a : Int} : (Int32.ofInt a).toInt8.toInt32 = Int32.ofInt (Int.bmod a 256) := by
  apply Int32.toInt_inj.mp
  rw [Int8.toInt_toInt32, Int32.toInt_toInt8, am_ti, am_ti]
  have h1 := Int.le_bmod (x := a) (m := 256) (by omega)
  have h2 := Int.bmod_lt (x := a) (m := 256) (by omega)
  rw [am_w_id (x := Int.bmod a 256) (by omega) (by omega)]
  unfold am_w
  exact Int.bmod_bmod_of_dvd (by decide)
theorem am_i2s' {a : Int} : (Int32.ofInt a).toInt16.toInt32 = Int32.ofInt (Int.bmod a 65536) := by
  apply Int32.toInt_inj.mp
  rw [Int16.toInt_toInt32, Int32.toInt_toInt16, am_ti, am_ti]
  have h1 := Int.le_bmod (x := a) (m := 65536) (by omega)
  have h2 := Int.bmod_lt (x := a) (m := 65536) (by omega)
  rw [am_w_id (x := Int.bmod a 65536) (by omega) (by omega)]
  unfold am_w
  exact Int.bmod_bmod_of_dvd (by decide)
theorem am_clamp {a : Int} (ha : am_w a = a) : (Int32.ofInt a).toNatClampNeg = a.toNat := by
  rw [show (Int32.ofInt a).toNatClampNeg = (Int32.ofInt a).toInt.toNat from rfl, am_ti, ha]
theorem am_vpin {a : Int} {n : Nat} (ha : am_w a = a) (h0 : 0 ≤ a) (hn : a < (n : Int)) : vp_in (Int32.ofInt a) n := by
  rw [vp_in_iff, am_ti, ha]
  exact ⟨h0, hn⟩
theorem am_b_rg (x : Int) : am_w (Int.bmod x 256) = Int.bmod x 256 := by
  have h1 := Int.le_bmod (x := x) (m := 256) (by omega)
  have h2 := Int.bmod_lt (x := x) (m := 256) (by omega)
  exact am_w_id (by omega) (by omega)
theorem am_s_rg (x : Int) : am_w (Int.bmod x 65536) = Int.bmod x 65536 := by
  have h1 := Int.le_bmod (x := x) (m := 65536) (by omega)
  have h2 := Int.bmod_lt (x := x) (m := 65536) (by omega)
  exact am_w_id (by omega) (by omega)
/-- bits: as the real machine has them -/
def am_and (a b : Int) : Int := (Int32.ofInt a &&& Int32.ofInt b).toInt
def am_or (a b : Int) : Int := (Int32.ofInt a ||| Int32.ofInt b).toInt
def am_xor (a b : Int) : Int := (Int32.ofInt a ^^^ Int32.ofInt b).toInt
def am_shl (a b : Int) : Int := (Int32.ofInt a <<< (Int32.ofInt b &&& 31)).toInt
def am_shr (a b : Int) : Int := (Int32.ofInt a >>> (Int32.ofInt b &&& 31)).toInt
def am_ushr (a b : Int) : Int := (((Int32.ofInt a).toUInt32 >>> ((Int32.ofInt b).toUInt32 &&& Int32.toUInt32 31)).toInt32).toInt
def am_land (a b : Int) : Int := (Int64.ofInt a &&& Int64.ofInt b).toInt
def am_lor (a b : Int) : Int := (Int64.ofInt a ||| Int64.ofInt b).toInt
def am_lshl (a b : Int) : Int := (Int64.ofInt a <<< ((Int32.ofInt b).toInt64 &&& 63)).toInt
def am_lshr (a b : Int) : Int := (Int64.ofInt a >>> ((Int32.ofInt b).toInt64 &&& 63)).toInt
def am_i2c (a : Int) : Int := (((Int32.ofInt a).toUInt32 % 65536).toInt32).toInt
