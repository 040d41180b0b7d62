/-! for the program's rows -/
def o_cret : am_St → Option (Option am_V) := fun st => match st with
  | [.inl x] => if 0 ≤ x ∧ x < 128 then some (some (.inl x)) else none
  | _ => none
theorem am_char128 : ∀ k : Fin 128, narrow .char (.int (Int32.ofInt (k.val : Int))) = .int (Int32.ofInt (k.val : Int)) := by decide +kernel
theorem sr_c {cc : ByteArray} {pc : Nat} (hd : decode cc pc = .ok (.ireturn, 1)) : am_Sr cc (some .char) pc o_cret := by
  refine ⟨?_, ?_⟩
  · intro p l e R s m args below meth c E own nm nL X st h v H locs ls cells slots hF hR hS
    unfold o_cret at hF
    split at hF
    · rename_i x
      split at hF
      · rename_i hx
        cases hF
        have := am_char128 ⟨x.toNat, by omega⟩
        simp only [show ((x.toNat : Nat) : Int) = x by omega] at this
        exact W.zret X.1 X.2.1 X.2.2.2.2.1 this (am_Qc_of hR hS rfl) hS.2.2 hd X.2.2.2.2.2.1
      · cases hF
    · cases hF
  · intro st v hF
    unfold o_cret at hF
    split at hF
    · split at hF
      · cases hF; simp
      · cases hF
    · cases hF
theorem sn_bad {cc : ByteArray} {own nm : String} {ret : Option FieldType} {nL pc : Nat} {scr : Nat × (Nat → Int)} : am_Sn cc own ret nL nm scr pc o_bad := by
  intro p l e R s m args below meth c Q E n0 s0 hscr X lv st h pc' lv' st' h' hF
  cases hF
theorem pv_bad : am_Pv o_bad := by
  intro lv st h pc' lv' st' h' hF
  cases hF
section ATS
variable {I : am_I} {scr : Nat × (Nat → Int)} {y : MethodName} {cc : ByteArray} {nL : Nat} {ret : Option FieldType} {pc : Nat}
theorem at_n {F : am_F} (a : am_Sn cc y.cls ret nL y.name scr pc F) (b : am_Pv F) : am_at I scr y cc nL ret pc (.inl F) := ⟨a, b⟩
theorem at_r {F : am_St → Option (Option am_V)} (a : am_Sr cc ret pc F) : am_at I scr y cc nL ret pc (.inr (.inl F)) := a
theorem at_c {g nx : Nat} {F : am_St → am_H → Option (List am_V × am_St)} {yg : MethodName} {cg : ByteArray} {ng : Nat} {rg : Option FieldType} (hg : I g = some (yg, cg, ng, rg)) (h : am_Sc cc y.cls ret nL y.name pc yg cg ng rg F nx) : am_at I scr y cc nL ret pc (.inr (.inr (g, F, nx))) := ⟨yg, cg, ng, rg, hg, h⟩
theorem at_b : am_at I scr y cc nL ret pc (.inl o_bad) := ⟨sn_bad, pv_bad⟩
theorem at_i {k : Nat} {A B : am_Op} (a : am_at I scr y cc nL ret pc A) (b : am_at I scr y cc nL ret pc B) : am_at I scr y cc nL ret pc (if pc < k then A else B) := by
  split
  · exact a
  · exact b
theorem at_e {k : Nat} {A : am_Op} (a : am_at I scr y cc nL ret k A) : am_at I scr y cc nL ret pc (if pc = k then A else .inl o_bad) := by
  split
  · rename_i e; subst e; exact a
  · exact at_b
end ATS
theorem am_zz {ty : FieldType} (h0 : narrow ty (.int (Int32.ofInt 0)) = .int (Int32.ofInt 0)) (h1 : narrow ty (.int (Int32.ofInt 1)) = .int (Int32.ofInt 1)) : ∀ x : Int, (x = 0 ∨ x = 1) → narrow ty (.int (Int32.ofInt x)) = .int (Int32.ofInt x) := by
  intro x h
  rcases h with h | h <;> subst h
  · exact h0
  · exact h1
theorem am_zB : ∀ x : Int, (x = 0 ∨ x = 1) → narrow .boolean (.int (Int32.ofInt x)) = .int (Int32.ofInt x) := am_zz (by decide +kernel) (by decide +kernel)
theorem am_zY : ∀ x : Int, (x = 0 ∨ x = 1) → narrow .byte (.int (Int32.ofInt x)) = .int (Int32.ofInt x) := am_zz (by decide +kernel) (by decide +kernel)
theorem am_tx_len : ∀ j, (am_tx.getD j []).length < 2147483648 := by
  intro j
  by_cases h : j < am_tx.length
  · have := am_getD_in (l := am_tx) (d := []) h
    have h2 : ∀ l ∈ am_tx, l.length < 2147483648 := by decide +kernel
    exact h2 _ this
  · rw [List.getD_eq_getElem?_getD, List.getElem?_eq_none (by omega)]
    decide
theorem am_tx_rg : ∀ l ∈ am_tx, ∀ x ∈ l, am_w x = x := by decide +kernel
theorem pv_tlen' {nx : Nat} : am_Pv (o_tlen am_tx nx) := pv_tlen am_tx_len
theorem pv_tald' {nx : Nat} : am_Pv (o_tald am_tx nx) := pv_tald am_tx_rg
theorem pf_add {nx : Nat} : am_Pv (o_i2 (fun a b => am_w (a + b)) nx) := pv_i2 (fun _ _ _ _ => am_w_w _)
theorem pf_sub {nx : Nat} : am_Pv (o_i2 (fun a b => am_w (a - b)) nx) := pv_i2 (fun _ _ _ _ => am_w_w _)
theorem pf_mul {nx : Nat} : am_Pv (o_i2 (fun a b => am_w (a * b)) nx) := pv_i2 (fun _ _ _ _ => am_w_w _)
theorem pf_and {nx : Nat} : am_Pv (o_i2 (fun a b => am_and a b) nx) := pv_i2 (fun _ _ _ _ => am_wr _)
theorem pf_or {nx : Nat} : am_Pv (o_i2 (fun a b => am_or a b) nx) := pv_i2 (fun _ _ _ _ => am_wr _)
theorem pf_xor {nx : Nat} : am_Pv (o_i2 (fun a b => am_xor a b) nx) := pv_i2 (fun _ _ _ _ => am_wr _)
theorem pf_shl {nx : Nat} : am_Pv (o_i2 (fun a b => am_shl a b) nx) := pv_i2 (fun _ _ _ _ => am_wr _)
theorem pf_shr {nx : Nat} : am_Pv (o_i2 (fun a b => am_shr a b) nx) := pv_i2 (fun _ _ _ _ => am_wr _)
theorem pf_ushr {nx : Nat} : am_Pv (o_i2 (fun a b => am_ushr a b) nx) := pv_i2 (fun _ _ _ _ => am_wr _)
theorem pf_div {nx : Nat} : am_Pv (o_i2z (fun a b => am_w (a.tdiv b)) nx) := pv_i2z (fun _ _ _ _ => am_w_w _)
theorem pf_rem {nx : Nat} : am_Pv (o_i2z (fun a b => a.tmod b) nx) := pv_i2z (fun _ _ h _ => am_tmod_w h)
theorem pf_ladd {nx : Nat} : am_Pv (o_l2 (fun a b => am_W (a + b)) nx) := pv_l2 (fun _ _ _ _ => am_W_W _)
theorem pf_lsub {nx : Nat} : am_Pv (o_l2 (fun a b => am_W (a - b)) nx) := pv_l2 (fun _ _ _ _ => am_W_W _)
theorem pf_lmul {nx : Nat} : am_Pv (o_l2 (fun a b => am_W (a * b)) nx) := pv_l2 (fun _ _ _ _ => am_W_W _)
theorem pf_land {nx : Nat} : am_Pv (o_l2 (fun a b => am_land a b) nx) := pv_l2 (fun _ _ _ _ => am_Wr _)
theorem pf_lor {nx : Nat} : am_Pv (o_l2 (fun a b => am_lor a b) nx) := pv_l2 (fun _ _ _ _ => am_Wr _)
theorem pf_ldiv {nx : Nat} : am_Pv (o_l2z (fun a b => am_W (a.tdiv b)) nx) := pv_l2z (fun _ _ _ _ => am_W_W _)
theorem pf_lrem {nx : Nat} : am_Pv (o_l2z (fun a b => a.tmod b) nx) := pv_l2z (fun _ _ h _ => am_tmod_W h)
theorem pf_lshl {nx : Nat} : am_Pv (o_lsh (fun a b => am_lshl a b) nx) := pv_lsh (fun _ _ => am_Wr _)
theorem pf_lshr {nx : Nat} : am_Pv (o_lsh (fun a b => am_lshr a b) nx) := pv_lsh (fun _ _ => am_Wr _)
theorem pf_neg {nx : Nat} : am_Pv (o_i1 (fun a => am_w (-a)) nx) := pv_i1 (fun _ _ => am_w_w _)
theorem pf_i2b {nx : Nat} : am_Pv (o_i1 (fun a => Int.bmod a 256) nx) := pv_i1 (fun _ _ => am_b_rg _)
theorem pf_i2s {nx : Nat} : am_Pv (o_i1 (fun a => Int.bmod a 65536) nx) := pv_i1 (fun _ _ => am_s_rg _)
theorem pf_i2c {nx : Nat} : am_Pv (o_i1 (fun a => am_i2c a) nx) := pv_i1 (fun _ _ => am_wr _)
theorem pf_I {n : Int} {nx : Nat} (h : am_w n = n) : am_Pv (o_push (.inl n) nx) := pv_push (v := .inl n) h
theorem pf_L {n : Int} {nx : Nat} (h : am_W n = n) : am_Pv (o_push (.inr (.inl n)) nx) := pv_push (v := .inr (.inl n)) h
theorem pf_R {n : Int} {nx : Nat} : am_Pv (o_push (.inr (.inr n)) nx) := pv_push (v := .inr (.inr n)) trivial
theorem clX0 : am_Cl 0 RX0 TX0 13 tyX0 := ⟨rfl, inX0, tyX0_ok, nmX0, by decide +kernel⟩
theorem clX1 : am_Cl 1 RX1 TX1 14 tyX1 := ⟨rfl, inX1, tyX1_ok, nmX1, by decide +kernel⟩
theorem clX2 : am_Cl 2 RX2 TX2 3 tyX2 := ⟨rfl, inX2, tyX2_ok, nmX2, by decide +kernel⟩
theorem clX3 : am_Cl 3 RX3 TX3 7 tyX3 := ⟨rfl, inX3, tyX3_ok, nmX3, by decide +kernel⟩
theorem clX4 : am_Cl 4 RX4 TX4 9 tyX4 := ⟨rfl, inX4, tyX4_ok, nmX4, by decide +kernel⟩
theorem clX5 : am_Cl 5 RX5 TX5 4 tyX5 := ⟨rfl, inX5, tyX5_ok, nmX5, by decide +kernel⟩
theorem clX6 : am_Cl 6 RX6 TX6 3 tyX6 := ⟨rfl, inX6, tyX6_ok, nmX6, by decide +kernel⟩
theorem clX7 : am_Cl 7 RX7 TX7 8 tyX7 := ⟨rfl, inX7, tyX7_ok, nmX7, by decide +kernel⟩
theorem clX8 : am_Cl 8 RX8 TX8 5 tyX8 := ⟨rfl, inX8, tyX8_ok, nmX8, by decide +kernel⟩
theorem clX9 : am_Cl 9 RX9 TX9 8 tyX9 := ⟨rfl, inX9, tyX9_ok, nmX9, by decide +kernel⟩
theorem clX10 : am_Cl 10 RX10 TX10 4 tyX10 := ⟨rfl, inX10, tyX10_ok, nmX10, by decide +kernel⟩
theorem clX11 : am_Cl 11 RX11 TX11 19 tyX11 := ⟨rfl, inX11, tyX11_ok, nmX11, by decide +kernel⟩
theorem clX12 : am_Cl 12 RX12 TX12 40 tyX12 := ⟨rfl, inX12, tyX12_ok, nmX12, by decide +kernel⟩
def am_nz (c j : Nat) : Int := if am_ft c j = 2 then -1 else 0
def am_tsw (lo hi : Int) (tbl : List Nat) (d : Nat) (x : Int) : Nat := if x < lo ∨ hi < x then d else tbl.getD (x - lo).toNat d
theorem sn_tswL {cc : ByteArray} {own nm : String} {ret : Option FieldType} {nL pc : Nat} {scr : Nat × (Nat → Int)} {dflt lo hi : Int} {offs : Array Int} {len d : Nat} {tbl : List Nat} (hd : decode cc pc = .ok (.tableswitch dflt lo hi offs, len)) (hdf : (pc : Int) + dflt = (d : Int)) (hl : ((tbl.length : Nat) : Int) = hi - lo + 1)
    (ha : (List.range tbl.length).all (fun j => decide (offs[j]? = some (((tbl.getD j d : Nat) : Int) - (pc : Int)))) = true) : am_Sn cc own ret nL nm scr pc (o_tsw (am_tsw lo hi tbl d)) := by
  refine sn_tsw hd (fun x hx => ?_) (fun x h1 h2 => ?_)
  · unfold am_tsw
    rw [if_pos hx]
    exact hdf
  · unfold am_tsw
    rw [if_neg (fun z => z.elim h1 h2)]
    have hj : (x - lo).toNat < tbl.length := by omega
    have := List.all_eq_true.mp ha (x - lo).toNat (List.mem_range.mpr hj)
    simp only [decide_eq_true_eq] at this
    exact ⟨_, this, by omega⟩
