/-! more rules: plays, trays, new cells, copies, texts, switches -/
def PL : List Nat := [24, 27, 31, 58, 65, 68, 71, 74, 77, 80, 83, 86, 89, 92, 103, 106]
def TR : List Nat := [95, 97, 99, 101]
theorem pl_lt {p : Nat} (hp : p ∈ PL) : p + 2 < 133 ∧ wk p = (14, 9) ∧ wk (p + 1) = (1, 6) ∧ wk (p + 2) = (1, 6) ∧ (p, 1, p + 1) ∈ wr_l ∧ (p, 2, p + 2) ∈ wr_l ∧ p + 1 ∉ wr_o ∧ p + 2 ∉ wr_o := by
  have : ∀ p ∈ PL, p + 2 < 133 ∧ wk p = (14, 9) ∧ wk (p + 1) = (1, 6) ∧ wk (p + 2) = (1, 6) ∧ (p, 1, p + 1) ∈ wr_l ∧ (p, 2, p + 2) ∈ wr_l ∧ p + 1 ∉ wr_o ∧ p + 2 ∉ wr_o := by decide +kernel
  exact this p hp
theorem pl_np {p k : Nat} (hp : p ∈ PL) (hk : k ≠ 1 ∧ k ≠ 2) : ∀ q ∈ wr_l, ¬ (q.1 = p ∧ q.2.1 = k) := by
  have : ∀ p ∈ PL, ∀ q ∈ wr_l, q.1 = p → q.2.1 = 1 ∨ q.2.1 = 2 := by decide +kernel
  intro q hq e
  rcases this p hp q hq e.1 with h | h
  · exact hk.1 (e.2.symm.trans h)
  · exact hk.2 (e.2.symm.trans h)
theorem tr_lt {t : Nat} (ht : t ∈ TR) : t + 1 < 133 ∧ wk t = (20, 4) ∧ wk (t + 1) = (2, 40) ∧ (t, 3, t + 1) ∈ wr_l ∧ t + 1 ∉ wr_o := by
  have : ∀ t ∈ TR, t + 1 < 133 ∧ wk t = (20, 4) ∧ wk (t + 1) = (2, 40) ∧ (t, 3, t + 1) ∈ wr_l ∧ t + 1 ∉ wr_o := by decide +kernel
  exact this t ht
theorem tr_np {t k : Nat} (ht : t ∈ TR) (hk : k ≠ 3) : ∀ q ∈ wr_l, ¬ (q.1 = t ∧ q.2.1 = k) := by
  have : ∀ t ∈ TR, ∀ q ∈ wr_l, q.1 = t → q.2.1 = 3 := by decide +kernel
  intro q hq e
  exact hk (e.2.symm.trans (this t ht q hq e.1))
section PLT
variable {h : am_H} {p t : Nat} {j : Int}
theorem pl_o (hp : p ∈ PL) (hw : wf h) : am_isO h ((p : Nat) : Int) 4 := hw.o (by have := (pl_lt hp).1; omega) (pl_lt hp).2.1
theorem pl_b (hp : p ∈ PL) (hw : wf h) : h.2.2.2 ((p : Nat) : Int).toNat 1 = ((p + 1 : Nat) : Int) := hw.r (pl_lt hp).2.2.2.2.1
theorem pl_d (hp : p ∈ PL) (hw : wf h) : h.2.2.2 ((p : Nat) : Int).toNat 2 = ((p + 2 : Nat) : Int) := hw.r (pl_lt hp).2.2.2.2.2.1
theorem pl_ba (hp : p ∈ PL) (hw : wf h) (h0 : 0 ≤ j) (h1 : j < 6) : am_inA h ((p + 1 : Nat) : Int) 1 j := hw.a (by have := (pl_lt hp).1; omega) (pl_lt hp).2.2.1 h0 h1
theorem pl_da (hp : p ∈ PL) (hw : wf h) (h0 : 0 ≤ j) (h1 : j < 6) : am_inA h ((p + 2 : Nat) : Int) 1 j := hw.a (by have := (pl_lt hp).1; omega) (pl_lt hp).2.2.2.1 h0 h1
theorem tr_o (ht : t ∈ TR) (hw : wf h) : am_isO h ((t : Nat) : Int) 10 := hw.o (by have := (tr_lt ht).1; omega) (tr_lt ht).2.1
theorem tr_h (ht : t ∈ TR) (hw : wf h) : h.2.2.2 ((t : Nat) : Int).toNat 3 = ((t + 1 : Nat) : Int) := hw.r (tr_lt ht).2.2.2.1
theorem tr_ha (ht : t ∈ TR) (hw : wf h) (h0 : 0 ≤ j) (h1 : j < 40) : am_inA h ((t + 1 : Nat) : Int) 2 j := hw.a (by have := (tr_lt ht).1; omega) (tr_lt ht).2.2.1 h0 h1
theorem tr_hl (ht : t ∈ TR) (hw : wf h) : 0 ≤ ((t + 1 : Nat) : Int) ∧ 1 ≤ (h.2.2.1 ((t + 1 : Nat) : Int).toNat).1 ∧ (h.2.2.1 ((t + 1 : Nat) : Int).toNat).1 ≤ 6 ∧ (h.2.2.1 ((t + 1 : Nat) : Int).toNat).2 ≤ 1000000 := hw.l (by have := (tr_lt ht).1; omega) (tr_lt ht).2.2.1 (by decide)
theorem pl_ring (hw : wf h) (hj : 0 ≤ j ∧ j < 10) : (65 + 3 * j.toNat) ∈ PL ∧ h.2.2.2 ((64 : Nat) : Int).toNat j.toNat = ((65 + 3 * j.toNat : Nat) : Int) := by
  obtain ⟨k, hk⟩ : ∃ k : Nat, j = k := ⟨j.toNat, by omega⟩
  subst hk
  have hk : k < 10 := by omega
  rw [Int.toNat_natCast]
  have h1 : ∀ k, k < 10 → (65 + 3 * k) ∈ PL ∧ (64, k, 65 + 3 * k) ∈ wr_l := by decide +kernel
  exact ⟨(h1 k hk).1, hw.r (h1 k hk).2⟩
theorem pl_img (hw : wf h) (hj : 0 ≤ j ∧ j < 2) : (103 + 3 * j.toNat) ∈ PL ∧ h.2.2.2 ((18 : Nat) : Int).toNat j.toNat = ((103 + 3 * j.toNat : Nat) : Int) := by
  obtain ⟨k, hk⟩ : ∃ k : Nat, j = k := ⟨j.toNat, by omega⟩
  subst hk
  have hk : k < 2 := by omega
  rw [Int.toNat_natCast]
  have h1 : ∀ k, k < 2 → (103 + 3 * k) ∈ PL ∧ (18, k, 103 + 3 * k) ∈ wr_l := by decide +kernel
  exact ⟨(h1 k hk).1, hw.r (h1 k hk).2⟩
theorem tr_all (hw : wf h) (hj : 0 ≤ j ∧ j < 4) : (95 + 2 * j.toNat) ∈ TR ∧ h.2.2.2 ((17 : Nat) : Int).toNat j.toNat = ((95 + 2 * j.toNat : Nat) : Int) := by
  obtain ⟨k, hk⟩ : ∃ k : Nat, j = k := ⟨j.toNat, by omega⟩
  subst hk
  have hk : k < 4 := by omega
  rw [Int.toNat_natCast]
  have h1 : ∀ k, k < 4 → (95 + 2 * k) ∈ TR ∧ (17, k, 95 + 2 * k) ∈ wr_l := by decide +kernel
  exact ⟨(h1 k hk).1, hw.r (h1 k hk).2⟩
theorem fit_all (hw : wf h) (hj : 0 ≤ j ∧ j < 9) : h.2.2.2 ((47 : Nat) : Int).toNat j.toNat = ((48 + j.toNat : Nat) : Int) ∧ wk (48 + j.toNat) = (2, 185) ∧ 48 + j.toNat < 133 ∧ 48 + j.toNat ∉ wr_o := by
  obtain ⟨k, hk⟩ : ∃ k : Nat, j = k := ⟨j.toNat, by omega⟩
  subst hk
  have hk : k < 9 := by omega
  rw [Int.toNat_natCast]
  have h1 : ∀ k, k < 9 → (47, k, 48 + k) ∈ wr_l ∧ wk (48 + k) = (2, 185) ∧ 48 + k < 133 ∧ 48 + k ∉ wr_o := by decide +kernel
  exact ⟨hw.r (h1 k hk).1, (h1 k hk).2⟩
theorem wf.mk {kd n : Nat} {z : Nat → Int} (hw : wf h) : wf (am_mk h kd n z) := by
  obtain ⟨h1, h2, h3⟩ := hw
  refine ⟨Nat.le_succ_of_le h1, fun i hi => ?_, fun q hq => ?_⟩
  · show (if i = h.1 then (kd, n) else h.2.2.1 i) = _
    rw [if_neg (by omega)]
    exact h2 i hi
  · have h4 : ∀ q ∈ wr_l, q.1 < 133 := by decide +kernel
    have := h4 q hq
    show (if q.1 = h.1 then z q.2.1 else h.2.2.2 q.1 q.2.1) = _
    rw [if_neg (by omega)]
    exact h3 q hq
theorem wf.cpy {a b sp dp n : Nat} (hw : wf h) (hb : b ∉ wr_o) : wf (am_cpy h a b sp dp n) := by
  obtain ⟨h1, h2, h3⟩ := hw
  refine ⟨h1, h2, fun q hq => ?_⟩
  show (if q.1 = b ∧ dp ≤ q.2.1 ∧ q.2.1 < dp + n then _ else h.2.2.2 q.1 q.2.1) = _
  rw [if_neg (fun e => hb (by rw [← e.1]; exact List.mem_map.mpr ⟨q, hq, rfl⟩))]
  exact h3 q hq
end PLT
section RUL2
variable {d f pc : Nat} {lv : am_Lv} {r : am_St} {h : am_H} {Q : Option am_V → am_H → Prop} {P : am_P}
theorem r_newa {t nx : Nat} {n : Int} (hc : P.1 f pc = .inl (o_newa t nx)) (hn : 0 ≤ n ∧ n ≤ 1000000) (k : am_R P d f nx lv (.inr (.inr ((h.1 : Nat) : Int)) :: r) (am_mk h t n.toNat (fun _ => 0)) Q) : am_R P d f pc lv (.inl n :: r) h Q := am_R.next hc (by unfold o_newa; simp only; rw [if_pos hn]) k
theorem r_drop {c nx : Nat} {a : Int} (hc : P.1 f pc = .inl (o_drop c nx)) (ho : am_isO h a c) (hr : (r.map am_cat).sum ≤ 8) (k : am_R P d f nx lv r h Q) : am_R P d f pc lv (.inr (.inr a) :: r) h Q := am_R.next hc (by unfold o_drop; simp only; rw [if_pos ⟨ho, hr⟩]) k
theorem r_acpy {nx : Nat} {n dp b sp a : Int} (hc : P.1 f pc = .inl (o_acpy nx)) (ha : am_inA h a 1 0 ∨ (0 ≤ a ∧ (h.2.2.1 a.toNat).1 = 1)) (hb : 0 ≤ b ∧ (h.2.2.1 b.toNat).1 = 1) (hab : a ≠ b) (h0 : 0 ≤ n ∧ 0 ≤ dp ∧ 0 ≤ sp) (h1 : sp + n ≤ ((h.2.2.1 a.toNat).2 : Int)) (h2 : dp + n ≤ ((h.2.2.1 b.toNat).2 : Int)) (hr : (r.map am_cat).sum ≤ 8) (k : am_R P d f nx lv r (am_cpy h a.toNat b.toNat sp.toNat dp.toNat n.toNat) Q) : am_R P d f pc lv (.inl n :: .inl dp :: .inr (.inr b) :: .inl sp :: .inr (.inr a) :: r) h Q := by
  have ha2 : 0 ≤ a ∧ (h.2.2.1 a.toNat).1 = 1 := by
    rcases ha with q | q
    · exact ⟨q.1, q.2.1⟩
    · exact q
  exact am_R.next hc (by unfold o_acpy; simp only; rw [if_pos ⟨ha2.1, ha2.2, hb.1, hb.2, hab, h0.1, h0.2.1, h0.2.2, h1, h2, hr⟩]) k
theorem r_tval {n nx : Nat} {a : Int} (hc : P.1 f pc = .inl (o_tval n nx)) (ha : a ≤ -2 ∧ -2 - (n : Int) < a) (k : am_R P d f nx lv (.inr (.inr (a - 498)) :: r) h Q) : am_R P d f pc lv (.inr (.inr a) :: r) h Q := am_R.next hc (by unfold o_tval; simp only; rw [if_pos ha]) k
theorem r_tcod {n nx : Nat} {a : Int} (hc : P.1 f pc = .inl (o_tcod n nx)) (ha : a ≤ -2 ∧ -2 - (n : Int) < a) (k : am_R P d f nx lv (.inl 0 :: r) h Q) : am_R P d f pc lv (.inr (.inr a) :: r) h Q := am_R.next hc (by unfold o_tcod; simp only; rw [if_pos ha]) k
theorem r_tlen {tx : List (List Int)} {nx : Nat} {a : Int} (hc : P.1 f pc = .inl (o_tlen tx nx)) (ha : a ≤ -500 ∧ -500 - (tx.length : Int) < a) (k : am_R P d f nx lv (.inl ((tx.getD (-500 - a).toNat []).length : Int) :: r) h Q) : am_R P d f pc lv (.inr (.inr a) :: r) h Q := am_R.next hc (by unfold o_tlen; simp only; rw [if_pos ha]) k
theorem r_tald {tx : List (List Int)} {nx : Nat} {a i : Int} (hc : P.1 f pc = .inl (o_tald tx nx)) (ha : a ≤ -500 ∧ -500 - (tx.length : Int) < a ∧ 0 ≤ i ∧ i < ((tx.getD (-500 - a).toNat []).length : Int)) (k : am_R P d f nx lv (.inl ((tx.getD (-500 - a).toNat []).getD i.toNat 0) :: r) h Q) : am_R P d f pc lv (.inl i :: .inr (.inr a) :: r) h Q := am_R.next hc (by unfold o_tald; simp only; rw [if_pos ha]) k
theorem r_ct {g n nx tl : Nat} {a : Int} {bs : List am_V} {st' st : am_St} (hc : P.1 f pc = .inr (.inr (g, o_ct tl n, nx))) (ho : a ≤ -2 ∧ -2 - (tl : Int) < a) (hst : st = bs.reverse ++ .inr (.inr a) :: st') (hn : bs.length = n) (hcat : (st'.map am_cat).sum ≤ 8) (hl : (am_sl (.inr (.inr a) :: bs)).length ≤ P.2 g) (k : am_R P d g 0 (am_entry (P.2 g) (.inr (.inr a) :: bs)) [] h (fun v h1 => am_R P (d + 1) f nx lv (v.toList ++ st') h1 Q)) : am_R P (d + 1) f pc lv st h Q := by
  refine am_R.call hc (as := .inr (.inr a) :: bs) (st' := st') ?_ hl k
  subst hst; subst hn
  unfold o_ct
  have e0 : bs.reverse ++ .inr (.inr a) :: st' = (.inr (.inr a) :: bs).reverse ++ st' := by simp
  have e1 : (bs.reverse ++ .inr (.inr a) :: st').take (bs.length + 1) = (.inr (.inr a) :: bs).reverse := by rw [e0, List.take_append_of_le_length (by simp)]; exact List.take_of_length_le (by simp)
  have e2 : (bs.reverse ++ .inr (.inr a) :: st').drop (bs.length + 1) = st' := by rw [e0, List.drop_append_of_le_length (by simp)]; simp
  rw [e1, e2, List.reverse_reverse]
  simp only
  rw [if_pos ⟨ho.1, ho.2, trivial, hcat⟩]
theorem r_slen {L nx : Nat} (hc : P.1 f pc = .inl (o_slen L nx)) (k : am_R P d f nx lv (.inl (L : Int) :: r) h Q) : am_R P d f pc lv (.inr (.inr (-1000)) :: r) h Q := am_R.next hc (by unfold o_slen; simp only; rw [if_pos trivial]) k
theorem r_sld {L nx : Nat} {xs : Nat → Int} {i : Int} (hc : P.1 f pc = .inl (o_sld L xs nx)) (hi : 0 ≤ i ∧ i < (L : Int)) (k : am_R P d f nx lv (.inl (xs i.toNat) :: r) h Q) : am_R P d f pc lv (.inl i :: .inr (.inr (-1000)) :: r) h Q := am_R.next hc (by unfold o_sld; simp only; rw [if_pos ⟨trivial, hi.1, hi.2⟩]) k
theorem tsw_out {lo hi x : Int} {tbl : List Nat} {dd : Nat} (hx : x < lo ∨ hi < x) : am_tsw lo hi tbl dd x = dd := by unfold am_tsw; rw [if_pos hx]
theorem tsw_d {lo hi x : Int} {tbl : List Nat} {dd : Nat} (hl : ((tbl.length : Nat) : Int) = hi - lo + 1) (hx : ∀ j, j < tbl.length → tbl.getD j dd = dd ∨ x ≠ lo + ((j : Nat) : Int)) : am_tsw lo hi tbl dd x = dd := by
  unfold am_tsw
  split
  · rfl
  · rename_i q
    rcases hx (x - lo).toNat (by omega) with h | h
    · exact h
    · exact absurd (by omega) h
end RUL2
