/-! rules for runs of the small machine -/
theorem am_run_more {P : am_P} {I : am_I} {scr : Nat × (Nat → Int)} (hP : am_OK P I scr) : ∀ (n d f pc : Nat) (lv lw : am_Lv) (st : am_St) (h : am_H) (x : Option am_V × am_H) (q : MethodName × ByteArray × Nat × Option FieldType), I f = some q → am_le lv lw → am_run P n d f pc lv st h = some x → am_run P n d f pc lw st h = some x := by
  intro n
  induction n with
  | zero => intro d f pc lv lw st h x q hq hle hr; simp [am_run] at hr
  | succ n ih =>
    intro d f pc lv lw st h x q hq hle hr
    obtain ⟨y, cc, nL, ret⟩ := q
    have hat := (hP f y cc nL ret hq).2.2 pc
    rw [am_run] at hr ⊢
    cases hc : P.1 f pc with
    | inl F =>
      rw [hc] at hat
      simp only [hc] at hr ⊢
      cases hF : F lv st h with
      | none => simp [hF] at hr
      | some z =>
        obtain ⟨pc', lv', st', h'⟩ := z
        simp only [hF] at hr
        obtain ⟨lw', e1, e2⟩ := (hat.2 _ _ _ _ _ _ _ hF).2 lw hle
        simp only [e1]
        exact ih _ _ _ _ _ _ _ _ _ hq e2 hr
    | inr z =>
      cases z with
      | inl F => simp only [hc] at hr ⊢; exact hr
      | inr z =>
        obtain ⟨g, F, nx⟩ := z
        simp only [hc] at hr ⊢
        cases hF : F st h with
        | none => simp [hF] at hr
        | some z =>
          obtain ⟨as, st'⟩ := z
          simp only [hF] at hr ⊢
          cases d with
          | zero => simp at hr
          | succ d' =>
            simp only at hr ⊢
            by_cases hl : (am_sl as).length ≤ P.2 g
            · rw [if_pos hl] at hr ⊢
              cases hr2 : am_run P n d' g 0 (am_entry (P.2 g) as) [] h with
              | none => simp [hr2] at hr
              | some q2 =>
                obtain ⟨v1, h1⟩ := q2
                simp only [hr2] at hr ⊢
                exact ih _ _ _ _ _ _ _ _ _ hq hle hr
            · rw [if_neg hl] at hr
              cases hr
theorem le_n : am_le [] [] := ⟨rfl, fun i v h => by simp at h⟩
theorem le_k {a : Option am_V} {lv lw : am_Lv} (h : am_le lv lw) : am_le (a :: lv) (a :: lw) := ⟨by simp [h.1], fun i v hv => by
  cases i with
  | zero => exact hv
  | succ i => exact h.2 i v (by simpa using hv)⟩
theorem le_d {a : Option am_V} {lv lw : am_Lv} (h : am_le lv lw) : am_le (none :: lv) (a :: lw) := ⟨by simp [h.1], fun i v hv => by
  cases i with
  | zero => simp at hv
  | succ i => exact h.2 i v (by simpa using hv)⟩
/-- the script's numbers are ints -/
def am_sc (scr : Nat × (Nat → Int)) : Prop := scr.1 ≤ 3072 ∧ ∀ i, am_w (scr.2 i) = scr.2 i
section RUL
variable {scr : Nat × (Nat → Int)} {d f pc : Nat} {lv : am_Lv} {r : am_St} {h : am_H} {Q : Option am_V → am_H → Prop}
theorem r_le {lw : am_Lv} {q : MethodName × ByteArray × Nat × Option FieldType} (hs : am_sc scr) (hq : am_inf f = some q) (hle : am_le lv lw) (k : am_R (am_prog scr) d f pc lv r h Q) : am_R (am_prog scr) d f pc lw r h Q := by
  obtain ⟨n, v, t, e, hQ⟩ := k
  exact ⟨n, v, t, am_run_more (am_okP hs) _ _ _ _ _ _ _ _ _ _ hq hle e, hQ⟩
variable {P : am_P}
theorem r_i2z {g : Int → Int → Int} {nx : Nat} {a b : Int} (hc : P.1 f pc = .inl (o_i2z g nx)) (hb : b ≠ 0) (k : am_R P d f nx lv (.inl (g a b) :: r) h Q) : am_R P d f pc lv (.inl b :: .inl a :: r) h Q := am_R.next hc (by unfold o_i2z; simp only; rw [if_neg hb]) k
theorem r_l2z {g : Int → Int → Int} {nx : Nat} {a b : Int} (hc : P.1 f pc = .inl (o_l2z g nx)) (hb : b ≠ 0) (k : am_R P d f nx lv (.inr (.inl (g a b)) :: r) h Q) : am_R P d f pc lv (.inr (.inl b) :: .inr (.inl a) :: r) h Q := am_R.next hc (by unfold o_l2z; simp only; rw [if_neg hb]) k
theorem r_if {p : Int → Prop} {dp : DecidablePred p} {tgt nx : Nat} {x : Int} (hc : P.1 f pc = .inl (o_if (fun x => @decide (p x) (dp x)) tgt nx)) (kt : p x → am_R P d f tgt lv r h Q) (kf : ¬ p x → am_R P d f nx lv r h Q) : am_R P d f pc lv (.inl x :: r) h Q := by
  by_cases q : p x
  · exact am_R.next hc (by unfold o_if; simp only; rw [if_pos (decide_eq_true q)]) (kt q)
  · exact am_R.next hc (by unfold o_if; simp only; rw [if_neg (by simpa using q)]) (kf q)
theorem r_ic {p : Int → Int → Prop} {dp : ∀ a b, Decidable (p a b)} {tgt nx : Nat} {x y : Int} (hc : P.1 f pc = .inl (o_ic (fun x y => @decide (p x y) (dp x y)) tgt nx)) (kt : p x y → am_R P d f tgt lv r h Q) (kf : ¬ p x y → am_R P d f nx lv r h Q) : am_R P d f pc lv (.inl y :: .inl x :: r) h Q := by
  by_cases q : p x y
  · exact am_R.next hc (by unfold o_ic; simp only; rw [if_pos (decide_eq_true q)]) (kt q)
  · exact am_R.next hc (by unfold o_ic; simp only; rw [if_neg (by simpa using q)]) (kf q)
theorem r_ifnn {tgt nx : Nat} {x : Int} (hc : P.1 f pc = .inl (o_ifnn tgt nx)) (hx : -1 ≤ x) (kt : ¬ x = -1 → am_R P d f tgt lv r h Q) (kf : x = -1 → am_R P d f nx lv r h Q) : am_R P d f pc lv (.inr (.inr x) :: r) h Q := by
  by_cases q : x = -1
  · exact am_R.next hc (by unfold o_ifnn; simp only; rw [if_pos q]) (kf q)
  · exact am_R.next hc (by unfold o_ifnn; simp only; rw [if_neg q, if_pos (by omega)]) (kt q)
theorem r_getI {c k nx : Nat} {a : Int} (hc : P.1 f pc = .inl (o_getI c k nx)) (ho : am_isO h a c) (kk : am_R P d f nx lv (.inl (h.2.2.2 a.toNat k) :: r) h Q) : am_R P d f pc lv (.inr (.inr a) :: r) h Q := am_R.next hc (by unfold o_getI; simp only; rw [if_pos ho]) kk
theorem r_getL {c k nx : Nat} {a : Int} (hc : P.1 f pc = .inl (o_getL c k nx)) (ho : am_isO h a c) (kk : am_R P d f nx lv (.inr (.inl (h.2.2.2 a.toNat k)) :: r) h Q) : am_R P d f pc lv (.inr (.inr a) :: r) h Q := am_R.next hc (by unfold o_getL; simp only; rw [if_pos ho]) kk
theorem r_getR {c k nx : Nat} {a v : Int} (hc : P.1 f pc = .inl (o_getR c k nx)) (ho : am_isO h a c) (hv : h.2.2.2 a.toNat k = v) (kk : am_R P d f nx lv (.inr (.inr v) :: r) h Q) : am_R P d f pc lv (.inr (.inr a) :: r) h Q := am_R.next hc (by unfold o_getR; simp only; rw [if_pos ho, hv]) kk
theorem r_putI {c k nx : Nat} {a x : Int} (hc : P.1 f pc = .inl (o_putI c k nx)) (ho : am_isO h a c) (kk : am_R P d f nx lv r (am_put h a.toNat k x) Q) : am_R P d f pc lv (.inl x :: .inr (.inr a) :: r) h Q := am_R.next hc (by unfold o_putI; simp only; rw [if_pos ho]) kk
theorem r_putZ {c k nx : Nat} {a x : Int} (hc : P.1 f pc = .inl (o_putZ c k nx)) (ho : am_isO h a c) (hx : x = 0 ∨ x = 1) (kk : am_R P d f nx lv r (am_put h a.toNat k x) Q) : am_R P d f pc lv (.inl x :: .inr (.inr a) :: r) h Q := am_R.next hc (by unfold o_putZ; simp only; rw [if_pos ⟨ho, hx⟩]) kk
theorem r_putL {c k nx : Nat} {a x : Int} (hc : P.1 f pc = .inl (o_putL c k nx)) (ho : am_isO h a c) (kk : am_R P d f nx lv r (am_put h a.toNat k x) Q) : am_R P d f pc lv (.inr (.inl x) :: .inr (.inr a) :: r) h Q := am_R.next hc (by unfold o_putL; simp only; rw [if_pos ho]) kk
theorem r_putR {c k nx : Nat} {a x : Int} (hc : P.1 f pc = .inl (o_putR c k nx)) (ho : am_isO h a c) (hx : -1 ≤ x) (kk : am_R P d f nx lv r (am_put h a.toNat k x) Q) : am_R P d f pc lv (.inr (.inr x) :: .inr (.inr a) :: r) h Q := am_R.next hc (by unfold o_putR; simp only; rw [if_pos ⟨ho, hx⟩]) kk
theorem r_iald {nx : Nat} {a i : Int} (hc : P.1 f pc = .inl (o_iald nx)) (ho : am_inA h a 1 i) (kk : am_R P d f nx lv (.inl (h.2.2.2 a.toNat i.toNat) :: r) h Q) : am_R P d f pc lv (.inl i :: .inr (.inr a) :: r) h Q := am_R.next hc (by unfold o_iald; simp only; rw [if_pos ho]) kk
theorem r_lald {nx : Nat} {a i : Int} (hc : P.1 f pc = .inl (o_lald nx)) (ho : am_inA h a 2 i) (kk : am_R P d f nx lv (.inr (.inl (h.2.2.2 a.toNat i.toNat)) :: r) h Q) : am_R P d f pc lv (.inl i :: .inr (.inr a) :: r) h Q := am_R.next hc (by unfold o_lald; simp only; rw [if_pos ho]) kk
theorem r_bald {nx : Nat} {a i : Int} (hc : P.1 f pc = .inl (o_bald nx)) (ho : am_inA h a 3 i) (kk : am_R P d f nx lv (.inl (h.2.2.2 a.toNat i.toNat) :: r) h Q) : am_R P d f pc lv (.inl i :: .inr (.inr a) :: r) h Q := am_R.next hc (by unfold o_bald; simp only; rw [if_pos ho]) kk
theorem r_zald {nx : Nat} {a i : Int} (hc : P.1 f pc = .inl (o_zald nx)) (ho : am_inA h a 4 i) (kk : am_R P d f nx lv (.inl (h.2.2.2 a.toNat i.toNat) :: r) h Q) : am_R P d f pc lv (.inl i :: .inr (.inr a) :: r) h Q := am_R.next hc (by unfold o_zald; simp only; rw [if_pos ho]) kk
theorem r_aald {t nx : Nat} {a i v : Int} (hc : P.1 f pc = .inl (o_aald t nx)) (ho : am_inA h a t i) (hv : h.2.2.2 a.toNat i.toNat = v) (kk : am_R P d f nx lv (.inr (.inr v) :: r) h Q) : am_R P d f pc lv (.inl i :: .inr (.inr a) :: r) h Q := am_R.next hc (by unfold o_aald; simp only; rw [if_pos ho]; show some (nx, lv, .inr (.inr (h.2.2.2 a.toNat i.toNat)) :: r, h) = _; rw [hv]) kk
theorem r_iast {nx : Nat} {a i x : Int} (hc : P.1 f pc = .inl (o_iast nx)) (ho : am_inA h a 1 i) (kk : am_R P d f nx lv r (am_put h a.toNat i.toNat x) Q) : am_R P d f pc lv (.inl x :: .inl i :: .inr (.inr a) :: r) h Q := am_R.next hc (by unfold o_iast; simp only; rw [if_pos ho]) kk
theorem r_last {nx : Nat} {a i x : Int} (hc : P.1 f pc = .inl (o_last nx)) (ho : am_inA h a 2 i) (kk : am_R P d f nx lv r (am_put h a.toNat i.toNat x) Q) : am_R P d f pc lv (.inr (.inl x) :: .inl i :: .inr (.inr a) :: r) h Q := am_R.next hc (by unfold o_last; simp only; rw [if_pos ho]) kk
theorem r_bast {nx : Nat} {a i x : Int} (hc : P.1 f pc = .inl (o_bast nx)) (ho : am_inA h a 3 i) (kk : am_R P d f nx lv r (am_put h a.toNat i.toNat (Int.bmod x 256)) Q) : am_R P d f pc lv (.inl x :: .inl i :: .inr (.inr a) :: r) h Q := am_R.next hc (by unfold o_bast; simp only; rw [if_pos ho]) kk
theorem r_zast {nx : Nat} {a i x : Int} (hc : P.1 f pc = .inl (o_zast nx)) (ho : am_inA h a 4 i) (hx : x = 0 ∨ x = 1) (kk : am_R P d f nx lv r (am_put h a.toNat i.toNat x) Q) : am_R P d f pc lv (.inl x :: .inl i :: .inr (.inr a) :: r) h Q := am_R.next hc (by unfold o_zast; simp only; rw [if_pos ⟨ho, hx⟩]) kk
theorem r_aast {t c nx : Nat} {a i x : Int} (hc : P.1 f pc = .inl (o_aast t c nx)) (ho : am_inA h a t i) (hx : am_isO h x c) (kk : am_R P d f nx lv r (am_put h a.toNat i.toNat x) Q) : am_R P d f pc lv (.inr (.inr x) :: .inl i :: .inr (.inr a) :: r) h Q := am_R.next hc (by unfold o_aast; simp only; rw [if_pos ⟨ho, hx⟩]) kk
theorem r_alen {nx n : Nat} {a : Int} (hc : P.1 f pc = .inl (o_alen nx)) (ha : 0 ≤ a ∧ 1 ≤ (h.2.2.1 a.toNat).1 ∧ (h.2.2.1 a.toNat).1 ≤ 6 ∧ (h.2.2.1 a.toNat).2 ≤ 1000000) (hn : (h.2.2.1 a.toNat).2 = n) (kk : am_R P d f nx lv (.inl (n : Int) :: r) h Q) : am_R P d f pc lv (.inr (.inr a) :: r) h Q := am_R.next hc (by unfold o_alen; simp only; rw [if_pos ha, hn]) kk
theorem r_zret {x : Int} (hc : P.1 f pc = .inr (.inl o_zret)) (hx : x = 0 ∨ x = 1) (q : Q (some (.inl x)) h) : am_R P d f pc lv [.inl x] h Q := am_R.ret hc (by unfold o_zret; simp only; rw [if_pos hx]) q
theorem r_cret {x : Int} (hc : P.1 f pc = .inr (.inl o_cret)) (hx : 0 ≤ x ∧ x < 128) (q : Q (some (.inl x)) h) : am_R P d f pc lv [.inl x] h Q := am_R.ret hc (by unfold o_cret; simp only; rw [if_pos hx]) q
theorem r_aret {x : Int} (hc : P.1 f pc = .inr (.inl o_aret)) (hx : -1 ≤ x) (q : Q (some (.inr (.inr x))) h) : am_R P d f pc lv [.inr (.inr x)] h Q := am_R.ret hc (by unfold o_aret; simp only; rw [if_pos hx]) q
/-- a call, with what is on the stack said -/
theorem r_cs {g n nx : Nat} {as : List am_V} {st' st : am_St} (hc : P.1 f pc = .inr (.inr (g, o_cs n, nx))) (hst : st = as.reverse ++ st') (hn : as.length = n) (hcat : (st'.map am_cat).sum ≤ 8) (hl : (am_sl as).length ≤ P.2 g) (k : am_R P d g 0 (am_entry (P.2 g) as) [] h (fun v h1 => am_R P (d + 1) f nx lv (v.toList ++ st') h1 Q)) : am_R P (d + 1) f pc lv st h Q := by
  refine am_R.call hc (as := as) (st' := st') ?_ hl k
  subst hst; subst hn
  unfold o_cs
  have e1 : (as.reverse ++ st').take as.length = as.reverse := by rw [List.take_append_of_le_length (by simp)]; exact List.take_of_length_le (by simp)
  have e2 : (as.reverse ++ st').drop as.length = st' := by rw [List.drop_append_of_le_length (by simp)]; simp
  rw [e1, e2, if_pos ⟨by simp, hcat⟩, List.reverse_reverse]
theorem r_cv {g n nx c : Nat} {a : Int} {bs : List am_V} {st' st : am_St} (hc : P.1 f pc = .inr (.inr (g, o_cv c n, nx))) (ho : am_isO h a c) (hst : st = bs.reverse ++ .inr (.inr a) :: st') (hn : bs.length = n) (hcat : (st'.map am_cat).sum ≤ 8) (hl : (am_sl (.inr (.inr a) :: bs)).length ≤ P.2 g) (k : am_R P d g 0 (am_entry (P.2 g) (.inr (.inr a) :: bs)) [] h (fun v h1 => am_R P (d + 1) f nx lv (v.toList ++ st') h1 Q)) : am_R P (d + 1) f pc lv st h Q := by
  refine am_R.call hc (as := .inr (.inr a) :: bs) (st' := st') ?_ hl k
  subst hst; subst hn
  unfold o_cv
  have e0 : bs.reverse ++ .inr (.inr a) :: st' = (.inr (.inr a) :: bs).reverse ++ st' := by simp
  have e1 : (bs.reverse ++ .inr (.inr a) :: st').take (bs.length + 1) = (.inr (.inr a) :: bs).reverse := by rw [e0, List.take_append_of_le_length (by simp)]; exact List.take_of_length_le (by simp)
  have e2 : (bs.reverse ++ .inr (.inr a) :: st').drop (bs.length + 1) = st' := by rw [e0, List.drop_append_of_le_length (by simp)]; simp
  rw [e1, e2, List.reverse_reverse]
  simp only
  rw [if_pos ⟨ho, trivial, hcat⟩]
end RUL
