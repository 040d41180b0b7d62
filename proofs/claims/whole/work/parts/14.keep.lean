/-! the operations keep the numbers' bounds, and do the same where more of the locals is known -/
theorem am_le_get {lv lw : am_Lv} {i : Nat} {v : am_V} (h : am_le lv lw) (hv : lv[i]? = some (some v)) : lw[i]? = some (some v) := h.2 i v hv
theorem am_le_cl {lv lw : am_Lv} (h : am_le lv lw) (i : Nat) : am_le (am_cl lv i) (am_cl lw i) := by
  refine ⟨by rw [am_cl_len, am_cl_len]; exact h.1, fun j u hj => ?_⟩
  obtain ⟨k1, k2⟩ := am_cl_keep hj
  have h1 := h.2 j u k1
  unfold am_cl
  cases i with
  | zero => exact h1
  | succ k =>
    simp only
    split
    · rename_i x hx
      rw [List.getElem?_set]
      by_cases e : k = j
      · subst e
        rw [hx] at h1
        cases h1
        exact absurd ⟨rfl, rfl⟩ k2
      · rw [if_neg e]; exact h1
    · exact h1
theorem am_le_set {lv lw : am_Lv} (h : am_le lv lw) (i : Nat) (v : Option am_V) : am_le (lv.set i v) (lw.set i v) := by
  refine ⟨by simp [h.1], fun j u hj => ?_⟩
  rw [List.getElem?_set] at hj ⊢
  by_cases e : i = j
  · rw [if_pos e] at hj ⊢
    rw [← h.1]
    exact hj
  · rw [if_neg e] at hj ⊢
    exact h.2 j u hj
theorem am_le_sto {lv lw : am_Lv} (h : am_le lv lw) (i : Nat) (v : am_V) : am_le (am_sto lv i v) (am_sto lw i v) := am_le_set (am_le_cl h i) i _
theorem am_le_stoL {lv lw : am_Lv} (h : am_le lv lw) (i : Nat) (v : am_V) : am_le (am_stoL lv i v) (am_stoL lw i v) := am_le_set (am_le_set (am_le_cl h i) i _) (i + 1) _
def am_lr (lv : am_Lv) : Prop := ∀ (i : Nat) (v : am_V), lv[i]? = some (some v) → am_vr v
theorem am_lr_set {lv : am_Lv} (h : am_lr lv) (i : Nat) {v : am_V} (hv : am_vr v) : am_lr (lv.set i (some v)) := by
  intro j u hj
  rw [List.getElem?_set] at hj
  by_cases e : i = j
  · rw [if_pos e] at hj
    split at hj
    · cases hj; exact hv
    · cases hj
  · rw [if_neg e] at hj
    exact h j u hj
theorem am_lr_setN {lv : am_Lv} (h : am_lr lv) (i : Nat) : am_lr (lv.set i none) := by
  intro j u hj
  rw [List.getElem?_set] at hj
  by_cases e : i = j
  · rw [if_pos e] at hj
    split at hj <;> cases hj
  · rw [if_neg e] at hj
    exact h j u hj
theorem am_lr_cl {lv : am_Lv} (h : am_lr lv) (i : Nat) : am_lr (am_cl lv i) := fun j u hj => h j u (am_cl_keep hj).1
theorem am_lr_sto {lv : am_Lv} (h : am_lr lv) (i : Nat) {v : am_V} (hv : am_vr v) : am_lr (am_sto lv i v) := am_lr_set (am_lr_cl h i) i hv
theorem am_lr_stoL {lv : am_Lv} (h : am_lr lv) (i : Nat) {v : am_V} (hv : am_vr v) : am_lr (am_stoL lv i v) := am_lr_setN (am_lr_set (am_lr_cl h i) i hv) _
theorem am_ok.cons {lv : am_Lv} {st st0 : am_St} {h : am_H} {v : am_V} (ok : am_ok lv st0 h) (hv : am_vr v) (hs : ∀ u, u ∈ st → u ∈ st0) : am_ok lv (v :: st) h :=
  ⟨fun u hu => (List.mem_cons.mp hu).elim (fun e => e ▸ hv) (fun q => ok.1 u (hs u q)), ok.2⟩
theorem am_ok.sub {lv : am_Lv} {st st0 : am_St} {h : am_H} (ok : am_ok lv st0 h) (hs : ∀ u, u ∈ st → u ∈ st0) : am_ok lv st h := ⟨fun u hu => ok.1 u (hs u hu), ok.2⟩
theorem am_hr_put {h : am_H} {a i : Nat} {x : Int} (hr : am_hr h) (hx : am_xr (h.2.2.1 a).1 i x) : am_hr (am_put h a i x) := by
  intro b j hj
  show am_xr (h.2.2.1 b).1 j (if b = a ∧ j = i then x else h.2.2.2 b j)
  by_cases e : b = a ∧ j = i
  · rw [if_pos e, e.1, e.2]; exact hx
  · rw [if_neg e]; exact hr b j hj
theorem am_ok.put {lv : am_Lv} {st : am_St} {h : am_H} {a i : Nat} {x : Int} (ok : am_ok lv st h) (hx : am_xr (h.2.2.1 a).1 i x) : am_ok lv st (am_put h a i x) := ⟨ok.1, ok.2.1, am_hr_put ok.2.2.1 hx, ok.2.2.2⟩
theorem am_ok.mk {lv : am_Lv} {st : am_St} {h : am_H} {kd n : Nat} {z : Nat → Int} (ok : am_ok lv st h) (hz : ∀ i, i < n → am_xr kd i (z i)) (hk : 10 ≤ kd → ∃ q : vw_C, am_cl_[kd - 10]? = some q ∧ q.2.2 = n) : am_ok lv st (am_mk h kd n z) := by
  refine ⟨ok.1, ok.2.1, fun b j hj => ?_, fun b hb => ?_⟩
  · unfold am_mk at hj ⊢
    simp only at hj ⊢
    by_cases e : b = h.1
    · simp only [if_pos e] at hj ⊢; exact hz j hj
    · simp only [if_neg e] at hj ⊢; exact ok.2.2.1 b j hj
  · unfold am_mk at hb ⊢
    simp only at hb ⊢
    by_cases e : b = h.1
    · simp only [if_pos e] at hb ⊢; exact ⟨by omega, hk⟩
    · simp only [if_neg e] at hb ⊢
      have := ok.2.2.2 b hb
      exact ⟨by omega, this.2⟩
theorem am_kd0 {h : am_H} {a : Nat} (hk : am_kd h) (ha : ¬ a < h.1) : (h.2.2.1 a).1 = 0 := by
  rcases Nat.eq_zero_or_pos (h.2.2.1 a).1 with z | z
  · exact z
  · exact absurd (hk a (by omega)).1 ha
def am_E0 : am_E := ((fun _ => 0, fun _ _ => 0), fun _ => 0, 0, #[], fun _ => none, (0, fun _ => 0))
theorem am_getD_in {α : Type} {l : List α} {i : Nat} {d : α} (h : i < l.length) : l.getD i d ∈ l := by
  rw [List.getD_eq_getElem?_getD, List.getElem?_eq_getElem h]
  exact List.getElem_mem h
theorem am_rd_rg {h : am_H} {a i : Int} {t : Nat} (hr : am_hr h) (ho : am_inA h a t i) : am_xr t i.toNat (am_rd h a i) := by
  have h1 := hr a.toNat i.toNat (by have := ho.2.2; omega)
  rw [ho.2.1] at h1
  exact h1
theorem am_cmp_rg (a b : Int) : am_w (if a < b then -1 else if a = b then 0 else 1) = (if a < b then -1 else if a = b then 0 else 1) := by
  by_cases h1 : a < b
  · simp only [if_pos h1]; decide +kernel
  · by_cases h2 : a = b
    · simp only [if_neg h1, if_pos h2]; decide +kernel
    · simp only [if_neg h1, if_neg h2]; decide +kernel
theorem am_xr0 {t i : Nat} (ht : 1 ≤ t ∧ t ≤ 4) : am_xr t i 0 := by
  unfold am_xr
  rw [if_neg (by omega)]
  by_cases h : t = 2
  · rw [if_pos h]; decide +kernel
  · rw [if_neg h, if_neg (by omega)]; decide +kernel
theorem am_bits (x : Int32) : am_w x.toInt = x.toInt := am_wr x
theorem pv_push {v : am_V} {nx : Nat} (hv : am_vr v) : am_Pv (o_push v nx) := by
  intro lv st h pc' lv' st' h' hF
  cases hF
  exact ⟨fun ok => ⟨ok.cons hv (fun _ q => q), Nat.le_refl _, Nat.le_refl _⟩, fun lw hle => ⟨lw, rfl, hle⟩⟩
theorem pv_iload {i nx : Nat} : am_Pv (o_iload i nx) := by
  intro lv st h pc' lv' st' h' hF
  unfold o_iload at hF
  split at hF
  · rename_i x hx
    cases hF
    refine ⟨fun ok => ⟨ok.cons (ok.2.1 _ _ hx) (fun _ q => q), Nat.le_refl _, Nat.le_refl _⟩, fun lw hle => ⟨lw, ?_, hle⟩⟩
    unfold o_iload
    rw [hle.2 _ _ hx]
  · cases hF
theorem pv_lload {i nx : Nat} : am_Pv (o_lload i nx) := by
  intro lv st h pc' lv' st' h' hF
  unfold o_lload at hF
  split at hF
  · rename_i x hx
    cases hF
    refine ⟨fun ok => ⟨ok.cons (ok.2.1 _ _ hx) (fun _ q => q), Nat.le_refl _, Nat.le_refl _⟩, fun lw hle => ⟨lw, ?_, hle⟩⟩
    unfold o_lload
    rw [hle.2 _ _ hx]
  · cases hF
theorem pv_aload {i nx : Nat} : am_Pv (o_aload i nx) := by
  intro lv st h pc' lv' st' h' hF
  unfold o_aload at hF
  split at hF
  · rename_i x hx
    cases hF
    refine ⟨fun ok => ⟨ok.cons (ok.2.1 _ _ hx) (fun _ q => q), Nat.le_refl _, Nat.le_refl _⟩, fun lw hle => ⟨lw, ?_, hle⟩⟩
    unfold o_aload
    rw [hle.2 _ _ hx]
  · cases hF
theorem pv_istore {i nx : Nat} : am_Pv (o_istore i nx) := by
  intro lv st h pc' lv' st' h' hF
  unfold o_istore at hF
  split at hF
  · rename_i x r
    split at hF
    · rename_i hl
      cases hF
      refine ⟨fun ok => ⟨⟨fun u hu => ok.1 u (by simp [hu]), am_lr_sto ok.2.1 i (ok.1 _ (by simp)), ok.2.2⟩, Nat.le_refl _, Nat.le_refl _⟩, fun lw hle => ⟨_, ?_, am_le_sto hle i _⟩⟩
      unfold o_istore
      simp only
      rw [if_pos (by rw [← hle.1]; exact hl)]
    · cases hF
  · cases hF
theorem pv_astore {i nx : Nat} : am_Pv (o_astore i nx) := by
  intro lv st h pc' lv' st' h' hF
  unfold o_astore at hF
  split at hF
  · rename_i x r
    split at hF
    · rename_i hl
      cases hF
      refine ⟨fun ok => ⟨⟨fun u hu => ok.1 u (by simp [hu]), am_lr_sto ok.2.1 i (ok.1 _ (by simp)), ok.2.2⟩, Nat.le_refl _, Nat.le_refl _⟩, fun lw hle => ⟨_, ?_, am_le_sto hle i _⟩⟩
      unfold o_astore
      simp only
      rw [if_pos (by rw [← hle.1]; exact hl)]
    · cases hF
  · cases hF
theorem pv_lstore {i nx : Nat} : am_Pv (o_lstore i nx) := by
  intro lv st h pc' lv' st' h' hF
  unfold o_lstore at hF
  split at hF
  · rename_i x r
    split at hF
    · rename_i hl
      cases hF
      refine ⟨fun ok => ⟨⟨fun u hu => ok.1 u (by simp [hu]), am_lr_stoL ok.2.1 i (ok.1 _ (by simp)), ok.2.2⟩, Nat.le_refl _, Nat.le_refl _⟩, fun lw hle => ⟨_, ?_, am_le_stoL hle i _⟩⟩
      unfold o_lstore
      simp only
      rw [if_pos (by rw [← hle.1]; exact hl)]
    · cases hF
  · cases hF
theorem pv_iinc {i : Nat} {n : Int} {nx : Nat} : am_Pv (o_iinc i n nx) := by
  intro lv st h pc' lv' st' h' hF
  unfold o_iinc at hF
  split at hF
  · rename_i x hx
    cases hF
    refine ⟨fun ok => ⟨⟨ok.1, am_lr_sto ok.2.1 i (am_w_w _), ok.2.2⟩, Nat.le_refl _, Nat.le_refl _⟩, fun lw hle => ⟨_, ?_, am_le_sto hle i _⟩⟩
    unfold o_iinc
    rw [hle.2 _ _ hx]
  · cases hF
theorem pv_i2 {f : Int → Int → Int} {nx : Nat} (hf : ∀ a b, am_w a = a → am_w b = b → am_w (f a b) = f a b) : am_Pv (o_i2 f nx) := by
  intro lv st h pc' lv' st' h' hF
  unfold o_i2 at hF
  split at hF
  · cases hF
    exact ⟨fun ok => ⟨ok.cons (hf _ _ (am_ok2 ok).1 (am_ok2 ok).2) (fun u hu => by simp [hu]), Nat.le_refl _, Nat.le_refl _⟩, fun lw hle => ⟨lw, rfl, hle⟩⟩
  · cases hF
theorem pv_l2 {f : Int → Int → Int} {nx : Nat} (hf : ∀ a b, am_W a = a → am_W b = b → am_W (f a b) = f a b) : am_Pv (o_l2 f nx) := by
  intro lv st h pc' lv' st' h' hF
  unfold o_l2 at hF
  split at hF
  · cases hF
    exact ⟨fun ok => ⟨ok.cons (hf _ _ (am_ok2 ok).1 (am_ok2 ok).2) (fun u hu => by simp [hu]), Nat.le_refl _, Nat.le_refl _⟩, fun lw hle => ⟨lw, rfl, hle⟩⟩
  · cases hF
theorem pv_i2z {f : Int → Int → Int} {nx : Nat} (hf : ∀ a b, am_w a = a → am_w b = b → am_w (f a b) = f a b) : am_Pv (o_i2z f nx) := by
  intro lv st h pc' lv' st' h' hF
  unfold o_i2z at hF
  split at hF
  · split at hF
    · cases hF
    · rename_i hz
      cases hF
      refine ⟨fun ok => ⟨ok.cons (hf _ _ (am_ok2 ok).1 (am_ok2 ok).2) (fun u hu => by simp [hu]), Nat.le_refl _, Nat.le_refl _⟩, fun lw hle => ⟨lw, ?_, hle⟩⟩
      unfold o_i2z
      simp only
      rw [if_neg hz]
  · cases hF
theorem pv_l2z {f : Int → Int → Int} {nx : Nat} (hf : ∀ a b, am_W a = a → am_W b = b → am_W (f a b) = f a b) : am_Pv (o_l2z f nx) := by
  intro lv st h pc' lv' st' h' hF
  unfold o_l2z at hF
  split at hF
  · split at hF
    · cases hF
    · rename_i hz
      cases hF
      refine ⟨fun ok => ⟨ok.cons (hf _ _ (am_ok2 ok).1 (am_ok2 ok).2) (fun u hu => by simp [hu]), Nat.le_refl _, Nat.le_refl _⟩, fun lw hle => ⟨lw, ?_, hle⟩⟩
      unfold o_l2z
      simp only
      rw [if_neg hz]
  · cases hF
theorem pv_i1 {f : Int → Int} {nx : Nat} (hf : ∀ a, am_w a = a → am_w (f a) = f a) : am_Pv (o_i1 f nx) := by
  intro lv st h pc' lv' st' h' hF
  unfold o_i1 at hF
  split at hF
  · cases hF
    exact ⟨fun ok => ⟨ok.cons (hf _ (am_ok1 ok)) (fun u hu => by simp [hu]), Nat.le_refl _, Nat.le_refl _⟩, fun lw hle => ⟨lw, rfl, hle⟩⟩
  · cases hF
theorem pv_lsh {f : Int → Int → Int} {nx : Nat} (hf : ∀ a b, am_W (f a b) = f a b) : am_Pv (o_lsh f nx) := by
  intro lv st h pc' lv' st' h' hF
  unfold o_lsh at hF
  split at hF
  · cases hF
    exact ⟨fun ok => ⟨ok.cons (hf _ _) (fun u hu => by simp [hu]), Nat.le_refl _, Nat.le_refl _⟩, fun lw hle => ⟨lw, rfl, hle⟩⟩
  · cases hF
theorem pv_lcmp {nx : Nat} : am_Pv (o_lcmp nx) := by
  intro lv st h pc' lv' st' h' hF
  unfold o_lcmp at hF
  split at hF
  · cases hF
    exact ⟨fun ok => ⟨ok.cons (am_cmp_rg _ _) (fun u hu => by simp [hu]), Nat.le_refl _, Nat.le_refl _⟩, fun lw hle => ⟨lw, rfl, hle⟩⟩
  · cases hF
theorem pv_i2l {nx : Nat} : am_Pv (o_i2l nx) := by
  intro lv st h pc' lv' st' h' hF
  unfold o_i2l at hF
  split at hF
  · cases hF
    exact ⟨fun ok => ⟨ok.cons (by have h1 := am_w_rg (am_ok1 ok); exact am_W_id (by omega) (by omega)) (fun u hu => by simp [hu]), Nat.le_refl _, Nat.le_refl _⟩, fun lw hle => ⟨lw, rfl, hle⟩⟩
  · cases hF
theorem pv_l2i {nx : Nat} : am_Pv (o_l2i nx) := by
  intro lv st h pc' lv' st' h' hF
  unfold o_l2i at hF
  split at hF
  · cases hF
    exact ⟨fun ok => ⟨ok.cons (am_w_w _) (fun u hu => by simp [hu]), Nat.le_refl _, Nat.le_refl _⟩, fun lw hle => ⟨lw, rfl, hle⟩⟩
  · cases hF
theorem pv_dup {nx : Nat} : am_Pv (o_dup nx) := by
  intro lv st h pc' lv' st' h' hF
  unfold o_dup at hF
  split at hF
  · cases hF
    exact ⟨fun ok => ⟨ok.cons (am_ok1 ok) (fun _ q => q), Nat.le_refl _, Nat.le_refl _⟩, fun lw hle => ⟨lw, rfl, hle⟩⟩
  · cases hF
    exact ⟨fun ok => ⟨ok.cons (am_ok1 ok) (fun _ q => q), Nat.le_refl _, Nat.le_refl _⟩, fun lw hle => ⟨lw, rfl, hle⟩⟩
  · cases hF
theorem pv_dup2 {nx : Nat} : am_Pv (o_dup2 nx) := by
  intro lv st h pc' lv' st' h' hF
  unfold o_dup2 at hF
  split at hF
  · cases hF
    exact ⟨fun ok => ⟨ok.cons (am_ok1 ok) (fun _ q => q), Nat.le_refl _, Nat.le_refl _⟩, fun lw hle => ⟨lw, rfl, hle⟩⟩
  · cases hF
    exact ⟨fun ok => ⟨(ok.cons (am_ok2 ok).1 (fun _ q => q)).cons (am_ok2 ok).2 (fun _ q => q), Nat.le_refl _, Nat.le_refl _⟩, fun lw hle => ⟨lw, rfl, hle⟩⟩
  · cases hF
theorem pv_pop {nx : Nat} : am_Pv (o_pop nx) := by
  intro lv st h pc' lv' st' h' hF
  unfold o_pop at hF
  split at hF
  · cases hF
    exact ⟨fun ok => ⟨ok.sub (fun u hu => by simp [hu]), Nat.le_refl _, Nat.le_refl _⟩, fun lw hle => ⟨lw, rfl, hle⟩⟩
  · cases hF
    exact ⟨fun ok => ⟨ok.sub (fun u hu => by simp [hu]), Nat.le_refl _, Nat.le_refl _⟩, fun lw hle => ⟨lw, rfl, hle⟩⟩
  · cases hF
theorem pv_pop2 {nx : Nat} : am_Pv (o_pop2 nx) := by
  intro lv st h pc' lv' st' h' hF
  unfold o_pop2 at hF
  split at hF
  · cases hF
    exact ⟨fun ok => ⟨ok.sub (fun u hu => by simp [hu]), Nat.le_refl _, Nat.le_refl _⟩, fun lw hle => ⟨lw, rfl, hle⟩⟩
  · cases hF
theorem pv_if {c : Int → Bool} {tgt nx : Nat} : am_Pv (o_if c tgt nx) := by
  intro lv st h pc' lv' st' h' hF
  unfold o_if at hF
  split at hF
  · cases hF
    exact ⟨fun ok => ⟨ok.sub (fun u hu => by simp [hu]), Nat.le_refl _, Nat.le_refl _⟩, fun lw hle => ⟨lw, rfl, hle⟩⟩
  · cases hF
theorem pv_ic {c : Int → Int → Bool} {tgt nx : Nat} : am_Pv (o_ic c tgt nx) := by
  intro lv st h pc' lv' st' h' hF
  unfold o_ic at hF
  split at hF
  · cases hF
    exact ⟨fun ok => ⟨ok.sub (fun u hu => by simp [hu]), Nat.le_refl _, Nat.le_refl _⟩, fun lw hle => ⟨lw, rfl, hle⟩⟩
  · cases hF
theorem pv_tsw {f : Int → Nat} : am_Pv (o_tsw f) := by
  intro lv st h pc' lv' st' h' hF
  unfold o_tsw at hF
  split at hF
  · cases hF
    exact ⟨fun ok => ⟨ok.sub (fun u hu => by simp [hu]), Nat.le_refl _, Nat.le_refl _⟩, fun lw hle => ⟨lw, rfl, hle⟩⟩
  · cases hF
theorem pv_ifnn {tgt nx : Nat} : am_Pv (o_ifnn tgt nx) := by
  intro lv st h pc' lv' st' h' hF
  unfold o_ifnn at hF
  split at hF
  · split at hF
    · rename_i hx
      cases hF
      refine ⟨fun ok => ⟨ok.sub (fun u hu => by simp [hu]), Nat.le_refl _, Nat.le_refl _⟩, fun lw hle => ⟨lw, ?_, hle⟩⟩
      unfold o_ifnn
      simp only
      rw [if_pos hx]
    · rename_i hx
      split at hF
      · rename_i hy
        cases hF
        refine ⟨fun ok => ⟨ok.sub (fun u hu => by simp [hu]), Nat.le_refl _, Nat.le_refl _⟩, fun lw hle => ⟨lw, ?_, hle⟩⟩
        unfold o_ifnn
        simp only
        rw [if_neg hx, if_pos hy]
      · cases hF
  · cases hF
theorem pv_goto {tgt : Nat} : am_Pv (o_goto tgt) := by
  intro lv st h pc' lv' st' h' hF
  cases hF
  exact ⟨fun ok => ⟨ok, Nat.le_refl _, Nat.le_refl _⟩, fun lw hle => ⟨lw, rfl, hle⟩⟩
theorem pv_getI {C : String} {T : u_T} {N : Nat} {ty : Nat → FieldType} {c k nx : Nat} (hC : am_Cl c C T N ty) (hk : k < N) (hf : am_ft c k = 0) : am_Pv (o_getI c k nx) := by
  intro lv st h pc' lv' st' h' hF
  unfold o_getI at hF
  split at hF
  · split at hF
    · rename_i ho
      cases hF
      refine ⟨fun ok => ⟨ok.cons (by have h1 := am_hr_o ok.2.2.1 ho.2 (am_o_at (E := am_E0) hC ok.2.2.2 ho).2.1 hk; rw [if_pos hf] at h1; exact h1) (fun u hu => by simp [hu]), Nat.le_refl _, Nat.le_refl _⟩, fun lw hle => ⟨lw, ?_, hle⟩⟩
      unfold o_getI
      simp only
      rw [if_pos ho]
    · cases hF
  · cases hF
theorem pv_getL {C : String} {T : u_T} {N : Nat} {ty : Nat → FieldType} {c k nx : Nat} (hC : am_Cl c C T N ty) (hk : k < N) (hf : am_ft c k = 1) : am_Pv (o_getL c k nx) := by
  intro lv st h pc' lv' st' h' hF
  unfold o_getL at hF
  split at hF
  · split at hF
    · rename_i ho
      cases hF
      refine ⟨fun ok => ⟨ok.cons (by have h1 := am_hr_o ok.2.2.1 ho.2 (am_o_at (E := am_E0) hC ok.2.2.2 ho).2.1 hk; rw [if_neg (by omega), if_pos hf] at h1; exact h1) (fun u hu => by simp [hu]), Nat.le_refl _, Nat.le_refl _⟩, fun lw hle => ⟨lw, ?_, hle⟩⟩
      unfold o_getL
      simp only
      rw [if_pos ho]
    · cases hF
  · cases hF
theorem pv_getR {c k nx : Nat} : am_Pv (o_getR c k nx) := by
  intro lv st h pc' lv' st' h' hF
  unfold o_getR at hF
  split at hF
  · split at hF
    · rename_i ho
      cases hF
      refine ⟨fun ok => ⟨ok.cons trivial (fun u hu => by simp [hu]), Nat.le_refl _, Nat.le_refl _⟩, fun lw hle => ⟨lw, ?_, hle⟩⟩
      unfold o_getR
      simp only
      rw [if_pos ho]
    · cases hF
  · cases hF
theorem pv_iald {nx : Nat} : am_Pv (o_iald nx) := by
  intro lv st h pc' lv' st' h' hF
  unfold o_iald at hF
  split at hF
  · split at hF
    · rename_i ho
      cases hF
      refine ⟨fun ok => ⟨ok.cons (am_rd_rg ok.2.2.1 ho) (fun u hu => by simp [hu]), Nat.le_refl _, Nat.le_refl _⟩, fun lw hle => ⟨lw, ?_, hle⟩⟩
      unfold o_iald
      simp only
      rw [if_pos ho]
    · cases hF
  · cases hF
theorem pv_lald {nx : Nat} : am_Pv (o_lald nx) := by
  intro lv st h pc' lv' st' h' hF
  unfold o_lald at hF
  split at hF
  · split at hF
    · rename_i ho
      cases hF
      refine ⟨fun ok => ⟨ok.cons (am_rd_rg ok.2.2.1 ho) (fun u hu => by simp [hu]), Nat.le_refl _, Nat.le_refl _⟩, fun lw hle => ⟨lw, ?_, hle⟩⟩
      unfold o_lald
      simp only
      rw [if_pos ho]
    · cases hF
  · cases hF
theorem pv_bald {nx : Nat} : am_Pv (o_bald nx) := by
  intro lv st h pc' lv' st' h' hF
  unfold o_bald at hF
  split at hF
  · split at hF
    · rename_i ho
      cases hF
      refine ⟨fun ok => ⟨ok.cons (am_rd_rg ok.2.2.1 ho) (fun u hu => by simp [hu]), Nat.le_refl _, Nat.le_refl _⟩, fun lw hle => ⟨lw, ?_, hle⟩⟩
      unfold o_bald
      simp only
      rw [if_pos ho]
    · cases hF
  · cases hF
theorem pv_zald {nx : Nat} : am_Pv (o_zald nx) := by
  intro lv st h pc' lv' st' h' hF
  unfold o_zald at hF
  split at hF
  · split at hF
    · rename_i ho
      cases hF
      refine ⟨fun ok => ⟨ok.cons (am_rd_rg ok.2.2.1 ho) (fun u hu => by simp [hu]), Nat.le_refl _, Nat.le_refl _⟩, fun lw hle => ⟨lw, ?_, hle⟩⟩
      unfold o_zald
      simp only
      rw [if_pos ho]
    · cases hF
  · cases hF
theorem pv_aald {t nx : Nat} : am_Pv (o_aald t nx) := by
  intro lv st h pc' lv' st' h' hF
  unfold o_aald at hF
  split at hF
  · split at hF
    · rename_i ho
      cases hF
      refine ⟨fun ok => ⟨ok.cons trivial (fun u hu => by simp [hu]), Nat.le_refl _, Nat.le_refl _⟩, fun lw hle => ⟨lw, ?_, hle⟩⟩
      unfold o_aald
      simp only
      rw [if_pos ho]
    · cases hF
  · cases hF
theorem pv_alen {nx : Nat} : am_Pv (o_alen nx) := by
  intro lv st h pc' lv' st' h' hF
  unfold o_alen at hF
  split at hF
  · split at hF
    · rename_i ho
      cases hF
      refine ⟨fun ok => ⟨ok.cons (am_w_id (by omega) (by omega)) (fun u hu => by simp [hu]), Nat.le_refl _, Nat.le_refl _⟩, fun lw hle => ⟨lw, ?_, hle⟩⟩
      unfold o_alen
      simp only
      rw [if_pos ho]
    · cases hF
  · cases hF
theorem pv_slen {L nx : Nat} (hL : L < 2147483648) : am_Pv (o_slen L nx) := by
  intro lv st h pc' lv' st' h' hF
  unfold o_slen at hF
  split at hF
  · split at hF
    · rename_i ho
      cases hF
      refine ⟨fun ok => ⟨ok.cons (am_w_id (by omega) (by omega)) (fun u hu => by simp [hu]), Nat.le_refl _, Nat.le_refl _⟩, fun lw hle => ⟨lw, ?_, hle⟩⟩
      unfold o_slen
      simp only
      rw [if_pos ho]
    · cases hF
  · cases hF
theorem pv_sld {L nx : Nat} {xs : Nat → Int} (hx : ∀ i, am_w (xs i) = xs i) : am_Pv (o_sld L xs nx) := by
  intro lv st h pc' lv' st' h' hF
  unfold o_sld at hF
  split at hF
  · split at hF
    · rename_i ho
      cases hF
      refine ⟨fun ok => ⟨ok.cons (hx _) (fun u hu => by simp [hu]), Nat.le_refl _, Nat.le_refl _⟩, fun lw hle => ⟨lw, ?_, hle⟩⟩
      unfold o_sld
      simp only
      rw [if_pos ho]
    · cases hF
  · cases hF
theorem pv_tval {n nx : Nat} : am_Pv (o_tval n nx) := by
  intro lv st h pc' lv' st' h' hF
  unfold o_tval at hF
  split at hF
  · split at hF
    · rename_i ho
      cases hF
      refine ⟨fun ok => ⟨ok.cons trivial (fun u hu => by simp [hu]), Nat.le_refl _, Nat.le_refl _⟩, fun lw hle => ⟨lw, ?_, hle⟩⟩
      unfold o_tval
      simp only
      rw [if_pos ho]
    · cases hF
  · cases hF
theorem pv_tcod {n nx : Nat} : am_Pv (o_tcod n nx) := by
  intro lv st h pc' lv' st' h' hF
  unfold o_tcod at hF
  split at hF
  · split at hF
    · rename_i ho
      cases hF
      refine ⟨fun ok => ⟨ok.cons am_w0 (fun u hu => by simp [hu]), Nat.le_refl _, Nat.le_refl _⟩, fun lw hle => ⟨lw, ?_, hle⟩⟩
      unfold o_tcod
      simp only
      rw [if_pos ho]
    · cases hF
  · cases hF
theorem pv_tlen {tx : List (List Int)} {nx : Nat} (hx : ∀ j, (tx.getD j []).length < 2147483648) : am_Pv (o_tlen tx nx) := by
  intro lv st h pc' lv' st' h' hF
  unfold o_tlen at hF
  split at hF
  · split at hF
    · rename_i ho
      cases hF
      refine ⟨fun ok => ⟨ok.cons (am_w_id (by omega) (Int.ofNat_lt.mpr (hx _))) (fun u hu => by simp [hu]), Nat.le_refl _, Nat.le_refl _⟩, fun lw hle => ⟨lw, ?_, hle⟩⟩
      unfold o_tlen
      simp only
      rw [if_pos ho]
    · cases hF
  · cases hF
theorem pv_tald {tx : List (List Int)} {nx : Nat} (hx : ∀ l ∈ tx, ∀ x ∈ l, am_w x = x) : am_Pv (o_tald tx nx) := by
  intro lv st h pc' lv' st' h' hF
  unfold o_tald at hF
  split at hF
  · split at hF
    · rename_i ho
      cases hF
      refine ⟨fun ok => ⟨ok.cons (hx _ (am_getD_in (l := tx) (d := []) (show Int.toNat _ < _ by omega)) _ (am_getD_in (d := 0) (show Int.toNat _ < _ by omega))) (fun u hu => by simp [hu]), Nat.le_refl _, Nat.le_refl _⟩, fun lw hle => ⟨lw, ?_, hle⟩⟩
      unfold o_tald
      simp only
      rw [if_pos ho]
    · cases hF
  · cases hF
theorem pv_drop {c nx : Nat} : am_Pv (o_drop c nx) := by
  intro lv st h pc' lv' st' h' hF
  unfold o_drop at hF
  split at hF
  · split at hF
    · rename_i ho
      cases hF
      refine ⟨fun ok => ⟨ok.sub (fun u hu => by simp [hu]), Nat.le_refl _, Nat.le_refl _⟩, fun lw hle => ⟨lw, ?_, hle⟩⟩
      unfold o_drop
      simp only
      rw [if_pos ho]
    · cases hF
  · cases hF
theorem pv_putI {C : String} {T : u_T} {N : Nat} {ty : Nat → FieldType} {c k nx : Nat} (hf : am_ft c k = 0) : am_Pv (o_putI c k nx) := by
  intro lv st h pc' lv' st' h' hF
  unfold o_putI at hF
  split at hF
  · split at hF
    · rename_i ho
      cases hF
      refine ⟨fun ok => ⟨(ok.sub (st := st') (fun u hu => by simp [hu])).put (by unfold am_xr; rw [ho.2, if_pos (by omega), show c + 10 - 10 = c by omega, if_pos hf]; exact ok.1 (.inl _) (by simp)), Nat.le_refl _, Nat.le_refl _⟩, fun lw hle => ⟨lw, ?_, hle⟩⟩
      unfold o_putI
      simp only
      rw [if_pos ho]
    · cases hF
  · cases hF
theorem pv_putZ {c k nx : Nat} (hf : am_ft c k = 0) : am_Pv (o_putZ c k nx) := by
  intro lv st h pc' lv' st' h' hF
  unfold o_putZ at hF
  split at hF
  · split at hF
    · rename_i ho
      cases hF
      refine ⟨fun ok => ⟨(ok.sub (st := st') (fun u hu => by simp [hu])).put (by unfold am_xr; rw [ho.1.2, if_pos (by omega), show c + 10 - 10 = c by omega, if_pos hf]; exact ok.1 (.inl _) (by simp)), Nat.le_refl _, Nat.le_refl _⟩, fun lw hle => ⟨lw, ?_, hle⟩⟩
      unfold o_putZ
      simp only
      rw [if_pos ho]
    · cases hF
  · cases hF
theorem pv_putL {c k nx : Nat} (hf : am_ft c k = 1) : am_Pv (o_putL c k nx) := by
  intro lv st h pc' lv' st' h' hF
  unfold o_putL at hF
  split at hF
  · split at hF
    · rename_i ho
      cases hF
      refine ⟨fun ok => ⟨(ok.sub (st := st') (fun u hu => by simp [hu])).put (by unfold am_xr; rw [ho.2, if_pos (by omega), show c + 10 - 10 = c by omega, if_neg (by omega), if_pos hf]; exact ok.1 (.inr (.inl _)) (by simp)), Nat.le_refl _, Nat.le_refl _⟩, fun lw hle => ⟨lw, ?_, hle⟩⟩
      unfold o_putL
      simp only
      rw [if_pos ho]
    · cases hF
  · cases hF
theorem pv_putR {c k nx : Nat} (hf : am_ft c k = 2) : am_Pv (o_putR c k nx) := by
  intro lv st h pc' lv' st' h' hF
  unfold o_putR at hF
  split at hF
  · split at hF
    · rename_i ho
      cases hF
      refine ⟨fun ok => ⟨(ok.sub (st := st') (fun u hu => by simp [hu])).put (by unfold am_xr; rw [ho.1.2, if_pos (by omega), show c + 10 - 10 = c by omega, if_neg (by omega), if_neg (by omega)]; exact ho.2), Nat.le_refl _, Nat.le_refl _⟩, fun lw hle => ⟨lw, ?_, hle⟩⟩
      unfold o_putR
      simp only
      rw [if_pos ho]
    · cases hF
  · cases hF
theorem pv_iast {nx : Nat} : am_Pv (o_iast nx) := by
  intro lv st h pc' lv' st' h' hF
  unfold o_iast at hF
  split at hF
  · split at hF
    · rename_i ho
      cases hF
      refine ⟨fun ok => ⟨(ok.sub (st := st') (fun u hu => by simp [hu])).put (by unfold am_xr; rw [ho.2.1]; exact ok.1 (.inl _) (by simp)), Nat.le_refl _, Nat.le_refl _⟩, fun lw hle => ⟨lw, ?_, hle⟩⟩
      unfold o_iast
      simp only
      rw [if_pos ho]
    · cases hF
  · cases hF
theorem pv_last {nx : Nat} : am_Pv (o_last nx) := by
  intro lv st h pc' lv' st' h' hF
  unfold o_last at hF
  split at hF
  · split at hF
    · rename_i ho
      cases hF
      refine ⟨fun ok => ⟨(ok.sub (st := st') (fun u hu => by simp [hu])).put (by unfold am_xr; rw [ho.2.1]; exact ok.1 (.inr (.inl _)) (by simp)), Nat.le_refl _, Nat.le_refl _⟩, fun lw hle => ⟨lw, ?_, hle⟩⟩
      unfold o_last
      simp only
      rw [if_pos ho]
    · cases hF
  · cases hF
theorem pv_bast {nx : Nat} : am_Pv (o_bast nx) := by
  intro lv st h pc' lv' st' h' hF
  unfold o_bast at hF
  split at hF
  · split at hF
    · rename_i ho
      cases hF
      refine ⟨fun ok => ⟨(ok.sub (st := st') (fun u hu => by simp [hu])).put (by unfold am_xr; rw [ho.2.1]; exact am_b_rg _), Nat.le_refl _, Nat.le_refl _⟩, fun lw hle => ⟨lw, ?_, hle⟩⟩
      unfold o_bast
      simp only
      rw [if_pos ho]
    · cases hF
  · cases hF
theorem pv_zast {nx : Nat} : am_Pv (o_zast nx) := by
  intro lv st h pc' lv' st' h' hF
  unfold o_zast at hF
  split at hF
  · split at hF
    · rename_i ho
      cases hF
      refine ⟨fun ok => ⟨(ok.sub (st := st') (fun u hu => by simp [hu])).put (by unfold am_xr; rw [ho.1.2.1]; exact ok.1 (.inl _) (by simp)), Nat.le_refl _, Nat.le_refl _⟩, fun lw hle => ⟨lw, ?_, hle⟩⟩
      unfold o_zast
      simp only
      rw [if_pos ho]
    · cases hF
  · cases hF
theorem pv_aast {t c nx : Nat} (ht : t = 5 ∨ t = 6) : am_Pv (o_aast t c nx) := by
  intro lv st h pc' lv' st' h' hF
  unfold o_aast at hF
  split at hF
  · split at hF
    · rename_i ho
      cases hF
      refine ⟨fun ok => ⟨(ok.sub (st := st') (fun u hu => by simp [hu])).put (by unfold am_xr; rw [ho.1.2.1, if_neg (by omega), if_neg (by omega), if_pos (by omega)]; have := ho.2.1; omega), Nat.le_refl _, Nat.le_refl _⟩, fun lw hle => ⟨lw, ?_, hle⟩⟩
      unfold o_aast
      simp only
      rw [if_pos ho]
    · cases hF
  · cases hF
theorem pv_new {C : String} {T : u_T} {N : Nat} {ty : Nat → FieldType} {c nx : Nat} {z : Nat → Int} (hC : am_Cl c C T N ty) (hz : ∀ i, i < N → am_xr (c + 10) i (z i)) : am_Pv (o_new c N z nx) := by
  intro lv st h pc' lv' st' h' hF
  cases hF
  exact ⟨fun ok => ⟨(ok.mk hz (fun _ => ⟨_, by rw [show c + 10 - 10 = c by omega]; exact hC.1, rfl⟩)).cons trivial (fun _ q => q), Nat.le_succ _, Nat.le_add_right _ _⟩, fun lw hle => ⟨lw, rfl, hle⟩⟩
theorem pv_newa {t nx : Nat} (ht : 1 ≤ t ∧ t ≤ 4) : am_Pv (o_newa t nx) := by
  intro lv st h pc' lv' st' h' hF
  unfold o_newa at hF
  split at hF
  · split at hF
    · rename_i ho
      cases hF
      refine ⟨fun ok => ⟨((ok.sub (st := _) (fun u hu => by simp [hu])).mk (fun i _ => am_xr0 ht) (fun q => by omega)).cons trivial (fun _ q => q), Nat.le_succ _, Nat.le_add_right _ _⟩, fun lw hle => ⟨lw, ?_, hle⟩⟩
      unfold o_newa
      simp only
      rw [if_pos ho]
    · cases hF
  · cases hF
theorem pv_anew {t nx : Nat} (ht : t = 5 ∨ t = 6) : am_Pv (o_anew t nx) := by
  intro lv st h pc' lv' st' h' hF
  unfold o_anew at hF
  split at hF
  · split at hF
    · rename_i ho
      cases hF
      refine ⟨fun ok => ⟨((ok.sub (st := _) (fun u hu => by simp [hu])).mk (fun i _ => by unfold am_xr; rw [if_neg (by omega), if_neg (by omega), if_pos (by omega)]; omega) (fun q => by omega)).cons trivial (fun _ q => q), Nat.le_succ _, Nat.le_add_right _ _⟩, fun lw hle => ⟨lw, ?_, hle⟩⟩
      unfold o_anew
      simp only
      rw [if_pos ho]
    · cases hF
  · cases hF
