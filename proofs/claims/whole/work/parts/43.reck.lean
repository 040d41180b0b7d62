/-! the reference's reckoning -/
def stOK (m : Nat → Int) : List Int → Prop
  | [] => True
  | a :: t => m t.length = a ∧ stOK m t
theorem stOK.congr {m n : Nat → Int} : ∀ {s : List Int}, stOK m s → (∀ j, j < s.length → n j = m j) → stOK n s := by
  intro s
  induction s with
  | nil => intro _ _; trivial
  | cons a t ih =>
    intro h1 h2
    refine ⟨?_, ih h1.2 (fun j hj => h2 j (by simp; omega))⟩
    rw [h2 t.length (by simp)]
    exact h1.1
theorem bool_and {a b : Int} (ha : a = 0 ∨ a = 1) (hb : b = 0 ∨ b = 1) : am_and a b = bop 7 a b := by
  rcases ha with rfl | rfl <;> rcases hb with rfl | rfl <;> rfl
theorem bool_or {a b : Int} (ha : a = 0 ∨ a = 1) (hb : b = 0 ∨ b = 1) : am_or a b = bop 8 a b := by
  rcases ha with rfl | rfl <;> rcases hb with rfl | rfl <;> rfl
theorem mul_wb {x y : Int} (hx : wb x) (hy : wb y) : -1000000000000 ≤ x * y ∧ x * y ≤ 1000000000000 := by
  unfold wb at *
  have h1 : x.natAbs * y.natAbs ≤ 1000000 * 1000000 := Nat.mul_le_mul (by omega) (by omega)
  rw [← Int.natAbs_mul] at h1
  omega
theorem stepR_inv {w : Nat → Int} {c : Int} {s t : List Int} (h : stepR w c s = some t) : (0 ≤ c ∧ c < 1000 ∧ t = c :: s) ∨ (1000 ≤ c ∧ c < 1007 ∧ t = w (c - 1000).toNat :: s) ∨ (c = 3006 ∧ ∃ a u, s = a :: u ∧ (a = 0 ∨ a = 1) ∧ t = (1 - a) :: u) ∨ (c = 3009 ∧ ∃ b a q u, s = b :: a :: q :: u ∧ t = (if q = 1 then a else b) :: u) ∨ (∃ b a u, s = b :: a :: u ∧ ((3000 ≤ c ∧ c < 3006) ∨ ((c = 3007 ∨ c = 3008) ∧ (a = 0 ∨ a = 1) ∧ (b = 0 ∨ b = 1))) ∧ t = bop (c - 3000) a b :: u) := by
  unfold stepR at h
  split at h
  · split at h
    · split at h
      · exact Or.inl ⟨by assumption, by assumption, by simpa using h.symm⟩
      · simp at h
    · split at h
      · exact Or.inr (Or.inl ⟨by omega, by assumption, by simpa using h.symm⟩)
      · simp at h
  · split at h
    · refine Or.inr (Or.inr (Or.inl ⟨by assumption, ?_⟩))
      match s, h with
      | [], h => simp at h
      | a :: u, h =>
        simp only at h
        split at h
        · exact ⟨a, u, rfl, by assumption, by simpa using h.symm⟩
        · simp at h
    · split at h
      · refine Or.inr (Or.inr (Or.inr (Or.inl ⟨by assumption, ?_⟩)))
        match s, h with
        | [], h => simp at h
        | [x], h => simp at h
        | [x, y], h => simp at h
        | b :: a :: q :: u, h => exact ⟨b, a, q, u, rfl, by simpa using h.symm⟩
      · refine Or.inr (Or.inr (Or.inr (Or.inr ?_)))
        match s, h with
        | [], h =>
          split at h
          · simp at h
          · split at h <;> simp at h
        | [x], h =>
          split at h
          · simp at h
          · split at h <;> simp at h
        | b :: a :: u, h =>
          refine ⟨b, a, u, rfl, ?_⟩
          split at h
          · simp only at h
            split at h
            · exact ⟨Or.inr ⟨by assumption, by assumption⟩, by simpa using h.symm⟩
            · simp at h
          · split at h
            · exact ⟨Or.inl ⟨by omega, by assumption⟩, by simpa using h.symm⟩
            · simp at h
theorem runR_cons {w : Nat → Int} {c : Int} {cs s r : List Int} (h : runR w (c :: cs) s = some r) : ∃ t, stepR w c s = some t ∧ runR w cs t = some r := by
  simp only [runR] at h
  split at h
  · exact ⟨_, by assumption, h⟩
  · simp at h
section RK
variable {scr : Nat × (Nat → Int)} {d : Nat} {h : am_H} {Q : Option am_V → am_H → Prop}
theorem k_clamp {y : Int} (hb : -1000000000000 ≤ y ∧ y ≤ 1000000000000) (H : Q (some (.inl (clampE y))) h) : ((¬ (1000000 < y) → ((¬ (y < (-1000000)) → (Q (some (.inl (am_w y))) h)) ∧ (y < (-1000000) → (Q (some (.inl (am_w (-1000000)))) h)))) ∧ (1000000 < y → (Q (some (.inl (am_w 1000000))) h))) := by
  unfold clampE at H
  refine ⟨fun c => ⟨fun c2 => ?_, fun c2 => ?_⟩, fun c => ?_⟩
  · rw [if_neg c, if_neg c2] at H; rw [am_w_id (by omega) (by omega)]; exact H
  · rw [if_neg c, if_pos c2] at H; exact H
  · rw [if_pos c] at H; exact H
theorem k_between {c a b : Int} (hs : am_sc scr) (hw : wf h) (hc : (3000 ≤ c ∧ c < 3006) ∨ ((c = 3007 ∨ c = 3008) ∧ (a = 0 ∨ a = 1) ∧ (b = 0 ∨ b = 1))) (ha : wb a) (hb : wb b) (H : Q (some (.inl (bop (c - 3000) a b))) h) : am_R (am_prog scr) d f_M_between 0 [some (.inl (c)), some (.inl (a)), some (.inl (b)), none, none] [] h Q := by
  have hm := mul_wb ha hb
  unfold wb at ha hb
  refine w_M_between_0 hs hw ⟨fun q => ?_, fun q => ?_, fun q => ?_, fun q => ?_, fun q => ?_, fun q => ⟨fun q1 => ⟨fun q2 => ?_, fun q2 => ?_⟩, fun q1 => ?_⟩⟩
  · have e : bop (c - 3000) a b = if a = b then 1 else 0 := by unfold bop; rw [if_neg (by omega), if_neg (by omega), if_neg (by omega), if_pos (by omega)]
    rw [e] at H
    refine ⟨fun e => ?_, fun e => ?_⟩
    · rw [if_neg e] at H; exact H
    · rw [if_pos e] at H; exact H
  · have e : bop (c - 3000) a b = if a < b then 1 else 0 := by unfold bop; rw [if_neg (by omega), if_neg (by omega), if_neg (by omega), if_neg (by omega), if_pos (by omega)]
    rw [e] at H
    refine ⟨fun e => ?_, fun e => ?_⟩
    · rw [if_neg e] at H; exact H
    · rw [if_pos e] at H; exact H
  · have e : bop (c - 3000) a b = if a ≤ b then 0 else 1 := by unfold bop; rw [if_neg (by omega), if_neg (by omega), if_neg (by omega), if_neg (by omega), if_neg (by omega), if_pos (by omega)]
    rw [e] at H
    refine ⟨fun e => ?_, fun e => ?_⟩
    · rw [if_pos e] at H; exact H
    · rw [if_neg e] at H; exact H
  · subst q
    rw [bool_and (by omega) (by omega)]
    rw [show (3007 : Int) - 3000 = 7 by omega] at H; exact H
  · subst q
    rw [bool_or (by omega) (by omega)]
    rw [show (3008 : Int) - 3000 = 8 by omega] at H; exact H
  · intro y hy
    rw [am_W_id (by omega) (by omega)] at hy
    subst hy
    refine k_clamp hm ?_
    have e : bop (c - 3000) a b = clampE (a * b) := by unfold bop; rw [if_neg (by omega), if_neg (by omega), if_pos (by omega)]
    rw [e] at H
    exact H
  · intro y hy
    rw [am_W_id (by omega) (by omega)] at hy
    subst hy
    refine k_clamp (by omega) ?_
    have e : bop (c - 3000) a b = clampE (a - b) := by unfold bop; rw [if_neg (by omega), if_pos (by omega)]
    rw [e] at H
    exact H
  · intro y hy
    rw [am_W_id (by omega) (by omega)] at hy
    subst hy
    refine k_clamp (by omega) ?_
    have e : bop (c - 3000) a b = clampE (a + b) := by unfold bop; rw [if_pos (by omega)]
    rw [e] at H
    exact H
theorem k_reck_82 (hs : am_sc scr) {x1 x2 x3 x4 fm mo v : Int} {env : Nat → Int} (h1 : x1 = 0 ∨ x1 = 1) (he : wdB env) : ∀ (cs : List Int) (k : Int) (stk : List Int) (h : am_H), wf h → (∀ j, j < 7 → h.2.2.2 115 j = env j) → al h (8 + x1) = fm → al h (10 + x1) = mo → 0 ≤ fm → fm + mo ≤ 900 → 0 ≤ k → k + (cs.length : Int) = mo → (∀ j, j < cs.length → al h (212 + fm + k + j) = cs.getD j 0) → stOK (h.2.2.2 114) stk → (stk.length : Int) ≤ k → (∀ x ∈ stk, wb x) → runR env cs stk = some [v] → (∀ g, wf g → fr [114] [] h g → Q (some (.inl (v))) g) → am_R (am_prog scr) (d + 1) f_M_reckons 82 [some (.inr (.inr ((109 : Nat) : Int))), some (.inl (x1)), some (.inl (x2)), some (.inl (x3)), some (.inl (x4)), some (.inl ((stk.length : Int))), some (.inl (k)), none] [] h Q := by
  intro cs
  induction cs with
  | nil =>
    intro k stk h hw h7 hf hm b1 b2 b3 b4 hc st sl sb hr H
    simp only [runR, Option.some.injEq] at hr
    subst hr
    refine w_M_reckons_82 hs hw ?_
    rw [am_w_id (by omega) (by omega), am_w_id (by omega) (by omega)]
    refine ⟨by omega, fun _ => ?_, fun c => ?_⟩
    · have e : h.2.2.2 114 0 = v := st.1
      rw [e]
      exact H h hw fr.rfl
    · exfalso
      change k < al h (10 + x1) at c
      simp at b4
      omega
  | cons c cs ih =>
    intro k stk h hw h7 hf hm b1 b2 b3 b4 hc st sl sb hr H
    simp only [List.length_cons, Int.natCast_add, Int.natCast_one] at b4
    have hc0 := hc 0 (by simp)
    simp only [List.getD_cons_zero, Int.natCast_zero, Int.add_zero] at hc0
    refine w_M_reckons_82 hs hw ?_
    rw [am_w_id (x := 10 + x1) (by omega) (by omega), am_w_id (x := 8 + x1) (by omega) (by omega)]
    refine ⟨by omega, fun q => ?_, fun q => ⟨by omega, ?_⟩⟩
    · exfalso
      apply q
      change k < al h (10 + x1)
      omega
    · have e1 : h.2.2.2 110 (8 + x1).toNat = fm := hf
      rw [e1, am_w_id (x := 212 + fm) (by omega) (by omega), am_w_id (x := 212 + fm + k) (by omega) (by omega)]
      refine ⟨by omega, fun y4 hy => ?_⟩
      change y4 = al h (212 + fm + k) at hy
      rw [hc0] at hy
      subst y4
      have hcs : ∀ (g : am_H), g.2.2.2 110 = h.2.2.2 110 → ∀ j, j < cs.length → al g (212 + fm + (k + 1) + j) = cs.getD j 0 := by
        intro g eg j hj
        have := hc (j + 1) (by simp; omega)
        simp only [List.getD_cons_succ] at this
        rw [← this, show (212 + fm + k + ((j + 1 : Nat) : Int)) = 212 + fm + (k + 1) + (j : Int) by omega]
        unfold al
        rw [eg]
      have cont : ∀ (t : List Int) (g : am_H) (m y : Int), y = am_w (k + 1) → wf g → fr [114] [] h g → m = (t.length : Int) → stOK (g.2.2.2 114) t → (t.length : Int) ≤ k + 1 → (∀ x ∈ t, wb x) → runR env cs t = some [v] → am_R (am_prog scr) (d + 1) f_M_reckons 82 [some (.inr (.inr ((109 : Nat) : Int))), some (.inl (x1)), some (.inl (x2)), some (.inl (x3)), some (.inl (x4)), some (.inl (m)), some (.inl (y)), none] [] g Q := by
        intro t g m y hy wg fg hm2 st2 tl tb hr2
        rw [am_w_id (by omega) (by omega)] at hy
        subst hy hm2
        have ea := fg.c 110 (by decide) (by simp)
        refine ih (k + 1) t g wg (fun j hj => by rw [fg.c 115 (by decide) (by simp)]; exact h7 j hj) (by unfold al; rw [ea]; exact hf) (by unfold al; rw [ea]; exact hm) b1 b2 (by omega) (by omega) (hcs g ea) st2 tl tb hr2 (fun g2 w2 f2 => H g2 w2 (fg.trans f2))
      obtain ⟨t0, hst, hr⟩ := runR_cons hr
      have inv := stepR_inv hst
      have wp : ∀ (j : Nat) (x : Int), wf (am_put h 114 j x) := fun j x => hw.pa (by decide +kernel)
      have fp : ∀ (j : Nat) (x : Int), fr [114] [] h (am_put h 114 j x) := fun j x => fr.rfl.put (Or.inl (by decide))
      refine ⟨fun q1 => ⟨fun q2 => ⟨fun q3 => ?_, fun q3 => ?_⟩, fun q2 => ?_⟩, fun q1 => ⟨fun q2 => ?_, fun q2 => ?_⟩⟩
      · -- two brought together
        obtain ⟨b, a, t, es, hop, er⟩ : ∃ b a t, stk = b :: a :: t ∧ ((3000 ≤ c ∧ c < 3006) ∨ ((c = 3007 ∨ c = 3008) ∧ (a = 0 ∨ a = 1) ∧ (b = 0 ∨ b = 1))) ∧ runR env cs (bop (c - 3000) a b :: t) = some [v] := by
          rcases inv with i | i | i | i | ⟨b, a, u, i1, i2, i3⟩
          · omega
          · omega
          · omega
          · omega
          · exact ⟨b, a, u, i1, i2, by rw [← i3]; exact hr⟩
        subst es
        simp only [List.length_cons, Int.natCast_add, Int.natCast_one] at sl ⊢
        intro y5 hy5
        rw [am_w_id (by omega) (by omega)] at hy5
        obtain rfl : y5 = (t.length : Int) + 1 := by omega
        rw [am_w_id (x := (t.length : Int) + 1 - 1) (by omega) (by omega)]
        obtain ⟨s1, s2, s3⟩ := st
        refine ⟨by omega, by omega, ?_⟩
        have e1 : ((t.length : Int) + 1 - 1).toNat = t.length := by omega
        have e2 : ((t.length : Int) + 1).toNat = t.length + 1 := by omega
        simp only [List.length_cons] at s1
        rw [e1, e2, s1, s2]
        refine k_between hs hw hop (sb a (by simp)) (sb b (by simp)) ?_
        refine ⟨_, rfl, hw, by omega, fun g hg y hy => ?_⟩
        subst hg
        refine cont (bop (c - 3000) a b :: t) _ _ y hy (wp _ _) (fp _ _) (by simp) ?_ (by simp; omega) ?_ er
        · exact ⟨put_eq, s3.congr (fun j hj => put_ne (by omega))⟩
        · intro x hx
          rcases List.mem_cons.mp hx with rfl | hx
          · exact bop_b _ _ _
          · exact sb x (by simp [hx])
      · -- if
        obtain ⟨b, a, z, t, es, er⟩ : ∃ b a z t, stk = b :: a :: z :: t ∧ runR env cs ((if z = 1 then a else b) :: t) = some [v] := by
          rcases inv with i | i | i | ⟨i0, b, a, z, u, i1, i2⟩ | ⟨b, a, u, i1, i2, i3⟩
          · omega
          · omega
          · omega
          · exact ⟨b, a, z, u, i1, by rw [← i2]; exact hr⟩
          · omega
        subst es
        simp only [List.length_cons, Int.natCast_add, Int.natCast_one] at sl ⊢
        intro y5 hy5
        rw [am_w_id (by omega) (by omega)] at hy5
        obtain rfl : y5 = (t.length : Int) + 1 := by omega
        rw [am_w_id (x := (t.length : Int) + 1 - 1) (by omega) (by omega), am_w_id (x := (t.length : Int) + 1 + 1) (by omega) (by omega)]
        obtain ⟨s1, s2, s3, s4⟩ := st
        have e1 : ((t.length : Int) + 1 - 1).toNat = t.length := by omega
        have e2 : ((t.length : Int) + 1).toNat = t.length + 1 := by omega
        have e3 : ((t.length : Int) + 1 + 1).toNat = t.length + 1 + 1 := by omega
        simp only [List.length_cons] at s1 s2
        rw [e1, e2, e3, s1, s2, s3]
        refine ⟨by omega, fun q4 => ⟨by omega, by omega, fun g hg y hy => ?_⟩, fun q4 => ⟨by omega, by omega, fun g hg y hy => ?_⟩⟩
        · subst hg
          rw [if_neg q4] at er
          refine cont (b :: t) _ _ y hy (wp _ _) (fp _ _) (by simp) ?_ (by simp; omega) ?_ er
          · exact ⟨put_eq, s4.congr (fun j hj => put_ne (by omega))⟩
          · intro x hx
            rcases List.mem_cons.mp hx with rfl | hx
            · exact sb _ (by simp)
            · exact sb x (by simp [hx])
        · subst hg
          rw [if_pos q4] at er
          refine cont (a :: t) _ _ y hy (wp _ _) (fp _ _) (by simp) ?_ (by simp; omega) ?_ er
          · exact ⟨put_eq, s4.congr (fun j hj => put_ne (by omega))⟩
          · intro x hx
            rcases List.mem_cons.mp hx with rfl | hx
            · exact sb _ (by simp)
            · exact sb x (by simp [hx])
      · -- not
        obtain ⟨a, t, es, hz, er⟩ : ∃ a t, stk = a :: t ∧ (a = 0 ∨ a = 1) ∧ runR env cs ((1 - a) :: t) = some [v] := by
          rcases inv with i | i | ⟨i0, a, u, i1, i2, i3⟩ | i | ⟨b, a, u, i1, i2, i3⟩
          · omega
          · omega
          · exact ⟨a, u, i1, i2, by rw [← i3]; exact hr⟩
          · omega
          · omega
        clear inv hst
        subst es
        simp only [List.length_cons, Int.natCast_add, Int.natCast_one] at sl ⊢
        rw [am_w_id (x := (t.length : Int) + 1 - 1) (by omega) (by omega)]
        obtain ⟨s1, s2⟩ := st
        have e1 : ((t.length : Int) + 1 - 1).toNat = t.length := by omega
        rw [e1, s1, am_w_id (x := 1 - a) (by omega) (by omega)]
        refine ⟨by omega, by omega, fun g hg y hy => ?_⟩
        subst hg
        refine cont ((1 - a) :: t) _ _ y hy (wp _ _) (fp _ _) (by simp) ?_ (by simp; omega) ?_ er
        · exact ⟨put_eq, s2.congr (fun j hj => put_ne (by omega))⟩
        · intro x hx
          rcases List.mem_cons.mp hx with rfl | hx
          · unfold wb; omega
          · exact sb x (by simp [hx])
      · -- a word
        obtain ⟨q5, ht⟩ : c < 1007 ∧ t0 = env (c - 1000).toNat :: stk := by
          rcases inv with i | i | i | i | ⟨b, a, u, i1, i2, i3⟩
          · omega
          · exact i.2
          · omega
          · omega
          · omega
        rw [am_w_id (x := c - 1000) (by omega) (by omega)]
        refine ⟨by omega, by omega, fun g hg m hm2 y hy => ?_⟩
        rw [am_w_id (by omega) (by omega)] at hm2
        subst hg
        have e1 : ((stk.length : Int)).toNat = stk.length := by omega
        rw [e1, h7 (c - 1000).toNat (by omega)]
        refine cont t0 _ m y hy (wp _ _) (fp _ _) ?_ ?_ ?_ ?_ hr
        · rw [ht]; simpa using hm2
        · rw [ht]; exact ⟨put_eq, st.congr (fun j hj => put_ne (by omega))⟩
        · rw [ht]; simp; omega
        · intro x hx
          rw [ht] at hx
          rcases List.mem_cons.mp hx with rfl | hx
          · exact he _ (by omega)
          · exact sb x hx
      · -- a number
        obtain ⟨q5, ht⟩ : 0 ≤ c ∧ t0 = c :: stk := by
          rcases inv with i | i | i | i | ⟨b, a, u, i1, i2, i3⟩
          · exact ⟨i.1, i.2.2⟩
          · omega
          · omega
          · omega
          · omega
        refine ⟨by omega, fun g hg m hm2 y hy => ?_⟩
        rw [am_w_id (by omega) (by omega)] at hm2
        subst hg
        have e1 : ((stk.length : Int)).toNat = stk.length := by omega
        rw [e1]
        refine cont t0 _ m y hy (wp _ _) (fp _ _) ?_ ?_ ?_ ?_ hr
        · rw [ht]; simpa using hm2
        · rw [ht]; exact ⟨put_eq, st.congr (fun j hj => put_ne (by omega))⟩
        · rw [ht]; simp; omega
        · intro x hx
          rw [ht] at hx
          rcases List.mem_cons.mp hx with rfl | hx
          · unfold wb; omega
          · exact sb x hx
end RK
