/-! the class's laws: codes with skips, over a stack of at most 64 -/
def stepC (w c : Nat → Int) (n k : Nat) (s : List Int) : Option (Nat × List Int) :=
  if -7 ≤ c k then (if s.length < 64 ∧ c k < 1000 then some (k + 1, (if 0 ≤ c k then c k else w (-1 - c k).toNat) :: s) else none)
  else if c k = -17 then (if k + 1 < n ∧ (k : Int) < c (k + 1) ∧ c (k + 1) ≤ n then some ((c (k + 1)).toNat, s) else none)
  else if c k = -18 then (match s with
    | q :: t => if k + 2 ≤ n ∧ (k : Int) < c (k + 1) ∧ c (k + 1) ≤ n then some (if q = 0 then (c (k + 1)).toNat else k + 2, t) else none
    | _ => none)
  else if c k = -14 then (match s with
    | a :: t => if a = 0 ∨ a = 1 then some (k + 1, (1 - a) :: t) else none
    | _ => none)
  else if -16 ≤ c k then (match s with
    | b :: a :: t => some (k + 1, bop (-8 - c k) a b :: t)
    | _ => none)
  else none
def one (s : List Int) : Option Int := match s with
  | [v] => some v
  | _ => none
def runC (w c : Nat → Int) (n : Nat) : Nat → Nat → List Int → Option Int
  | 0, k, s => if n ≤ k then one s else none
  | m + 1, k, s => if n ≤ k then one s else match stepC w c n k s with
    | some (k', t) => runC w c n m k' t
    | none => none
theorem one_inv {s : List Int} {v : Int} (h : one s = some v) : s = [v] := by
  match s, h with
  | [x], h => simp only [one, Option.some.injEq] at h; rw [h]
theorem stepC_inv {w c : Nat → Int} {n k k' : Nat} {s t : List Int} (h : stepC w c n k s = some (k', t)) : (-7 ≤ c k ∧ c k < 1000 ∧ s.length < 64 ∧ k' = k + 1 ∧ t = (if 0 ≤ c k then c k else w (-1 - c k).toNat) :: s) ∨ (c k = -17 ∧ k + 1 < n ∧ (k : Int) < c (k + 1) ∧ c (k + 1) ≤ n ∧ k' = (c (k + 1)).toNat ∧ t = s) ∨ (c k = -18 ∧ ∃ q, s = q :: t ∧ k + 2 ≤ n ∧ (k : Int) < c (k + 1) ∧ c (k + 1) ≤ n ∧ k' = if q = 0 then (c (k + 1)).toNat else k + 2) ∨ (c k = -14 ∧ k' = k + 1 ∧ ∃ a u, s = a :: u ∧ (a = 0 ∨ a = 1) ∧ t = (1 - a) :: u) ∨ (-16 ≤ c k ∧ c k < -7 ∧ c k ≠ -14 ∧ k' = k + 1 ∧ ∃ b a u, s = b :: a :: u ∧ t = bop (-8 - c k) a b :: u) := by
  unfold stepC at h
  split at h
  · split at h
    · rename_i q1 q2
      simp only [Option.some.injEq, Prod.mk.injEq] at h
      exact Or.inl ⟨q1, q2.2, q2.1, h.1.symm, h.2.symm⟩
    · simp at h
  · split at h
    · split at h
      · rename_i q1 q2 q3
        simp only [Option.some.injEq, Prod.mk.injEq] at h
        exact Or.inr (Or.inl ⟨q2, q3.1, q3.2.1, q3.2.2, h.1.symm, h.2.symm⟩)
      · simp at h
    · split at h
      · refine Or.inr (Or.inr (Or.inl ⟨by assumption, ?_⟩))
        match s, h with
        | [], h => simp at h
        | q :: u, h =>
          simp only at h
          split at h
          · rename_i q3
            simp only [Option.some.injEq, Prod.mk.injEq] at h
            exact ⟨q, by rw [h.2], q3.1, q3.2.1, q3.2.2, h.1.symm⟩
          · simp at h
      · split at h
        · refine Or.inr (Or.inr (Or.inr (Or.inl ⟨by assumption, ?_⟩)))
          match s, h with
          | [], h => simp at h
          | a :: u, h =>
            simp only at h
            split at h
            · rename_i q3
              simp only [Option.some.injEq, Prod.mk.injEq] at h
              exact ⟨h.1.symm, a, u, rfl, q3, h.2.symm⟩
            · simp at h
        · split at h
          · refine Or.inr (Or.inr (Or.inr (Or.inr ⟨by assumption, by omega, by assumption, ?_⟩)))
            match s, h with
            | [], h => simp at h
            | [x], h => simp at h
            | b :: a :: u, h =>
              simp only [Option.some.injEq, Prod.mk.injEq] at h
              exact ⟨h.1.symm, b, a, u, rfl, h.2.symm⟩
          · simp at h
section TL
variable {scr : Nat × (Nat → Int)} {d : Nat} {h : am_H} {Q : Option am_V → am_H → Prop}
theorem k_comb161 {x0 x1 x3 y : Int} (hs : am_sc scr) (hw : wf h) (H : Q (some (.inl (clampE y))) h) : am_R (am_prog scr) d f_Stage_combined 161 [some (.inl (x0)), some (.inr (.inl (x1))), none, some (.inr (.inl (x3))), none, some (.inr (.inl (y))), none] [] h Q := by
  unfold clampE at H
  refine w_Stage_combined_161 hs hw ⟨fun c => ⟨fun c2 => ?_, fun c2 => ?_⟩, fun c => ?_⟩
  · rw [if_neg c2, if_neg c] at H; rw [am_w_id (by omega) (by omega)]; exact H
  · rw [if_pos c2] at H; exact H
  · rw [if_neg (by omega), if_pos c] at H; exact H
theorem k_combined {c a b : Int} (hs : am_sc scr) (hw : wf h) (hc : -16 ≤ c ∧ c < -7 ∧ c ≠ -14) (ha : wb a) (hb : wb b) (H : Q (some (.inl (bop (-8 - c) a b))) h) : am_R (am_prog scr) d f_Stage_combined 0 [some (.inl (c)), some (.inr (.inl (a))), none, some (.inr (.inl (b))), none, none, none] [] h Q := by
  have hm := mul_wb ha hb
  unfold wb at ha hb
  have c0 : clampE 0 = 0 := rfl
  have c1 : clampE 1 = 1 := rfl
  refine w_Stage_combined_0 hs hw ⟨fun q => ?_, fun q => ?_, fun q => ?_, fun q => ?_, fun q y hy => ?_, fun q y hy => ?_, fun q y hy => ?_, fun q => ?_⟩
  · have e : bop (-8 - c) a b = if a ≠ 0 ∧ b ≠ 0 then 1 else 0 := by unfold bop; rw [if_neg (by omega), if_neg (by omega), if_neg (by omega), if_neg (by omega), if_neg (by omega), if_neg (by omega), if_pos (by omega)]
    rw [e] at H
    refine ⟨fun q1 => ?_, fun q1 => ⟨fun q2 => ?_, fun q2 => ?_⟩⟩
    · rw [if_neg (by omega)] at H
      exact w_Stage_combined_136 hs hw (k_comb161 hs hw (by rw [c0]; exact H))
    · rw [if_neg (by omega)] at H
      exact w_Stage_combined_136 hs hw (k_comb161 hs hw (by rw [c0]; exact H))
    · rw [if_pos (by omega)] at H
      exact k_comb161 hs hw (by rw [c1]; exact H)
  · have e : bop (-8 - c) a b = if a ≤ b then 0 else 1 := by unfold bop; rw [if_neg (by omega), if_neg (by omega), if_neg (by omega), if_neg (by omega), if_neg (by omega), if_pos (by omega)]
    rw [e] at H
    refine ⟨fun q1 => ?_, fun q1 => ?_⟩
    · rw [if_pos (by omega)] at H; exact k_comb161 hs hw (by rw [c0]; exact H)
    · rw [if_neg (by omega)] at H; exact k_comb161 hs hw (by rw [c1]; exact H)
  · have e : bop (-8 - c) a b = if a < b then 1 else 0 := by unfold bop; rw [if_neg (by omega), if_neg (by omega), if_neg (by omega), if_neg (by omega), if_pos (by omega)]
    rw [e] at H
    refine ⟨fun q1 => ?_, fun q1 => ?_⟩
    · rw [if_neg (by omega)] at H; exact k_comb161 hs hw (by rw [c0]; exact H)
    · rw [if_pos (by omega)] at H; exact k_comb161 hs hw (by rw [c1]; exact H)
  · have e : bop (-8 - c) a b = if a = b then 1 else 0 := by unfold bop; rw [if_neg (by omega), if_neg (by omega), if_neg (by omega), if_pos (by omega)]
    rw [e] at H
    refine ⟨fun q1 => ?_, fun q1 => ?_⟩
    · rw [if_neg (by omega)] at H; exact k_comb161 hs hw (by rw [c0]; exact H)
    · rw [if_pos (by omega)] at H; exact k_comb161 hs hw (by rw [c1]; exact H)
  · have e : bop (-8 - c) a b = clampE (a * b) := by unfold bop; rw [if_neg (by omega), if_neg (by omega), if_pos (by omega)]
    rw [am_W_id (by omega) (by omega)] at hy
    exact k_comb161 hs hw (by rw [hy, ← e]; exact H)
  · have e : bop (-8 - c) a b = clampE (a - b) := by unfold bop; rw [if_neg (by omega), if_pos (by omega)]
    rw [am_W_id (by omega) (by omega)] at hy
    exact k_comb161 hs hw (by rw [hy, ← e]; exact H)
  · have e : bop (-8 - c) a b = clampE (a + b) := by unfold bop; rw [if_pos (by omega)]
    rw [am_W_id (by omega) (by omega)] at hy
    exact k_comb161 hs hw (by rw [hy, ← e]; exact H)
  · have e : bop (-8 - c) a b = if a ≠ 0 ∨ b ≠ 0 then 1 else 0 := by unfold bop; rw [if_neg (by omega), if_neg (by omega), if_neg (by omega), if_neg (by omega), if_neg (by omega), if_neg (by omega), if_neg (by omega)]
    rw [e] at H
    refine ⟨fun q1 => ?_, fun q1 => ⟨fun q2 => ?_, fun q2 => ?_⟩⟩
    · rw [if_pos (by omega)] at H
      exact w_Stage_combined_154 hs hw (k_comb161 hs hw (by rw [c1]; exact H))
    · rw [if_neg (by omega)] at H
      exact k_comb161 hs hw (by rw [c0]; exact H)
    · rw [if_pos (by omega)] at H
      exact w_Stage_combined_154 hs hw (k_comb161 hs hw (by rw [c1]; exact H))
theorem k_tell_7 (hs : am_sc scr) {l n : Nat} {c env : Nat → Int} {v : Int} (hl : l ≠ 15 ∧ l ≠ 14) (hn : n ≤ 900) (he : wdB env) : ∀ (m k i : Nat) (s : List Int) (h : am_H), wf h → h.2.2.1 l = (1, n) → h.2.2.2 l = c → (∀ j, j < 7 → h.2.2.2 14 j = env j) → i ≤ k → k ≤ n → stOK (h.2.2.2 15) s → s.length ≤ 64 → (∀ x ∈ s, wb x) → runC env c n m k s = some v → (∀ g, wf g → fr [15] [] h g → Q (some (.inl (v))) g) → am_R (am_prog scr) (d + 1) f_Stage_tell 7 [some (.inr (.inr ((9 : Nat) : Int))), some (.inr (.inr ((l : Nat) : Int))), some (.inl ((s.length : Int))), some (.inl ((k : Int))), some (.inl ((i : Int))), none, none] [] h Q := by
  intro m
  have ex : ∀ (k i : Nat) (s : List Int) (h : am_H), wf h → h.2.2.1 l = (1, n) → n ≤ k → stOK (h.2.2.2 15) s → one s = some v → (∀ g, wf g → fr [15] [] h g → Q (some (.inl (v))) g) → am_R (am_prog scr) (d + 1) f_Stage_tell 7 [some (.inr (.inr ((9 : Nat) : Int))), some (.inr (.inr ((l : Nat) : Int))), some (.inl ((s.length : Int))), some (.inl ((k : Int))), some (.inl ((i : Int))), none, none] [] h Q := by
    intro k i s h hw hk q st ho H
    have hk2 : (h.2.2.1 ((l : Nat) : Int).toNat) = (1, n) := by rw [Int.toNat_natCast]; exact hk
    have := one_inv ho
    subst this
    have e : h.2.2.2 15 0 = v := st.1
    have leaf : ((((([v] : List Int).length : Nat) : Int) ≤ 0 → (Q (some (.inl 0)) h)) ∧ (¬ (((([v] : List Int).length : Nat) : Int) ≤ 0) → ((0 ≤ (am_w (((([v] : List Int).length : Nat) : Int) - 1)) ∧ (am_w (((([v] : List Int).length : Nat) : Int) - 1)) < 64) ∧ (Q (some (.inl (h.2.2.2 15 ((am_w (((([v] : List Int).length : Nat) : Int) - 1)).toNat)))) h)))) := by
      refine ⟨fun q => by simp at q, fun _ => ?_⟩
      rw [show (((([v] : List Int).length : Nat) : Int) - 1) = 0 by simp, am_w_id (by omega) (by omega)]
      refine ⟨by omega, ?_⟩
      rw [show ((0 : Int).toNat) = 0 by rfl, e]
      exact H h hw fr.rfl
    refine w_Stage_tell_7 hs hw ?_
    rw [hk2]
    refine ⟨by simp; omega, fun _ => leaf, fun _ => ⟨by simp; omega, fun _ => leaf, fun c2 => ?_⟩⟩
    exfalso
    simp at c2
    omega
  induction m with
  | zero =>
    intro k i s h hw hk hc h7 b1 b2 st sl sb hr H
    simp only [runC] at hr
    split at hr
    · exact ex k i s h hw hk (by assumption) st hr H
    · simp at hr
  | succ m ih =>
    intro k i s h hw hk hc h7 b1 b2 st sl sb hr H
    simp only [runC] at hr
    split at hr
    · exact ex k i s h hw hk (by assumption) st hr H
    · rename_i q
      split at hr
      · rename_i k' t hst
        have inv := stepC_inv hst
        clear hst
        have hk2 : (h.2.2.1 ((l : Nat) : Int).toNat) = (1, n) := by rw [Int.toNat_natCast]; exact hk
        have hcc : h.2.2.2 ((l : Nat) : Int).toNat = c := by rw [Int.toNat_natCast]; exact hc
        have cont : ∀ (g : am_H) (x y z : Int), x = (t.length : Int) → y = (k' : Int) → z = am_w ((i : Int) + 1) → k < k' → k' ≤ n → wf g → fr [15] [] h g → stOK (g.2.2.2 15) t → t.length ≤ 64 → (∀ x ∈ t, wb x) → am_R (am_prog scr) (d + 1) f_Stage_tell 7 [some (.inr (.inr ((9 : Nat) : Int))), some (.inr (.inr ((l : Nat) : Int))), some (.inl (x)), some (.inl (y)), some (.inl (z)), none, none] [] g Q := by
          intro g x y z hx hy hz c1 c2 wg fg st2 tl tb
          rw [am_w_id (by omega) (by omega)] at hz
          subst hx hy hz
          exact ih k' (i + 1) t g wg (by rw [fg.2.2.1]; exact hk) (by rw [fg.c l (by simp; omega) (by simp)]; exact hc) (fun j hj => by rw [fg.c 14 (by decide) (by simp)]; exact h7 j hj) (by omega) c2 st2 tl tb hr (fun g2 w2 f2 => H g2 w2 (fg.trans f2))
        have wp : ∀ (j : Nat) (x : Int), wf (am_put h 15 j x) := fun j x => hw.pa (by decide +kernel)
        have fp : ∀ (j : Nat) (x : Int), fr [15] [] h (am_put h 15 j x) := fun j x => fr.rfl.put (Or.inl (by decide))
        clear ih
        refine w_Stage_tell_7 hs hw ?_
        rw [hk2]
        refine ⟨by simp; omega, fun c1 => ?_, fun c1 => ⟨by simp; omega, fun c2 => ?_, fun c2 => ⟨⟨by omega, by rw [hk2], by omega, by rw [hk2]; simp; omega⟩, fun y hy => ?_⟩⟩⟩
        · exfalso; simp at c1; omega
        · exfalso; simp at c2; omega
        · rw [hcc, Int.toNat_natCast] at hy
          rcases inv with ⟨i1, i2, i3, i4, i5⟩ | ⟨i1, i2, i3, i4, i5, i6⟩ | ⟨i1, qv, i2, i3, i4, i5, i6⟩ | ⟨i1, i2, a, u, i3, i4, i5⟩ | ⟨i1, i2, i3, i4, b, a, u, i5, i6⟩
          · refine ⟨fun c3 => by omega, fun _ => ⟨fun c4 => by omega, fun _ => ⟨fun c5 => ?_, fun c5 => ?_⟩⟩⟩
            · rw [if_neg (by omega)] at i5
              rw [am_w_id (by omega) (by omega)]
              refine ⟨by omega, by omega, fun g hg x hx y2 hy2 z hz => ?_⟩
              rw [am_w_id (by omega) (by omega)] at hx hy2
              subst hg
              rw [hy, h7 _ (by omega), Int.toNat_natCast]
              refine cont _ x y2 z (by rw [i5]; simpa using hx) (by rw [i4]; simpa using hy2) hz (by omega) (by omega) (wp _ _) (fp _ _) ?_ (by rw [i5]; simp; omega) ?_
              · rw [i5]; exact ⟨put_eq, st.congr (fun j hj => put_ne (by omega))⟩
              · intro x hx
                rw [i5] at hx
                rcases List.mem_cons.mp hx with rfl | hx
                · exact he _ (by omega)
                · exact sb x hx
            · rw [if_pos (by omega)] at i5
              refine ⟨by omega, fun g hg x hx y2 hy2 z hz => ?_⟩
              rw [am_w_id (by omega) (by omega)] at hx hy2
              subst hg
              rw [hy, Int.toNat_natCast]
              refine cont _ x y2 z (by rw [i5]; simpa using hx) (by rw [i4]; simpa using hy2) hz (by omega) (by omega) (wp _ _) (fp _ _) ?_ (by rw [i5]; simp; omega) ?_
              · rw [i5]; exact ⟨put_eq, st.congr (fun j hj => put_ne (by omega))⟩
              · intro x hx
                rw [i5] at hx
                rcases List.mem_cons.mp hx with rfl | hx
                · unfold wb; omega
                · exact sb x hx
          · refine ⟨fun _ => ⟨fun _ => ?_, fun c4 => by omega⟩, fun c3 => by omega⟩
            refine w_Stage_tell_89 hs hw ⟨fun c5 => by omega, fun _ => ⟨fun _ => ?_, fun c6 => by omega⟩⟩
            refine w_Stage_tell_131 hs hw ⟨fun c7 => by omega, fun _ => ?_⟩
            rw [hk2, am_w_id (x := (k : Int) + 1) (by omega) (by omega)]
            refine ⟨by simp; omega, fun c8 => ?_, fun c8 => ⟨⟨by omega, by rw [hk2], by omega, by rw [hk2]; simp; omega⟩, fun y2 hy2 z hz => ?_⟩⟩
            · exfalso; simp at c8; omega
            · rw [hcc, show ((k : Int) + 1).toNat = k + 1 by omega] at hy2
              refine cont h _ y2 z (by rw [i6]) (by omega) hz (by omega) (by omega) hw fr.rfl (by rw [i6]; exact st) (by rw [i6]; exact sl) (by rw [i6]; exact sb)
          · subst i2
            obtain ⟨s1, s2⟩ := st
            simp only [List.length_cons, Int.natCast_add, Int.natCast_one] at sl ⊢
            refine ⟨fun _ => ⟨fun c4 => by omega, fun _ => ⟨fun c5 => by omega, fun _ => ?_⟩⟩, fun c3 => by omega⟩
            have sk : ∀ x6 : Int, (x6 = 0 ↔ ¬ qv = 0) → am_R (am_prog scr) (d + 1) f_Stage_tell 131 [some (.inr (.inr ((9 : Nat) : Int))), some (.inr (.inr ((l : Nat) : Int))), some (.inl ((t.length : Int))), some (.inl ((k : Int))), some (.inl ((i : Int))), some (.inl (y)), some (.inl (x6))] [] h Q := by
              intro x6 hx6
              refine w_Stage_tell_131 hs hw ⟨fun c7 y2 hy2 z hz => ?_, fun c7 => ?_⟩
              · rw [am_w_id (by omega) (by omega)] at hy2
                rw [if_neg (by omega)] at i6
                exact cont h _ y2 z rfl (by omega) hz (by omega) (by omega) hw fr.rfl s2 (by omega) (fun x hx => sb x (by simp [hx]))
              · rw [if_pos (by omega)] at i6
                rw [hk2, am_w_id (x := (k : Int) + 1) (by omega) (by omega)]
                refine ⟨by simp; omega, fun c8 => ?_, fun c8 => ⟨⟨by omega, by rw [hk2], by omega, by rw [hk2]; simp; omega⟩, fun y2 hy2 z hz => ?_⟩⟩
                · exfalso; simp at c8; omega
                · rw [hcc, show ((k : Int) + 1).toNat = k + 1 by omega] at hy2
                  exact cont h _ y2 z rfl (by omega) hz (by omega) (by omega) hw fr.rfl s2 (by omega) (fun x hx => sb x (by simp [hx]))
            refine w_Stage_tell_89 hs hw ⟨fun _ => ⟨fun c6 => absurd rfl c6, fun _ => ⟨fun c7 => by omega, fun _ => fun y2 hy2 => ?_⟩⟩, fun c5 => by omega⟩
            rw [am_w_id (by omega) (by omega)] at hy2
            obtain rfl : y2 = (t.length : Int) := by omega
            rw [Int.toNat_natCast, s1]
            exact ⟨by omega, fun c8 => sk 0 (by simp [c8]), fun c8 => sk 1 (by simp [c8])⟩
          · subst i3
            obtain ⟨s1, s2⟩ := st
            simp only [List.length_cons, Int.natCast_add, Int.natCast_one] at sl ⊢
            refine ⟨fun _ => ⟨fun c4 => by omega, fun _ => ⟨fun _ => ⟨fun c6 => by omega, fun _ => ⟨fun c7 => by omega, fun _ => ?_⟩⟩, fun c5 => by omega⟩⟩, fun c3 => by omega⟩
            rw [am_w_id (x := (u.length : Int) + 1 - 1) (by omega) (by omega), show ((u.length : Int) + 1 - 1).toNat = u.length by omega, s1, am_w_id (x := 1 - a) (by omega) (by omega)]
            refine ⟨by omega, by omega, fun g hg y2 hy2 z hz => ?_⟩
            rw [am_w_id (by omega) (by omega)] at hy2
            subst hg
            refine cont _ _ y2 z (by rw [i5]; simp) (by omega) hz (by omega) (by omega) (wp _ _) (fp _ _) ?_ (by rw [i5]; simp; omega) ?_
            · rw [i5]; exact ⟨put_eq, s2.congr (fun j hj => put_ne (by omega))⟩
            · intro x hx
              rw [i5] at hx
              rcases List.mem_cons.mp hx with rfl | hx
              · unfold wb; omega
              · exact sb x (by simp [hx])
          · subst i5
            obtain ⟨s1, s2, s3⟩ := st
            simp only [List.length_cons, Int.natCast_add, Int.natCast_one] at sl s1 ⊢
            refine ⟨fun _ => ⟨fun c4 => by omega, fun _ => ⟨fun _ => ⟨fun _ => ?_, fun c6 => by omega⟩, fun c5 => by omega⟩⟩, fun c3 => by omega⟩
            refine w_Stage_tell_191 hs hw ⟨fun c7 => by omega, fun _ => fun y3 hy3 => ?_⟩
            rw [am_w_id (by omega) (by omega)] at hy3
            obtain rfl : y3 = (u.length : Int) + 1 := by omega
            rw [am_w_id (x := (u.length : Int) + 1 - 1) (by omega) (by omega), show ((u.length : Int) + 1 - 1).toNat = u.length by omega, show ((u.length : Int) + 1).toNat = u.length + 1 by omega, s1, s2]
            refine ⟨by omega, by omega, ?_⟩
            refine k_combined hs hw (by omega) (sb a (by simp)) (sb b (by simp)) ⟨_, rfl, hw, by omega, fun g hg y2 hy2 z hz => ?_⟩
            rw [am_w_id (by omega) (by omega)] at hy2
            subst hg
            refine cont _ _ y2 z (by rw [i6]; simp) (by omega) hz (by omega) (by omega) (wp _ _) (fp _ _) ?_ (by rw [i6]; simp; omega) ?_
            · rw [i6, hy]; exact ⟨put_eq, s3.congr (fun j hj => put_ne (by omega))⟩
            · intro x hx
              rw [i6] at hx
              rcases List.mem_cons.mp hx with rfl | hx
              · exact bop_b _ _ _
              · exact sb x (by simp [hx])
      · simp at hr
/-- a row of the class's codes says this -/
def lawC (c : Nat → Int) (n : Nat) (F : (Nat → Int) → Int) : Prop := n ≤ 900 ∧ ∀ env, wdB env → wb (F env) ∧ runC env c n n 0 [] = some (F env)
theorem k_tell (hs : am_sc scr) (hw : wf h) {l n : Nat} {env : Nat → Int} {F : (Nat → Int) → Int} (hl : l ≠ 15 ∧ l ≠ 14) (hk : h.2.2.1 l = (1, n)) (hF : lawC (h.2.2.2 l) n F) (he : wdB env) (h7 : ∀ j, j < 7 → h.2.2.2 14 j = env j) (H : ∀ g, wf g → fr [15] [] h g → Q (some (.inl (F env))) g) : am_R (am_prog scr) (d + 1) f_Stage_tell 0 [some (.inr (.inr ((9 : Nat) : Int))), some (.inr (.inr ((l : Nat) : Int))), none, none, none, none, none] [] h Q := by
  refine w_Stage_tell_0 hs hw ?_
  exact k_tell_7 hs hl hF.1 he n 0 0 [] h hw hk rfl h7 (by omega) (by omega) trivial (by simp) (by simp) (hF.2 env he).2 H
end TL
