/-! laws as they are read say what they say -/
section PH
variable {T : Nat → Int} {N nd p a : Nat}
theorem dgF_d : ∀ (m p k : Nat), p ≤ k → k < dgF T N m p → 48 ≤ T k ∧ T k ≤ 57 := by
  intro m
  induction m with
  | zero => intro p k h1 h2; simp only [dgF] at h2; omega
  | succ m ih =>
    intro p k h1 h2
    simp only [dgF] at h2
    by_cases q : p < N ∧ (48 ≤ T p ∧ T p ≤ 57)
    · rw [if_pos q] at h2
      rcases Nat.lt_or_ge p k with l | l
      · exact ih (p + 1) k l h2
      · obtain rfl : k = p := by omega
        exact q.2
    · rw [if_neg q] at h2; omega
/-- a number of three digits at most -/
theorem tkN_b {n0 : Int} (t : ∀ k, 0 ≤ T k ∧ T k < 256) (h : tkK T N p = 25) : (0 ≤ tkN T N p n0 ∧ tkN T N p n0 < 1000) ∧ tkN T N p n0 = tkN T N p 0 := by
  have kl : ∀ e, kyF T (tkS T N p) e 24 0 ≤ 24 := fun e => (kyF_le (T := T) (s := tkS T N p) (e := e) 24 0 (by omega)).1
  unfold tkK at h
  by_cases q : tkS T N p < N
  · rw [if_pos q] at h
    by_cases c1 : 97 ≤ T (tkS T N p) ∧ T (tkS T N p) ≤ 122
    · rw [if_pos c1] at h
      have := kl (tkE T N p)
      omega
    · rw [if_neg c1] at h
      by_cases c2 : 48 ≤ T (tkS T N p) ∧ T (tkS T N p) ≤ 57
      · rw [if_pos c2] at h
        have e3 : tkE T N p ≤ tkS T N p + 3 := by
          rcases Nat.lt_or_ge (tkS T N p + 3) (tkE T N p) with l | l
          · rw [if_neg (by omega)] at h; omega
          · exact l
        have eE : tkE T N p = dgF T N 900 (tkS T N p) := by unfold tkE; rw [if_pos q, if_neg c1, if_pos c2]
        unfold tkN
        rw [if_pos ⟨q, c1, c2⟩, if_pos ⟨q, c1, c2⟩]
        refine ⟨?_, rfl⟩
        generalize hn : tkE T N p - tkS T N p = n
        have dg : ∀ k, k < n → 48 ≤ T (tkS T N p + k) ∧ T (tkS T N p + k) ≤ 57 := fun k hk => dgF_d (N := N) 900 (tkS T N p) _ (by omega) (by omega)
        generalize tkS T N p = s at *
        have e1 : dvF T s 1 = 10 * 0 + T (s + 0) - 48 := rfl
        have e2 : dvF T s 2 = 10 * dvF T s 1 + T (s + 1) - 48 := rfl
        have e3 : dvF T s 3 = 10 * dvF T s 2 + T (s + 2) - 48 := rfl
        have e0 : dvF T s 0 = 0 := rfl
        rcases (by omega : n = 0 ∨ n = 1 ∨ n = 2 ∨ n = 3) with rfl | rfl | rfl | rfl
        · omega
        · have := dg 0 (by omega); omega
        · have := dg 0 (by omega); have := dg 1 (by omega); omega
        · have := dg 0 (by omega); have := dg 1 (by omega); have := dg 2 (by omega); omega
      · rw [if_neg c2] at h
        obtain ⟨c, hc⟩ : ∃ c : Nat, T (tkS T N p) = (c : Int) := ⟨(T (tkS T N p)).toNat, by have := t (tkS T N p); omega⟩
        have su := (sg_u c (by have := t (tkS T N p); omega)).1
        rw [← hc] at su
        omega
  · rw [if_neg q] at h
    omega
theorem wdO_b (k : Int) : wdO k = -1 ∨ (0 ≤ wdO k ∧ wdO k < 7 ∧ k ≠ 26) := by
  unfold wdO
  repeat' split
  all_goals omega
def inG (N : Nat) (I : Option (Nat → Nat → PR)) (a : Nat) : Prop := 1 ≤ a ∧ ∀ J, I = some J → 6 ≤ a ∧ ∀ m p z, p ≤ N → J m p = .inr z → gdX N (if m = 0 then a - 3 else if m = 1 then a - 2 else a) (decide (m ≠ 0)) p z
theorem atF_gd {I : Option (Nat → Nat → PR)} (t : ∀ k, 0 ≤ T k ∧ T k < 256) (hI : inG N I a) {p : Nat} {z : PX} (hp : p ≤ N) (h : atF T N I p = .inr z) : gdX N a false p z := by
  unfold atF at h
  by_cases c1 : tkK T N p = 25
  · rw [if_pos c1] at h
    simp only [Sum.inr.injEq] at h
    subst h
    have g := tk_gt hp (show tkK T N p ≠ 26 by omega)
    have nb := tkN_b (n0 := 0) t c1
    refine ⟨g.1, g.2, by simp only; omega, by simp only [List.length_singleton]; omega, fun env he => ⟨by simp only; unfold wb; omega, fun z => by simp at z, fun rest s => ?_, fun c n b s v h1 h2 h3 h4 => ?_⟩⟩
    · simp only [List.cons_append, List.nil_append, runR, stepR]
      rw [if_pos (by omega), if_pos (by omega), if_pos nb.1.1]
    · simp only at h1 h2 h4 ⊢
      have cc := h1 b (by omega) (by omega)
      refine okC.step (by omega) (by omega) ?_ h4
      simp only [stepC, cc]
      have := hI.1
      rw [if_pos (by omega), if_pos ⟨by omega, by omega⟩, if_pos nb.1.1]
  · rw [if_neg c1] at h
    by_cases c2 : wdO (tkK T N p) ≠ -1
    · rw [if_pos c2] at h
      simp only [Sum.inr.injEq] at h
      subst h
      have w := wdO_b (tkK T N p)
      generalize wdO (tkK T N p) = w0 at *
      have g := tk_gt hp (show tkK T N p ≠ 26 by omega)
      refine ⟨g.1, g.2, by simp only; omega, by simp only [List.length_singleton]; omega, fun env he => ⟨by simp only; exact he _ (by omega), fun z => by simp at z, fun rest s => ?_, fun c n b s v h1 h2 h3 h4 => ?_⟩⟩
      · simp only [List.cons_append, List.nil_append, runR, stepR]
        rw [if_pos (by omega), if_neg (by omega), if_pos (by omega), show 1000 + w0 - 1000 = w0 by omega]
      · simp only at h1 h2 h4 ⊢
        have cc := h1 b (by omega) (by omega)
        refine okC.step (by omega) (by omega) ?_ h4
        simp only [stepC, cc]
        have := hI.1
        rw [if_pos (by omega), if_pos ⟨by omega, by omega⟩, if_neg (by omega), show -1 - (-1 - w0) = w0 by omega]
    · rw [if_neg c2] at h
      by_cases c3 : tkK T N p = 35
      · rw [if_pos c3] at h
        cases I with
        | none => simp [pF] at h
        | some J =>
          simp only at h
          obtain ⟨x, hx, h⟩ := pB_inr h
          obtain ⟨hk, rfl⟩ := pW_inr h
          have g := tk_gt hp (show tkK T N p ≠ 26 by omega)
          have gx := (hI.2 J rfl).2 0 _ x g.2 hx
          exact (gx.need (nd2 := a) (by simp only [if_pos]; omega)).num.on (by omega) (by omega)
      · rw [if_neg c3] at h
        by_cases c4 : tkK T N p = 13
        · rw [if_pos c4] at h
          cases I with
          | none => simp [pF] at h
          | some J =>
            simp only at h
            have g := tk_gt hp (show tkK T N p ≠ 26 by omega)
            obtain ⟨x, hx, h⟩ := pB_inr h
            have gt := (hI.2 J rfl).2 2 _ x g.2 hx
            obtain ⟨x2, hx2, h⟩ := pB_inr h
            obtain ⟨k2, rfl⟩ := pW_inr hx2
            have g2 := tk_gt gt.2.1 (show tkK T N x.1 ≠ 26 by omega)
            obtain ⟨y, hy, h⟩ := pB_inr h
            have gy := (hI.2 J rfl).2 0 _ y g2.2 hy
            obtain ⟨y2, hy2, h⟩ := pB_inr h
            obtain ⟨k3, rfl⟩ := pW_inr hy2
            have g3 := tk_gt gy.2.1 (show tkK T N y.1 ≠ 26 by omega)
            obtain ⟨u, hu, h⟩ := pB_inr h
            have gu := (hI.2 J rfl).2 0 _ u g3.2 hu
            obtain ⟨u2, hu2, h⟩ := pB_inr h
            obtain ⟨k4, rfl⟩ := pW_inr hu2
            have g4 := tk_gt gu.2.1 (show tkK T N u.1 ≠ 26 by omega)
            simp only [Sum.inr.injEq] at h
            subst h
            simp only [if_pos, if_neg (show ¬ (2 = 0) by omega), if_neg (show ¬ (2 = 1) by omega)] at gt gy gu
            exact gdX.if_ (p1 := tkE T N p) (p2 := tkE T N x.1) (p3 := tkE T N y.1) (nd2 := a - 3) gt gy gu g.1 g2.1 g3.1 g4.1 g4.2 (by omega)
        · rw [if_neg c4] at h
          simp [pF] at h
theorem binL_gd {A : Nat → PR} {op : Int → Int} {na : Nat} {tv : Bool} (hA : ∀ p z, p ≤ N → A p = .inr z → gdX N na tv p z) (hop : ∀ k, op k ≠ -1 → (0 ≤ op k ∧ op k ≤ 8 ∧ op k ≠ 6) ∧ k ≠ 26 ∧ (7 ≤ op k → tv = true) ∧ decide (3 ≤ op k) = tv) (hn : na + 1 ≤ nd) : ∀ (m : Nat) (x z : PX), gdX N nd tv p x → binL T N A op m x = .inr z → gdX N nd tv p z := by
  intro m
  induction m with
  | zero => intro x z gx h; simp only [binL, Sum.inr.injEq] at h; rw [← h]; exact gx
  | succ m ih =>
    intro x z gx h
    simp only [binL] at h
    by_cases q : op (tkK T N x.1) = -1
    · rw [if_pos q] at h
      simp only [Sum.inr.injEq] at h; rw [← h]; exact gx
    · rw [if_neg q] at h
      obtain ⟨y, hy, h⟩ := pB_inr h
      obtain ⟨o1, o2, o3, o4⟩ := hop _ q
      have g := tk_gt gx.2.1 o2
      have gy := hA _ y g.2 hy
      refine ih _ z ?_ h
      have := gx.bin gy g.1 hn o1 (fun z => ⟨o3 z, o3 z⟩)
      rw [o4] at this
      exact this
theorem opS_b (k : Int) (h : opS k ≠ -1) : (0 ≤ opS k ∧ opS k ≤ 8 ∧ opS k ≠ 6) ∧ k ≠ 26 ∧ (7 ≤ opS k → false = true) ∧ decide (3 ≤ opS k) = false := by
  unfold opS at *
  split at h
  · rename_i c; subst c; decide
  · exact absurd rfl h
theorem opA_b (k : Int) (h : opA k ≠ -1) : (0 ≤ opA k ∧ opA k ≤ 8 ∧ opA k ≠ 6) ∧ k ≠ 26 ∧ (7 ≤ opA k → false = true) ∧ decide (3 ≤ opA k) = false := by
  unfold opA at *
  split at h
  · rename_i c; subst c; decide
  · split at h
    · rename_i c; subst c; decide
    · exact absurd rfl h
theorem opN_b (k : Int) (h : opN k ≠ -1) : (0 ≤ opN k ∧ opN k ≤ 8 ∧ opN k ≠ 6) ∧ k ≠ 26 ∧ (7 ≤ opN k → true = true) ∧ decide (3 ≤ opN k) = true := by
  unfold opN at *
  split at h
  · rename_i c; subst c; decide
  · exact absurd rfl h
theorem opO_b (k : Int) (h : opO k ≠ -1) : (0 ≤ opO k ∧ opO k ≤ 8 ∧ opO k ≠ 6) ∧ k ≠ 26 ∧ (7 ≤ opO k → true = true) ∧ decide (3 ≤ opO k) = true := by
  unfold opO at *
  split at h
  · rename_i c; subst c; decide
  · exact absurd rfl h
theorem opC_b (k : Int) (h : opC k ≠ -1) : (3 ≤ opC k ∧ opC k ≤ 5) ∧ k ≠ 26 := by
  unfold opC at *
  split at h
  · rename_i c; subst c; decide
  · split at h
    · rename_i c; subst c; decide
    · split at h
      · rename_i c; subst c; decide
      · exact absurd rfl h
theorem teF_gd {I : Option (Nat → Nat → PR)} (t : ∀ k, 0 ≤ T k ∧ T k < 256) (hI : inG N I a) {p : Nat} {z : PX} (hp : p ≤ N) (h : teF T N I p = .inr z) : gdX N (a + 1) false p z := by
  obtain ⟨x, hx, h⟩ := pB_inr h
  exact binL_gd (fun p z hp h => atF_gd t hI hp h) opS_b (by omega) 900 x z ((atF_gd t hI hp hx).need (by omega)) h
theorem suF_gd {I : Option (Nat → Nat → PR)} (t : ∀ k, 0 ≤ T k ∧ T k < 256) (hI : inG N I a) {p : Nat} {z : PX} (hp : p ≤ N) (h : suF T N I p = .inr z) : gdX N (a + 2) false p z := by
  obtain ⟨x, hx, h⟩ := pB_inr h
  exact binL_gd (fun p z hp h => teF_gd t hI hp h) opA_b (by omega) 900 x z ((teF_gd t hI hp hx).need (by omega)) h
theorem unF_gd {I : Option (Nat → Nat → PR)} (t : ∀ k, 0 ≤ T k ∧ T k < 256) (hI : inG N I a) {p : Nat} {z : PX} (hp : p ≤ N) (h : unF T N I p = .inr z) : gdX N (a + 3) true p z := by
  unfold unF at h
  by_cases c1 : tkK T N p = 23
  · rw [if_pos c1] at h
    cases I with
    | none => simp [pF] at h
    | some J =>
      simp only at h
      obtain ⟨x, hx, h⟩ := pB_inr h
      simp only [Sum.inr.injEq] at h
      subst h
      have g := tk_gt hp (show tkK T N p ≠ 26 by omega)
      have gx := (hI.2 J rfl).2 1 _ x g.2 hx
      have h6 := (hI.2 J rfl).1
      simp only [if_pos, if_neg (show ¬ (1 = 0) by omega)] at gx
      exact (gx.need (nd2 := a + 3) (by omega)).not g.1 (by omega)
  · rw [if_neg c1] at h
    by_cases c2 : tkK T N p = 37
    · rw [if_pos c2] at h
      cases I with
      | none => simp [pF] at h
      | some J =>
        simp only at h
        obtain ⟨x, hx, h⟩ := pB_inr h
        obtain ⟨hk, rfl⟩ := pW_inr h
        have g := tk_gt hp (show tkK T N p ≠ 26 by omega)
        have gx := (hI.2 J rfl).2 2 _ x g.2 hx
        simp only [if_neg (show ¬ (2 = 0) by omega), if_neg (show ¬ (2 = 1) by omega)] at gx
        exact (gx.need (nd2 := a + 3) (by omega)).on (by omega) (by omega)
    · rw [if_neg c2] at h
      obtain ⟨x, hx, h⟩ := pB_inr h
      have gx := suF_gd t hI hp hx
      by_cases q : opC (tkK T N x.1) = -1
      · rw [if_pos q] at h; simp [pF] at h
      · rw [if_neg q] at h
        obtain ⟨y, hy, h⟩ := pB_inr h
        simp only [Sum.inr.injEq] at h
        subst h
        obtain ⟨o1, o2⟩ := opC_b _ q
        have g := tk_gt gx.2.1 o2
        have gy := suF_gd t hI g.2 hy
        have := (gx.need (nd2 := a + 3) (by omega)).bin gy g.1 (by omega) (op := opC (tkK T N x.1)) (by omega) (fun z => by omega)
        rw [decide_eq_true (by omega)] at this
        exact this
theorem boF_gd {I : Option (Nat → Nat → PR)} (t : ∀ k, 0 ≤ T k ∧ T k < 256) (hI : inG N I a) {p : Nat} {z : PX} (hp : p ≤ N) (h : boF T N I p = .inr z) : gdX N (a + 4) true p z := by
  obtain ⟨x, hx, h⟩ := pB_inr h
  exact binL_gd (fun p z hp h => unF_gd t hI hp h) opN_b (by omega) 900 x z ((unF_gd t hI hp hx).need (by omega)) h
theorem trF_gd {I : Option (Nat → Nat → PR)} (t : ∀ k, 0 ≤ T k ∧ T k < 256) (hI : inG N I a) {p : Nat} {z : PX} (hp : p ≤ N) (h : trF T N I p = .inr z) : gdX N (a + 5) true p z := by
  obtain ⟨x, hx, h⟩ := pB_inr h
  exact binL_gd (fun p z hp h => boF_gd t hI hp h) opO_b (by omega) 900 x z ((boF_gd t hI hp hx).need (by omega)) h
theorem mdF_gd {I : Option (Nat → Nat → PR)} (t : ∀ k, 0 ≤ T k ∧ T k < 256) (hI : inG N I a) : ∀ (m p : Nat) (z : PX), p ≤ N → mdF T N I m p = .inr z → gdX N (if m = 0 then a + 5 - 3 else if m = 1 then a + 5 - 2 else a + 5) (decide (m ≠ 0)) p z := by
  intro m p z hp h
  unfold mdF at h
  by_cases c0 : m = 0
  · rw [if_pos c0] at h
    rw [if_pos c0, decide_eq_false (by omega)]
    exact suF_gd t hI hp h
  · rw [if_neg c0] at h
    rw [if_neg c0, decide_eq_true (by omega)]
    by_cases c1 : m = 1
    · rw [if_pos c1] at h
      rw [if_pos c1]
      exact unF_gd t hI hp h
    · rw [if_neg c1] at h
      rw [if_neg c1]
      exact trF_gd t hI hp h
def lvJ (T : Nat → Int) (N : Nat) : Nat → Option (Nat → Nat → PR)
  | 0 => none
  | k + 1 => some (lvP T N k)
theorem lv_md (k : Nat) : lvP T N k = mdF T N (lvJ T N k) := by cases k <;> rfl
theorem lv_gd (t : ∀ k, 0 ≤ T k ∧ T k < 256) : ∀ k, inG N (lvJ T N k) (1 + 5 * k) := by
  intro k
  induction k with
  | zero => exact ⟨by omega, fun J h => by simp [lvJ] at h⟩
  | succ k ih =>
    refine ⟨by omega, fun J h => ⟨by omega, ?_⟩⟩
    simp only [lvJ, Option.some.injEq] at h
    subst h
    intro m p z hp hz
    rw [lv_md] at hz
    exact mdF_gd t ih m p z hp hz
/-- a law as it is read -/
def lawF (T : Nat → Int) (N p : Nat) : PR := suF T N (lvJ T N 6) p
theorem lawF_gd (t : ∀ k, 0 ≤ T k ∧ T k < 256) {p : Nat} {z : PX} (hp : p ≤ N) (h : lawF T N p = .inr z) : gdX N 33 false p z := suF_gd t (lv_gd t 6) hp h
end PH
