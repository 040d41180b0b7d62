/-! tokens: what is meant -/
def spF (T : Nat → Int) (N : Nat) : Nat → Nat → Nat
  | 0, p => p
  | m + 1, p => if p < N ∧ (T p = 10 ∨ T p = 32) then spF T N m (p + 1) else p
def wdF (T : Nat → Int) (N : Nat) : Nat → Nat → Nat
  | 0, p => p
  | m + 1, p => if p < N ∧ (97 ≤ T p ∧ T p ≤ 122) then wdF T N m (p + 1) else p
def dgF (T : Nat → Int) (N : Nat) : Nat → Nat → Nat
  | 0, p => p
  | m + 1, p => if p < N ∧ (48 ≤ T p ∧ T p ≤ 57) then dgF T N m (p + 1) else p
/-- the number that the first digits from s say -/
def dvF (T : Nat → Int) (s : Nat) : Nat → Int
  | 0 => 0
  | k + 1 => if k < 3 then 10 * dvF T s k + T (s + k) - 48 else dvF T s k
/-- words of the language: where each begins in text 37, how long it is -/
def kwP (i : Nat) : Nat := [1, 7, 12, 19, 24, 32, 36, 42, 48, 54, 60, 65, 73, 78, 81, 86, 91, 95, 99, 104, 108, 112, 116, 119, 123].getD i 0
def kwN (i : Nat) : Nat := kwP (i + 1) - kwP i - 1
theorem kw_t : (txL 37).length = 123 ∧ ∀ i, i < 24 → (kwP i + kwN i < 123 ∧ kwP (i + 1) = kwP i + kwN i + 1 ∧ (txL 37).getD (kwP i + kwN i) 0 = 32 ∧ ∀ k, k < kwN i → (txL 37).getD (kwP i + k) 0 ≠ 32) := by decide +kernel
theorem sg_t : (txL 38).length = 12 ∧ (txL 0) = txL 38 := by decide +kernel
section TK
variable {T : Nat → Int} {N : Nat}
theorem spF_b : ∀ (m p : Nat), p ≤ spF T N m p ∧ (p ≤ N → spF T N m p ≤ N) ∧ (N ≤ p + m → ¬ (spF T N m p < N ∧ (T (spF T N m p) = 10 ∨ T (spF T N m p) = 32))) := by
  intro m
  induction m with
  | zero => intro p; simp only [spF]; exact ⟨Nat.le_refl _, fun h => h, fun h => by omega⟩
  | succ m ih =>
    intro p
    simp only [spF]
    by_cases q : p < N ∧ (T p = 10 ∨ T p = 32)
    · rw [if_pos q]
      have := ih (p + 1)
      exact ⟨by omega, fun _ => this.2.1 (by omega), fun h => this.2.2 (by omega)⟩
    · rw [if_neg q]; exact ⟨Nat.le_refl _, fun h => h, fun _ => q⟩
theorem dvF_b {s : Nat} (h : ∀ k, k < 3 → 0 ≤ T (s + k) ∧ T (s + k) < 256) : ∀ k, -6000 ≤ dvF T s k ∧ dvF T s k ≤ 30000 := by
  have h0 := h 0 (by omega)
  have h1 := h 1 (by omega)
  have h2 := h 2 (by omega)
  have e1 : dvF T s 1 = 10 * 0 + T (s + 0) - 48 := rfl
  have e2 : dvF T s 2 = 10 * dvF T s 1 + T (s + 1) - 48 := rfl
  have e3 : dvF T s 3 = 10 * dvF T s 2 + T (s + 2) - 48 := rfl
  intro k
  induction k with
  | zero => simp [dvF]
  | succ k ih =>
    by_cases q : k < 3
    · rcases (by omega : k = 0 ∨ k = 1 ∨ k = 2) with rfl | rfl | rfl
      · show -6000 ≤ dvF T s 1 ∧ dvF T s 1 ≤ 30000; omega
      · show -6000 ≤ dvF T s 2 ∧ dvF T s 2 ≤ 30000; omega
      · show -6000 ≤ dvF T s 3 ∧ dvF T s 3 ≤ 30000; omega
    · simp only [dvF]; rw [if_neg q]; exact ih
end TK
section TM
variable {scr : Nat × (Nat → Int)} {d : Nat} {h : am_H} {Q : Option am_V → am_H → Prop} {T : Nat → Int} {N : Nat}
/-- the reference's text -/
def teM (h : am_H) (T : Nat → Int) (N : Nat) : Prop := N ≤ 900 ∧ h.2.2.2 109 8 = (N : Int) ∧ (∀ k, k < N → h.2.2.2 112 k = T k) ∧ ∀ k, 0 ≤ T k ∧ T k < 256
theorem k_see {x : Int} (hs : am_sc scr) (hw : wf h) (t : teM h T N) (hx : 0 ≤ x) (H : Q (some (.inl (if x < (N : Int) then T x.toNat else -1))) h) : am_R (am_prog scr) d f_M_see 0 [some (.inr (.inr ((109 : Nat) : Int))), some (.inl (x))] [] h Q := by
  obtain ⟨t1, t2, t3, t4⟩ := t
  refine w_M_see_0 hs hw ?_
  rw [t2]
  refine ⟨fun c => ?_, fun c => ⟨by omega, ?_⟩⟩
  · rw [if_neg c] at H; exact H
  · rw [if_pos c] at H
    rw [t3 x.toNat (by omega)]
    exact H
theorem k_isSmall {x : Int} (hs : am_sc scr) (hw : wf h) (H : Q (some (.inl (if 97 ≤ x ∧ x ≤ 122 then 1 else 0))) h) : am_R (am_prog scr) d f_M_isSmall 0 [some (.inl (x))] [] h Q := by
  refine w_M_isSmall_0 hs hw ⟨fun c => ?_, fun c => ⟨fun c2 => ?_, fun c2 => ?_⟩⟩
  · rw [if_neg (by omega)] at H; exact H
  · rw [if_neg (by omega)] at H; exact H
  · rw [if_pos (by omega)] at H; exact H
theorem k_isDigit {x : Int} (hs : am_sc scr) (hw : wf h) (H : Q (some (.inl (if 48 ≤ x ∧ x ≤ 57 then 1 else 0))) h) : am_R (am_prog scr) d f_M_isDigit 0 [some (.inl (x))] [] h Q := by
  refine w_M_isDigit_0 hs hw ⟨fun c => ?_, fun c => ⟨fun c2 => ?_, fun c2 => ?_⟩⟩
  · rw [if_neg (by omega)] at H; exact H
  · rw [if_neg (by omega)] at H; exact H
  · rw [if_pos (by omega)] at H; exact H
end TM
