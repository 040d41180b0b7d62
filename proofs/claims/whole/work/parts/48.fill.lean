/-! loops that fill a part of a row -/
theorem cg (f : Nat → Int) {x y : Nat} (e : x = y) : f x = f y := by rw [e]
theorem down {n : Nat} {I R : Nat → am_H → Prop} (fin : ∀ g, I n g → R n g) (step : ∀ i g, i < n → I i g → (∀ g', I (i + 1) g' → R (i + 1) g') → R i g) : ∀ (m i : Nat) (g : am_H), i + m = n → I i g → R i g := by
  intro m
  induction m with
  | zero => intro i g hi hI; obtain rfl : i = n := by omega
            exact fin g hI
  | succ m ih => intro i g hi hI; exact step i g (by omega) hI (fun g' h' => ih (i + 1) g' (by omega) h')
/-- of cell c the places from lo on, i of them, have got val -/
def fillI (h : am_H) (c lo : Nat) (val : Nat → Int) (i : Nat) (g : am_H) : Prop := wf g ∧ fr [c] [] h g ∧ ∀ j, g.2.2.2 c j = if lo ≤ j ∧ j < lo + i then val j else h.2.2.2 c j
theorem fillI.zero {h : am_H} {c lo : Nat} {val : Nat → Int} (hw : wf h) : fillI h c lo val 0 h := ⟨hw, fr.rfl, fun j => by rw [if_neg (by omega)]⟩
theorem fillI.put {h g : am_H} {c lo i k : Nat} {val : Nat → Int} {x : Int} (hI : fillI h c lo val i g) (hc : c ∉ wr_o) (hk : k = lo + i) (hx : x = val (lo + i)) : fillI h c lo val (i + 1) (am_put g c k x) := by
  refine ⟨hI.1.pa hc, hI.2.1.put (Or.inl (by simp)), fun j => ?_⟩
  simp only [put_at, true_and]
  rw [hI.2.2 j, hk, hx]
  by_cases q1 : j = lo + i
  · rw [if_pos q1, if_pos (by omega), q1]
  · rw [if_neg q1]
    by_cases q2 : lo ≤ j ∧ j < lo + i
    · rw [if_pos q2, if_pos (by omega)]
    · rw [if_neg q2, if_neg (by omega)]
theorem fillI.other {h g : am_H} {c lo i : Nat} {val : Nat → Int} (hI : fillI h c lo val i g) (b : Nat) (hb : b ≠ c) : g.2.2.2 b = h.2.2.2 b := hI.2.1.c b (by simp [hb]) (by simp)
/-- the play of a row, as the reference keeps it: 18 numbers from place 12 on -/
def wasA (a : Nat → Int) (j : Nat) : Int := a (12 + j)
section FL
variable {scr : Nat × (Nat → Int)} {d : Nat} {h : am_H} {Q : Option am_V → am_H → Prop}
theorem k_stores (hs : am_sc scr) (hw : wf h) (H : ∀ g, wf g → fr [116] [] h g → (∀ j, j < 18 → g.2.2.2 116 j = h.2.2.2 110 (12 + j)) → Q none g) : am_R (am_prog scr) d f_M_stores 0 [some (.inr (.inr ((109 : Nat) : Int))), none] [] h Q := by
  refine w_M_stores_0 hs hw ?_
  refine down (n := 18) (I := fillI h 116 0 (fun j => h.2.2.2 110 (12 + j))) (R := fun i g => am_R (am_prog scr) d f_M_stores 2 [some (.inr (.inr ((109 : Nat) : Int))), some (.inl ((i : Int)))] [] g Q) ?_ ?_ 18 0 h rfl (fillI.zero hw)
  · intro g hI
    refine w_M_stores_2 hs hI.1 ⟨fun _ => H g hI.1 hI.2.1 (fun j hj => by rw [hI.2.2 j, if_pos (by omega)]), fun c => by omega⟩
  · intro i g hi hI k
    refine w_M_stores_2 hs hI.1 ⟨fun c => by omega, fun c => ?_⟩
    rw [am_w_id (by omega) (by omega)]
    refine ⟨by omega, by omega, fun g1 q1 y hy => ?_⟩
    rw [am_w_id (by omega) (by omega)] at hy
    subst hy
    refine k g1 ?_
    rw [q1]
    exact hI.put (by decide +kernel) (by omega) (by rw [hI.other 110 (by omega)]; exact cg _ (by omega))
theorem k_isAgain (hs : am_sc scr) (hw : wf h) (H : ∀ g, wf g → fr [110] [] h g → (∀ j, g.2.2.2 110 j = if 12 ≤ j ∧ j < 30 then h.2.2.2 116 (j - 12) else h.2.2.2 110 j) → Q none g) : am_R (am_prog scr) d f_M_isAgain 0 [some (.inr (.inr ((109 : Nat) : Int))), none] [] h Q := by
  refine w_M_isAgain_0 hs hw ?_
  refine down (n := 18) (I := fillI h 110 12 (fun j => h.2.2.2 116 (j - 12))) (R := fun i g => am_R (am_prog scr) d f_M_isAgain 2 [some (.inr (.inr ((109 : Nat) : Int))), some (.inl ((i : Int)))] [] g Q) ?_ ?_ 18 0 h rfl (fillI.zero hw)
  · intro g hI
    refine w_M_isAgain_2 hs hI.1 ⟨fun _ => H g hI.1 hI.2.1 hI.2.2, fun c => by omega⟩
  · intro i g hi hI k
    refine w_M_isAgain_2 hs hI.1 ⟨fun c => by omega, fun c => ?_⟩
    rw [am_w_id (by omega) (by omega)]
    refine ⟨by omega, by omega, fun g1 q1 y hy => ?_⟩
    rw [am_w_id (by omega) (by omega)] at hy
    subst hy
    refine k g1 ?_
    rw [q1]
    exact hI.put (by decide +kernel) (by omega) (by rw [hI.other 116 (by omega)]; exact cg _ (by omega))
/-- a row with what was kept set down: w the play ahead -/
def pushA (w b : Nat → Int) (j : Nat) : Int := if b 30 = 10 then (if 193 ≤ j ∧ j < 211 then w (j - 193) else if 31 ≤ j ∧ j < 193 then b (j + 18) else b j) else (if j = 30 then b 30 + 1 else if 31 + 18 * (b 30).toNat ≤ j ∧ j < 31 + 18 * (b 30).toNat + 18 then w (j - (31 + 18 * (b 30).toNat)) else b j)
theorem k_notes58 {b w : Nat → Int} {n : Int} (hs : am_sc scr) (hw : wf h) (hb : h.2.2.2 110 = b) (hww : ∀ j, j < 18 → h.2.2.2 116 j = w j) (hn : b 30 = n) (hn2 : 0 ≤ n ∧ n < 10) (H : ∀ g, wf g → fr [110] [] h g → (∀ j, g.2.2.2 110 j = if j = 30 then n + 1 else if 31 + 18 * n.toNat ≤ j ∧ j < 31 + 18 * n.toNat + 18 then w (j - (31 + 18 * n.toNat)) else b j) → Q none g) : am_R (am_prog scr) d f_M_notes 58 [some (.inr (.inr ((109 : Nat) : Int))), some (.inl (0))] [] h Q := by
  refine down (n := 18) (I := fillI h 110 (31 + 18 * n.toNat) (fun j => w (j - (31 + 18 * n.toNat)))) (R := fun i g => am_R (am_prog scr) d f_M_notes 58 [some (.inr (.inr ((109 : Nat) : Int))), some (.inl ((i : Int)))] [] g Q) ?_ ?_ 18 0 h rfl (fillI.zero hw)
  · intro g hI
    refine w_M_notes_58 hs hI.1 ⟨fun _ g1 q1 => ?_, fun c => by omega⟩
    have e30 : g.2.2.2 110 30 = n := by rw [hI.2.2 30, if_neg (by omega), hb, hn]
    rw [e30, am_w_id (by omega) (by omega)] at q1
    refine H g1 (by rw [q1]; exact hI.1.pa (by decide +kernel)) (by rw [q1]; exact hI.2.1.put (Or.inl (by simp))) (fun j => ?_)
    rw [q1]
    simp only [put_at, true_and]
    rw [hI.2.2 j, hb]
  · intro i g hi hI k
    refine w_M_notes_58 hs hI.1 ⟨fun c => by omega, fun c => ?_⟩
    have e30 : g.2.2.2 110 30 = n := by rw [hI.2.2 30, if_neg (by omega), hb, hn]
    rw [e30, am_w_id (x := 18 * n) (by omega) (by omega), am_w_id (x := 31 + 18 * n) (by omega) (by omega), am_w_id (by omega) (by omega)]
    refine ⟨by omega, by omega, fun g1 q1 y hy => ?_⟩
    rw [am_w_id (by omega) (by omega)] at hy
    subst hy
    refine k g1 ?_
    rw [q1]
    exact hI.put (by decide +kernel) (by omega) (by rw [hI.other 116 (by omega), hww _ (by omega)]; exact cg _ (by omega))
theorem k_notes {b w : Nat → Int} (hs : am_sc scr) (hw : wf h) (hb : h.2.2.2 110 = b) (hww : ∀ j, j < 18 → h.2.2.2 116 j = w j) (hn2 : 0 ≤ b 30 ∧ b 30 ≤ 10) (H : ∀ g, wf g → fr [110] [] h g → (∀ j, g.2.2.2 110 j = pushA w b j) → Q none g) : am_R (am_prog scr) d f_M_notes 0 [some (.inr (.inr ((109 : Nat) : Int))), none] [] h Q := by
  refine w_M_notes_0 hs hw ?_
  rw [hb]
  refine ⟨fun c => ?_, fun c => ?_⟩
  · refine k_notes58 hs hw hb hww rfl (by omega) (fun g wg fg hg => H g wg fg (fun j => ?_))
    rw [hg j]
    unfold pushA
    rw [if_neg c]
  · refine down (n := 162) (I := fillI h 110 31 (fun j => b (j + 18))) (R := fun i g => am_R (am_prog scr) d f_M_notes 14 [some (.inr (.inr ((109 : Nat) : Int))), some (.inl ((i : Int)))] [] g Q) ?_ ?_ 162 0 h rfl (fillI.zero hw)
    · intro g hI
      refine w_M_notes_14 hs hI.1 ⟨fun _ g1 q1 => ?_, fun c => by omega⟩
      have e30 : g.2.2.2 110 30 = 10 := by rw [hI.2.2 30, if_neg (by omega), hb, c]
      rw [e30, am_w_id (by omega) (by omega)] at q1
      have w1 : wf g1 := by rw [q1]; exact hI.1.pa (by decide +kernel)
      have f1 : fr [110] [] h g1 := by rw [q1]; exact hI.2.1.put (Or.inl (by simp))
      refine k_notes58 (b := g1.2.2.2 110) (n := 9) (w := w) hs w1 rfl (fun j hj => by rw [f1.c 116 (by simp) (by simp)]; exact hww j hj) (by rw [q1]; exact put_eq) (by omega) (fun g2 w2 f2 hg => H g2 w2 (f1.trans f2) (fun j => ?_))
      rw [hg j]
      unfold pushA
      rw [if_pos c]
      have e1 : g1.2.2.2 110 j = if j = 30 then 9 else if 31 ≤ j ∧ j < 31 + 162 then b (j + 18) else b j := by
        rw [q1]
        simp only [put_at, true_and]
        rw [hI.2.2 j, hb]
        rfl
      rw [e1]
      by_cases q2 : j = 30
      · rw [if_pos q2, if_neg (by omega), if_neg (by omega), q2, c]; rfl
      · rw [if_neg q2]
        by_cases q3 : 193 ≤ j ∧ j < 211
        · rw [if_pos (by omega), if_pos q3]; rfl
        · rw [if_neg (by omega), if_neg q3, if_neg q2]
    · intro i g hi hI k
      refine w_M_notes_14 hs hI.1 ⟨fun c => by omega, fun c => ?_⟩
      rw [am_w_id (x := 49 + (i : Int)) (by omega) (by omega), am_w_id (x := 31 + (i : Int)) (by omega) (by omega)]
      refine ⟨by omega, by omega, fun g1 q1 y hy => ?_⟩
      rw [am_w_id (by omega) (by omega)] at hy
      subst hy
      refine k g1 ?_
      rw [q1]
      exact hI.put (by decide +kernel) (by omega) (by rw [hI.2.2 _, if_neg (by omega), hb]; exact cg _ (by omega))
end FL
