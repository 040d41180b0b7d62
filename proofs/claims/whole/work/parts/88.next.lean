/-! the next token: the reference -/
def sgF (c : Int) : Nat → Int
  | 0 => 27
  | k + 1 => if c = (txL 38).getD k 0 then 30 + (k : Int) else sgF c k
def tkS (T : Nat → Int) (N p : Nat) : Nat := spF T N 900 p
def tkE (T : Nat → Int) (N p : Nat) : Nat := if tkS T N p < N then (if 97 ≤ T (tkS T N p) ∧ T (tkS T N p) ≤ 122 then wdF T N 900 (tkS T N p) else if 48 ≤ T (tkS T N p) ∧ T (tkS T N p) ≤ 57 then dgF T N 900 (tkS T N p) else tkS T N p + 1) else tkS T N p
def tkK (T : Nat → Int) (N p : Nat) : Int := if tkS T N p < N then (if 97 ≤ T (tkS T N p) ∧ T (tkS T N p) ≤ 122 then (kyF T (tkS T N p) (tkE T N p) 24 0 : Int) else if 48 ≤ T (tkS T N p) ∧ T (tkS T N p) ≤ 57 then (if tkE T N p ≤ tkS T N p + 3 then 25 else 27) else sgF (T (tkS T N p)) 12) else 26
def tkN (T : Nat → Int) (N p : Nat) (n0 : Int) : Int := if tkS T N p < N ∧ ¬ (97 ≤ T (tkS T N p) ∧ T (tkS T N p) ≤ 122) ∧ (48 ≤ T (tkS T N p) ∧ T (tkS T N p) ≤ 57) then dvF T (tkS T N p) (tkE T N p - tkS T N p) else n0
section NE
variable {scr : Nat × (Nat → Int)} {d : Nat} {h : am_H} {Q : Option am_V → am_H → Prop} {T : Nat → Int} {N : Nat}
theorem teM.fr {g : am_H} (t : teM h T N) (q : fr [] [(109, 6), (109, 7), (109, 9), (109, 10)] h g) : teM g T N := by
  obtain ⟨t1, t2, t3, t4⟩ := t
  refine ⟨t1, by rw [q.f 109 8 (by simp) (by decide)]; exact t2, fun k hk => by rw [q.c 112 (by simp) (by decide)]; exact t3 k hk, t4⟩
theorem k_next_89 {s E : Nat} (hs : am_sc scr) (hE : s ≤ E ∧ E ≤ N) (K : ∀ g, wf g → fr [] [(109, 6), (109, 7), (109, 9), (109, 10)] h g → g.2.2.2 109 6 = (s : Int) → g.2.2.2 109 7 = (E : Int) → g.2.2.2 109 10 = h.2.2.2 109 10 → g.2.2.2 109 9 = (kyF T s E 24 0 : Int) → Q none g) : ∀ (m e : Nat) (g : am_H), N ≤ e + m → wdF T N m e = E → s ≤ e → e ≤ N → wf g → teM g T N → fr [] [(109, 6), (109, 7), (109, 9), (109, 10)] h g → g.2.2.2 109 6 = (s : Int) → g.2.2.2 109 7 = (e : Int) → g.2.2.2 109 10 = h.2.2.2 109 10 → am_R (am_prog scr) (d + 6) f_M_next 89 [some (.inr (.inr ((109 : Nat) : Int))), none] [] g Q := by
  have stop : ∀ (e : Nat) (g : am_H), e = E → ¬ (e < N ∧ (97 ≤ T e ∧ T e ≤ 122)) → wf g → teM g T N → fr [] [(109, 6), (109, 7), (109, 9), (109, 10)] h g → g.2.2.2 109 6 = (s : Int) → g.2.2.2 109 7 = (e : Int) → g.2.2.2 109 10 = h.2.2.2 109 10 → am_R (am_prog scr) (d + 6) f_M_next 89 [some (.inr (.inr ((109 : Nat) : Int))), none] [] g Q := by
    intro e g he no wg t fg e6 e7 e10
    refine w_M_next_89 hs wg ?_
    rw [e7]
    refine k_see hs wg t (by omega) ⟨_, rfl, wg, k_isSmall hs wg ⟨_, rfl, wg, fun _ => ?_, fun c => ?_⟩⟩
    · refine k_keyAt hs wg t e6 e7 (by omega) ⟨_, rfl, wg, fun h7 q7 => ?_⟩
      have f7 : fr [] [(109, 6), (109, 7), (109, 9), (109, 10)] g h7 := by rw [q7]; exact fr.rfl.put (Or.inr (by decide))
      refine K h7 (by rw [q7]; exact wg.put np_109_9) (fg.trans f7) ?_ ?_ ?_ ?_
      · rw [q7, put_ne (by omega)]; exact e6
      · rw [q7, put_ne (by omega), e7, he]
      · rw [q7, put_ne (by omega)]; exact e10
      · rw [q7, put_eq, he]
    · exfalso
      rw [i0, Decidable.not_not, Int.toNat_natCast] at c
      by_cases q : (e : Int) < (N : Int)
      · rw [if_pos q] at c; exact no ⟨by omega, c⟩
      · rw [if_neg q] at c; omega
  intro m
  induction m with
  | zero =>
    intro e g hm hw2 h1 h2 wg t fg e6 e7 e10
    simp only [wdF] at hw2
    exact stop e g hw2 (fun z => by omega) wg t fg e6 e7 e10
  | succ m ih =>
    intro e g hm hw2 h1 h2 wg t fg e6 e7 e10
    simp only [wdF] at hw2
    by_cases q : e < N ∧ (97 ≤ T e ∧ T e ≤ 122)
    · rw [if_pos q] at hw2
      have tN := t.1
      refine w_M_next_89 hs wg ?_
      rw [e7]
      refine k_see hs wg t (by omega) ⟨_, rfl, wg, k_isSmall hs wg ⟨_, rfl, wg, fun c => ?_, fun _ h8 q8 => ?_⟩⟩
      · exfalso
        rw [Int.toNat_natCast, i0, if_pos (by omega)] at c
        exact c q.2
      · rw [am_w_id (by omega) (by omega)] at q8
        have f8 : fr [] [(109, 6), (109, 7), (109, 9), (109, 10)] g h8 := by rw [q8]; exact fr.rfl.put (Or.inr (by decide))
        exact ih (e + 1) h8 (by omega) hw2 (by omega) (by omega) (by rw [q8]; exact wg.put np_109_7) (t.fr f8) (fg.trans f8) (by rw [q8, put_ne (by omega)]; exact e6) (by rw [q8, put_eq]; omega) (by rw [q8, put_ne (by omega)]; exact e10)
    · rw [if_neg q] at hw2
      exact stop e g hw2 q wg t fg e6 e7 e10
end NE
