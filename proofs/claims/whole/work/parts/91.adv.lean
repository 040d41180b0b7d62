/-! the next token: the class -/
/-- the class's text -/
def teC (h : am_H) (T : Nat → Int) (N : Nat) : Prop := N ≤ 900 ∧ h.2.2.2 3 0 = 1 ∧ h.2.2.2 3 1 = (N : Int) ∧ (∀ k, k < N → (-128 ≤ h.2.2.2 1 k ∧ h.2.2.2 1 k < 128) ∧ h.2.2.2 1 k % 256 = T k) ∧ ∀ k, 0 ≤ T k ∧ T k < 256
def ADF : List (Nat × Nat) := [(3, 2), (3, 3), (3, 4), (3, 5)]
section AD
variable {scr : Nat × (Nat → Int)} {d : Nat} {h : am_H} {Q : Option am_V → am_H → Prop} {T : Nat → Int} {N : Nat}
theorem teC.fr {g : am_H} (t : teC h T N) (q : fr [] ADF h g) : teC g T N := by
  obtain ⟨t1, t2, t3, t4, t5⟩ := t
  refine ⟨t1, by rw [q.f 3 0 (by simp) (by decide)]; exact t2, by rw [q.f 3 1 (by simp) (by decide)]; exact t3, fun k hk => by rw [q.c 1 (by simp) (by decide)]; exact t4 k hk, t5⟩
theorem teC.at {k : Nat} (t : teC h T N) (hw : wf h) (hk : k < N) : am_inA h (h.2.2.2 3 0) 3 (k : Int) ∧ (-128 ≤ h.2.2.2 (h.2.2.2 3 0).toNat ((k : Int)).toNat ∧ h.2.2.2 (h.2.2.2 3 0).toNat ((k : Int)).toNat < 128) ∧ h.2.2.2 (h.2.2.2 3 0).toNat ((k : Int)).toNat % 256 = T k := by
  obtain ⟨t1, t2, t3, t4, t5⟩ := t
  rw [t2, Int.toNat_natCast, show (1 : Int).toNat = 1 from rfl]
  have v1 : wk 1 = (3, 900) := by decide +kernel
  exact ⟨hw.a (i := 1) (by omega) v1 (by omega) (by omega), t4 k hk⟩
theorem k_adv_112 {x1 : Int} {s E : Nat} (hs : am_sc scr) (K : ∀ g, wf g → fr [] ADF h g → g.2.2.2 3 3 = h.2.2.2 3 3 → g.2.2.2 3 4 = (E : Int) → g.2.2.2 3 2 = h.2.2.2 3 2 → g.2.2.2 3 5 = h.2.2.2 3 5 → Q none g) : ∀ (m e : Nat) (g : am_H), N ≤ e + m → wdF T N m e = E → e ≤ N → wf g → teC g T N → fr [] [(3, 4)] h g → g.2.2.2 3 4 = (e : Int) → am_R (am_prog scr) (d + 1) f_Tokens_advance 112 [some (.inr (.inr (((3) : Nat) : Int))), some (.inl (x1))] [] g Q := by
  have stop : ∀ (e : Nat) (g : am_H), e = E → e ≤ N → ¬ (e < N ∧ (97 ≤ T e ∧ T e ≤ 122)) → wf g → teC g T N → fr [] [(3, 4)] h g → g.2.2.2 3 4 = (e : Int) → am_R (am_prog scr) (d + 1) f_Tokens_advance 112 [some (.inr (.inr (((3) : Nat) : Int))), some (.inl (x1))] [] g Q := by
    intro e g he hN no wg t fg e4
    have done : Q none g := K g wg (fg.mono (by simp) (by decide)) (fg.f 3 3 (by simp) (by decide)) (by rw [e4, he]) (fg.f 3 2 (by simp) (by decide)) (fg.f 3 5 (by simp) (by decide))
    refine w_Tokens_advance_112 hs wg ?_
    rw [e4, t.2.2.1]
    refine ⟨fun _ => done, fun c => ?_⟩
    obtain ⟨a1, a2, a3⟩ := t.at wg (k := e) (by omega)
    refine ⟨a1, fun _ => done, fun c2 => ⟨a1, fun _ => done, fun c3 => ?_⟩⟩
    exfalso
    exact no ⟨by omega, by omega⟩
  intro m
  induction m with
  | zero =>
    intro e g hm hq h2 wg t fg e4
    simp only [wdF] at hq
    exact stop e g hq h2 (fun z => by omega) wg t fg e4
  | succ m ih =>
    intro e g hm hq h2 wg t fg e4
    simp only [wdF] at hq
    by_cases q : e < N ∧ (97 ≤ T e ∧ T e ≤ 122)
    · rw [if_pos q] at hq
      have tN := t.1
      obtain ⟨a1, a2, a3⟩ := t.at wg (k := e) q.1
      refine w_Tokens_advance_112 hs wg ?_
      rw [e4, t.2.2.1]
      refine ⟨fun c => by omega, fun _ => ⟨a1, fun c => by omega, fun _ => ⟨a1, fun c => by omega, fun _ h3 q3 => ?_⟩⟩⟩
      rw [am_w_id (by omega) (by omega)] at q3
      have f3 : fr [] [(3, 4)] g h3 := by rw [q3]; exact fr.rfl.put (Or.inr (by decide))
      exact ih (e + 1) h3 (by omega) hq (by omega) (by rw [q3]; exact wg.put np_3_4) (t.fr (f3.mono (by simp) (by decide))) (fg.trans f3) (by rw [q3, put_eq]; omega)
    · rw [if_neg q] at hq
      exact stop e g hq h2 q wg t fg e4
end AD
