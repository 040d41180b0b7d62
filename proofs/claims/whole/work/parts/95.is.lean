/-! which token it is: the class -/
def kyT (j : Nat) : Int := [99, 0, 1, 2, 3, 30, 4, 5, 6, 7, 8, 9, 10, 11, 31, 17, 18, 19, 20, 35, 36, 13, 23, 37, 38, 39, 40, 41, 21, 22, 14, 15, 16, 34, 32, 33, 12].getD j 99
theorem ky_w0 : ∀ j, j < 37 → 1 ≤ j → kyT j < 24 → 0 ≤ kyT j ∧ (txL j).length = kwN (kyT j).toNat ∧ 2 ≤ (txL j).length ∧ ∀ i, i < kwN (kyT j).toNat → (txL j).getD i 0 = (txL 37).getD (kwP (kyT j).toNat + i) 0 := by decide +kernel
theorem ky_s0 : ∀ j, j < 37 → 1 ≤ j → ¬ kyT j < 24 → 30 ≤ kyT j ∧ kyT j < 42 ∧ (txL j).length = 1 ∧ (txL j).getD 0 0 = (txL 38).getD (kyT j - 30).toNat 0 ∧ ¬ (97 ≤ (txL j).getD 0 0 ∧ (txL j).getD 0 0 ≤ 122) := by decide +kernel
theorem ky_w (j : Nat) (hj : 1 ≤ j ∧ j < 37) (q : kyT j < 24) : 0 ≤ kyT j ∧ (txL j).length = kwN (kyT j).toNat ∧ 2 ≤ (txL j).length ∧ ∀ i, i < kwN (kyT j).toNat → (txL j).getD i 0 = (txL 37).getD (kwP (kyT j).toNat + i) 0 := ky_w0 j hj.2 hj.1 q
theorem ky_s (j : Nat) (hj : 1 ≤ j ∧ j < 37) (q : ¬ kyT j < 24) : 30 ≤ kyT j ∧ kyT j < 42 ∧ (txL j).length = 1 ∧ (txL j).getD 0 0 = (txL 38).getD (kyT j - 30).toNat 0 ∧ ¬ (97 ≤ (txL j).getD 0 0 ∧ (txL j).getD 0 0 ≤ 122) := ky_s0 j hj.2 hj.1 q
theorem kw_u : ∀ v, v < 24 → ∀ w, w < 24 → v ≠ w → kwN v = kwN w → ∃ k, k < kwN v ∧ (txL 37).getD (kwP v + k) 0 ≠ (txL 37).getD (kwP w + k) 0 := by decide +kernel
theorem sg_u : ∀ c : Nat, c < 256 → (sgF (c : Int) 12 = 27 ∨ 30 ≤ sgF (c : Int) 12) ∧ ∀ k : Nat, k < 12 → (sgF (c : Int) 12 = 30 + (k : Int) ↔ (c : Int) = (txL 38).getD k 0) := by decide +kernel
def eqT (T : Nat → Int) (s e j : Nat) : Prop := e = s + (txL j).length ∧ ∀ i, i < (txL j).length → T (s + i) = (txL j).getD i 0
section IS1
variable {T : Nat → Int} {N p s e j : Nat}
theorem kyF_le : ∀ (m i : Nat), i + m = 24 → kyF T s e m i ≤ 24 ∧ ∀ w, w < 24 → i ≤ w → (kyF T s e m i = w ↔ mtK T s e w = true) := by
  intro m
  induction m with
  | zero => intro i hi; simp only [kyF]; exact ⟨Nat.le_refl _, fun w h1 h2 => by omega⟩
  | succ m ih =>
    intro i hi
    simp only [kyF]
    by_cases q : mtK T s e i = true
    · rw [if_pos q]
      refine ⟨by omega, fun w h1 h2 => ⟨fun z => z ▸ q, fun z => ?_⟩⟩
      rcases Nat.lt_or_ge i w with l | l
      · exfalso
        rw [mtK_t] at q z
        have e1 : kwN i = kwN w := by omega
        obtain ⟨k, k1, k2⟩ := kw_u i (by omega) w h1 (by omega) e1
        exact k2 ((q.2 k k1).symm.trans (z.2 k (by omega)))
      · omega
    · rw [if_neg q]
      have := ih (i + 1) (by omega)
      refine ⟨this.1, fun w h1 h2 => ?_⟩
      rcases Nat.lt_or_ge i w with l | l
      · exact this.2 w h1 l
      · obtain rfl : w = i := by omega
        refine ⟨fun z => ?_, fun z => absurd z q⟩
        exfalso
        have big : ∀ (m i : Nat), i + m = 24 → i ≤ kyF T s e m i := by
          intro m
          induction m with
          | zero => intro i hi; simp only [kyF]; omega
          | succ m ih2 =>
            intro i hi
            simp only [kyF]
            split
            · omega
            · have := ih2 (i + 1) (by omega); omega
        have := big m (w + 1) (by omega)
        omega
theorem eqT_w (hj : 1 ≤ j ∧ j < 37) (hc : 97 ≤ T s ∧ T s ≤ 122) : eqT T s e j ↔ (kyF T s e 24 0 : Int) = kyT j := by
  have kl := kyF_le (T := T) (s := s) (e := e) 24 0 (by omega)
  by_cases q : kyT j < 24
  · obtain ⟨w1, w2, w3, w4⟩ := ky_w j hj q
    have := kl.2 (kyT j).toNat (by omega) (by omega)
    rw [mtK_t] at this
    unfold eqT
    rw [w2]
    constructor
    · rintro ⟨a, b⟩
      have := this.mpr ⟨a, fun k hk => by rw [b k hk, w4 k hk]⟩
      omega
    · intro z
      obtain ⟨a, b⟩ := this.mp (by omega)
      exact ⟨a, fun k hk => by rw [b k hk, w4 k hk]⟩
  · obtain ⟨w1, w2, w3, w4, w5⟩ := ky_s j hj q
    constructor
    · rintro ⟨a, b⟩
      exfalso
      have := b 0 (by omega)
      rw [Nat.add_zero] at this
      rw [this] at hc
      exact w5 hc
    · intro z
      omega
theorem eqT_s (hj : 1 ≤ j ∧ j < 37) (hT : 0 ≤ T s ∧ T s < 256) : eqT T s (s + 1) j ↔ sgF (T s) 12 = kyT j := by
  obtain ⟨c, hc⟩ : ∃ c : Nat, T s = (c : Int) := ⟨(T s).toNat, by omega⟩
  have su := sg_u c (by omega)
  rw [← hc] at su
  by_cases q : kyT j < 24
  · obtain ⟨w1, w2, w3, w4⟩ := ky_w j hj q
    constructor
    · rintro ⟨a, b⟩; omega
    · intro z; exfalso; have := su.1; omega
  · obtain ⟨w1, w2, w3, w4, w5⟩ := ky_s j hj q
    have := su.2 (kyT j - 30).toNat (by omega)
    rw [← w4] at this
    unfold eqT
    rw [w3]
    constructor
    · rintro ⟨a, b⟩
      have := this.mpr (b 0 (by omega))
      omega
    · intro z
      refine ⟨by omega, fun i hi => ?_⟩
      obtain rfl : i = 0 := by omega
      exact this.mp (by omega)
theorem wdF_gt (hp : p < N) (hc : 97 ≤ T p ∧ T p ≤ 122) : p < wdF T N 900 p := by
  have e : wdF T N 900 p = if p < N ∧ (97 ≤ T p ∧ T p ≤ 122) then wdF T N 899 (p + 1) else p := rfl
  rw [e, if_pos ⟨hp, hc⟩]
  have := (wdF_b (T := T) (N := N) 899 (p + 1)).1
  omega
theorem dgF_gt (hp : p < N) (hc : 48 ≤ T p ∧ T p ≤ 57) : p < dgF T N 900 p := by
  have e : dgF T N 900 p = if p < N ∧ (48 ≤ T p ∧ T p ≤ 57) then dgF T N 899 (p + 1) else p := rfl
  rw [e, if_pos ⟨hp, hc⟩]
  have := (dgF_b (T := T) (N := N) 899 (p + 1)).1
  omega
/-- where a token lies -/
theorem tk_b (hp : p ≤ N) : p ≤ tkS T N p ∧ tkS T N p ≤ tkE T N p ∧ tkE T N p ≤ N ∧ (tkS T N p < N → tkS T N p < tkE T N p) := by
  have h1 := spF_b (T := T) (N := N) 900 p
  have h2 : tkS T N p ≤ N := h1.2.1 hp
  have h3 : p ≤ tkS T N p := h1.1
  unfold tkE
  by_cases q : tkS T N p < N
  · rw [if_pos q]
    by_cases c1 : 97 ≤ T (tkS T N p) ∧ T (tkS T N p) ≤ 122
    · rw [if_pos c1]
      have := wdF_gt q c1
      have := (wdF_b (T := T) (N := N) 900 (tkS T N p)).2 h2
      omega
    · rw [if_neg c1]
      by_cases c2 : 48 ≤ T (tkS T N p) ∧ T (tkS T N p) ≤ 57
      · rw [if_pos c2]
        have := dgF_gt q c2
        have := (dgF_b (T := T) (N := N) 900 (tkS T N p)).2 h2
        omega
      · rw [if_neg c2]; omega
  · rw [if_neg q]; omega
theorem tk_gt (hp : p ≤ N) (hk : tkK T N p ≠ 26) : p < tkE T N p ∧ tkE T N p ≤ N := by
  have b := tk_b (T := T) hp
  have : tkS T N p < N := by
    rcases Nat.lt_or_ge (tkS T N p) N with q | q
    · exact q
    · exfalso
      unfold tkK at hk
      rw [if_neg (by omega)] at hk
      exact hk rfl
  omega
/-- key and kind -/
theorem tk_kc (t : ∀ k, 0 ≤ T k ∧ T k < 256) (hj : 1 ≤ j ∧ j < 37) : (tkC T N p = 0 ∨ tkC T N p = 2 → (eqT T (tkS T N p) (tkE T N p) j ↔ tkK T N p = kyT j)) ∧ (¬ (tkC T N p = 0 ∨ tkC T N p = 2) → tkK T N p ≠ kyT j) ∧ (tkC T N p = 1 ↔ tkK T N p = 25) ∧ (tkC T N p = 4 ↔ tkK T N p = 26) ∧ (tkC T N p = 3 ↔ tkK T N p = 27) := by
  have kt : kyT j < 24 ∨ 30 ≤ kyT j := by
    by_cases q : kyT j < 24
    · exact Or.inl q
    · exact Or.inr (ky_s j hj q).1
  unfold tkC tkK
  by_cases q : tkS T N p < N
  · rw [if_pos q, if_pos q]
    by_cases c1 : 97 ≤ T (tkS T N p) ∧ T (tkS T N p) ≤ 122
    · rw [if_pos c1, if_pos c1]
      have kl := (kyF_le (T := T) (s := tkS T N p) (e := tkE T N p) 24 0 (by omega)).1
      have := eqT_w (e := tkE T N p) hj c1
      exact ⟨fun _ => this, fun z => absurd (Or.inl rfl) z, by omega, by omega, by omega⟩
    · rw [if_neg c1, if_neg c1]
      by_cases c2 : 48 ≤ T (tkS T N p) ∧ T (tkS T N p) ≤ 57
      · rw [if_pos c2, if_pos c2]
        by_cases c3 : tkE T N p ≤ tkS T N p + 3
        · rw [if_pos c3, if_pos c3]
          exact ⟨fun z => by omega, fun _ => by omega, by omega, by omega, by omega⟩
        · rw [if_neg c3, if_neg c3]
          exact ⟨fun z => by omega, fun _ => by omega, by omega, by omega, by omega⟩
      · rw [if_neg c2, if_neg c2]
        have eE : tkE T N p = tkS T N p + 1 := by unfold tkE; rw [if_pos q, if_neg c1, if_neg c2]
        have es := eqT_s hj (t (tkS T N p))
        obtain ⟨c, hc⟩ : ∃ c : Nat, T (tkS T N p) = (c : Int) := ⟨(T (tkS T N p)).toNat, by have := t (tkS T N p); omega⟩
        have su := (sg_u c (by have := t (tkS T N p); omega)).1
        rw [← hc] at su
        by_cases c4 : sgF (T (tkS T N p)) 12 = 27
        · rw [if_pos c4]
          exact ⟨fun z => by omega, fun _ => by omega, by omega, by omega, by omega⟩
        · rw [if_neg c4, eE]
          exact ⟨fun _ => es, fun z => absurd (Or.inr rfl) z, by omega, by omega, by omega⟩
  · rw [if_neg q, if_neg q]
    exact ⟨fun z => by omega, fun _ => by omega, by omega, by omega, by omega⟩
end IS1
/-- the class stands before the token behind p -/
def cuC (h : am_H) (T : Nat → Int) (N p : Nat) : Prop := p ≤ N ∧ h.2.2.2 3 3 = (tkS T N p : Int) ∧ h.2.2.2 3 4 = (tkE T N p : Int) ∧ h.2.2.2 3 2 = tkC T N p ∧ (tkK T N p = 25 → h.2.2.2 3 5 = tkN T N p 0)
section IS2
variable {scr : Nat × (Nat → Int)} {d : Nat} {h : am_H} {Q : Option am_V → am_H → Prop} {T : Nat → Int} {N p j : Nat}
theorem k_is (hs : am_sc scr) (hw : wf h) (t : teC h T N) (cu : cuC h T N p) (hj : 1 ≤ j ∧ j < 37) {a1 : Int} (ea : a1 = -2 - (j : Int)) (H : Q (some (.inl (if tkK T N p = kyT j then 1 else 0))) h) : am_R (am_prog scr) (d + 5) f_Tokens_is 0 [some (.inr (.inr (((3) : Nat) : Int))), some (.inr (.inr a1)), none] [] h Q := by
  obtain ⟨u1, u2, u3, u4, u5⟩ := cu
  have b := tk_b (T := T) u1
  have kc := tk_kc (N := N) (p := p) t.2.2.2.2 hj
  have tN := t.1
  have tb := tx_b j (by omega)
  have go : (tkC T N p = 0 ∨ tkC T N p = 2) → am_R (am_prog scr) (d + 5) f_Tokens_is 15 [some (.inr (.inr (((3) : Nat) : Int))), some (.inr (.inr a1)), none] [] h Q := by
    intro q
    have kq := kc.1 q
    refine w_Tokens_is_15 hs hw ⟨by rw [tx_n]; omega, ?_⟩
    refine k_len (j := j) hs hw (by omega) ea ⟨_, rfl, hw, fun c => ?_, fun c => ?_⟩
    · rw [u2, u3, am_w_id (by omega) (by omega)] at c
      have lp : ∀ (m k : Nat), k + m = (txL j).length → (∀ i, i < k → T (tkS T N p + i) = (txL j).getD i 0) → am_R (am_prog scr) (d + 5) f_Tokens_is 35 [some (.inr (.inr (((3) : Nat) : Int))), some (.inr (.inr a1)), some (.inl ((k : Int)))] [] h Q := by
        intro m
        induction m with
        | zero =>
          intro k hk al
          refine w_Tokens_is_35 hs hw ⟨by rw [tx_n]; omega, ?_⟩
          refine k_len (j := j) hs hw (by omega) ea ⟨_, rfl, hw, fun _ => ?_, fun c2 => by omega⟩
          rw [if_pos (kq.mp ⟨by omega, fun i hi => al i (by omega)⟩)] at H
          exact H
        | succ m ih =>
          intro k hk al
          refine w_Tokens_is_35 hs hw ⟨by rw [tx_n]; omega, ?_⟩
          refine k_len (j := j) hs hw (by omega) ea ⟨_, rfl, hw, fun c2 => by omega, fun _ => ?_⟩
          rw [u2, am_w_id (by omega) (by omega), show ((tkS T N p : Nat) : Int) + (k : Int) = ((tkS T N p + k : Nat) : Int) by omega]
          obtain ⟨a1', a2, a3⟩ := t.at hw (k := tkS T N p + k) (by omega)
          have cb := tb.2 k (by omega)
          have Tb := t.2.2.2.2 (tkS T N p + k)
          refine ⟨a1', by rw [tx_n]; omega, ?_⟩
          refine k_chr (j := j) hs hw (by omega) ea (by omega) ⟨_, rfl, hw, fun c3 y8 h8 => ?_, fun c3 => ?_⟩
          · simp only [Int.toNat_natCast] at c3 a2 a3
            rw [am_w_id (by omega) (by omega)] at h8
            obtain rfl : y8 = ((k + 1 : Nat) : Int) := by omega
            refine ih (k + 1) (by omega) (fun i hi => ?_)
            rcases Nat.lt_or_ge i k with l | l
            · exact al i l
            · obtain rfl : i = k := by omega
              omega
          · simp only [Int.toNat_natCast] at c3 a2 a3
            rw [if_neg (fun z => ?_)] at H
            · exact H
            · have := (kq.mpr z).2 k (by omega)
              omega
      exact lp (txL j).length 0 (by omega) (fun i hi => by omega)
    · rw [u2, u3, am_w_id (by omega) (by omega)] at c
      rw [if_neg (fun z => by have := (kq.mpr z).1; omega)] at H
      exact H
  refine w_Tokens_is_0 hs hw ?_
  rw [u4]
  refine ⟨fun c => go (Or.inl c), fun c => ⟨fun c2 => ?_, fun c2 => go (Or.inr c2)⟩⟩
  rw [if_neg (kc.2.1 (by omega))] at H
  exact H
end IS2
