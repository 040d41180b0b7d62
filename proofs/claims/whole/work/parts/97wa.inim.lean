/-! the start: the reference's object leaves the class's cells -/
def MJ (h g : am_H) : Prop := 111 ≤ g.1 ∧ g.2.2.1 109 = (22, 40) ∧ g.2.2.2 109 1 = 110 ∧ g.2.2.1 110 = (1, 3336) ∧ ∀ c, c < 109 → g.2.2.2 c = h.2.2.2 c
section MJs
variable {P : am_P} {d f pc : Nat} {lv : am_Lv} {r : am_St} {h g : am_H} {Q : Option am_V → am_H → Prop}
theorem MJ.put {c k : Nat} {v : Int} (M : MJ h g) (hc : 109 ≤ c) (hk : ¬ (c = 109 ∧ k = 1)) : MJ h (am_put g c k v) := by
  obtain ⟨m1, m2, m3, m4, m5⟩ := M
  exact ⟨m1, m2, by rw [put_ne (by omega)]; exact m3, m4, fun e he => by rw [put_c (by omega)]; exact m5 e he⟩
theorem MJ.mk {kd n : Nat} {z : Nat → Int} (M : MJ h g) : MJ h (am_mk g kd n z) := by
  obtain ⟨m1, m2, m3, m4, m5⟩ := M
  refine ⟨by show 111 ≤ g.1 + 1; omega, ?_, ?_, ?_, fun e he => ?_⟩
  · show (if 109 = g.1 then _ else _) = _; rw [if_neg (by omega)]; exact m2
  · show (if 109 = g.1 then _ else _) = _; rw [if_neg (by omega)]; exact m3
  · show (if 110 = g.1 then _ else _) = _; rw [if_neg (by omega)]; exact m4
  · funext j; show (if e = g.1 then _ else _) = _; rw [if_neg (by omega), m5 e he]
theorem MJ.iso (M : MJ h g) : am_isO g ((109 : Nat) : Int) 12 := ⟨by omega, by rw [Int.toNat_natCast, M.2.1]⟩
theorem mj_arr {p0 p1 p2 p3 p4 t k : Nat} {n : Int} {a : List (Option am_V)} (h1 : P.1 f p0 = .inl (o_aload 0 p1)) (h2 : P.1 f p1 = .inl (o_push (.inl n) p2)) (h3 : P.1 f p2 = .inl (o_newa t p3)) (h4 : P.1 f p3 = .inl (o_putR 12 k p4)) (hn : 0 ≤ n ∧ n ≤ 1000000) (hk : k ≠ 1) (M : MJ h g) (K : ∀ g, MJ h g → am_R P d f p4 (some (.inr (.inr ((109 : Nat) : Int))) :: a) [] g Q) : am_R P d f p0 (some (.inr (.inr ((109 : Nat) : Int))) :: a) [] g Q := by
  refine am_R.next h1 rfl ?_
  refine am_R.next h2 rfl ?_
  refine r_newa h3 hn ?_
  have M2 := M.mk (kd := t) (n := n.toNat) (z := fun _ => 0)
  refine r_putR h4 M2.iso (by omega) ?_
  rw [Int.toNat_natCast]
  exact K _ (M2.put (by omega) (by omega))
theorem mj_plain {scr : Nat × (Nat → Int)} (M : MJ h g) (K : ∀ g, MJ h g → Q none g) : am_R (am_prog scr) d f_M_plain 0 [some (.inr (.inr (110 : Int))), none] [] g Q := by
  have hp : ∀ k, (am_prog scr).1 f_M_plain k = c_M_plain k := fun _ => rfl
  have inA : ∀ (g : am_H) (i : Int), MJ h g → 0 ≤ i → i < 3336 → am_inA g 110 1 i := fun g i M h0 h1 => by
    have e : g.2.2.1 (110 : Int).toNat = (1, 3336) := M.2.2.2.1
    exact ⟨by omega, by rw [e], h0, by rw [e]; exact h1⟩
  refine am_R.next ((hp 0).trans rfl) rfl ?_
  refine am_R.next (lv' := [some (.inr (.inr (110 : Int))), some (.inl 0)]) ((hp 1).trans rfl) rfl ?_
  have lp : ∀ (m : Nat) (k : Nat) (g : am_H), k + m = 1112 → MJ h g → am_R (am_prog scr) d f_M_plain 2 [some (.inr (.inr (110 : Int))), some (.inl (k : Int))] [] g Q := by
    intro m
    induction m with
    | zero =>
      intro k g hk M
      refine am_R.next ((hp 2).trans rfl) rfl ?_
      refine am_R.next ((hp 3).trans rfl) rfl ?_
      refine r_ic ((hp 6).trans rfl) (fun c => ?_) (fun c => absurd (by omega) c)
      refine am_R.next ((hp 19).trans rfl) rfl ?_
      refine am_R.next ((hp 20).trans rfl) rfl ?_
      refine am_R.next ((hp 21).trans rfl) rfl ?_
      refine r_iast ((hp 22).trans rfl) (inA g 1 M (by omega) (by omega)) ?_
      have M := M.put (c := (110 : Int).toNat) (k := (1 : Int).toNat) (v := 1) (by decide) (by decide)
      refine am_R.next ((hp 23).trans rfl) rfl ?_
      refine am_R.next ((hp 24).trans rfl) rfl ?_
      refine am_R.next ((hp 25).trans rfl) rfl ?_
      refine r_iast ((hp 26).trans rfl) (inA _ 2 M (by omega) (by omega)) ?_
      have M := M.put (c := (110 : Int).toNat) (k := (2 : Int).toNat) (v := 1) (by decide) (by decide)
      refine am_R.next ((hp 27).trans rfl) rfl ?_
      refine am_R.next ((hp 28).trans rfl) rfl ?_
      refine am_R.next ((hp 29).trans rfl) rfl ?_
      refine r_iast ((hp 30).trans rfl) (inA _ 3 M (by omega) (by omega)) ?_
      have M := M.put (c := (110 : Int).toNat) (k := (3 : Int).toNat) (v := 1) (by decide) (by decide)
      exact am_R.ret ((hp 31).trans rfl) rfl (K _ M)
    | succ m ih =>
      intro k g hk M
      refine am_R.next ((hp 2).trans rfl) rfl ?_
      refine am_R.next ((hp 3).trans rfl) rfl ?_
      refine r_ic ((hp 6).trans rfl) (fun c => absurd (by omega) c) (fun c => ?_)
      refine am_R.next ((hp 9).trans rfl) rfl ?_
      refine am_R.next ((hp 10).trans rfl) rfl ?_
      refine am_R.next ((hp 11).trans rfl) rfl ?_
      refine r_iast ((hp 12).trans rfl) (inA g k M (by omega) (by omega)) ?_
      have M := M.put (c := (110 : Int).toNat) (k := ((k : Nat) : Int).toNat) (v := 0) (by decide) (by omega)
      have e : am_w ((k : Int) + 1) = ((k + 1 : Nat) : Int) := by rw [am_w_id (by omega) (by omega)]; omega
      refine am_R.next (lv' := [some (.inr (.inr (110 : Int))), some (.inl (am_w ((k : Int) + 1)))]) ((hp 13).trans rfl) rfl ?_
      rw [e]
      refine am_R.next ((hp 16).trans rfl) rfl ?_
      exact ih (k + 1) _ (by omega) M
  exact lp 1112 0 g (by omega) M
theorem mj_init {scr : Nat × (Nat → Int)} (h1 : h.1 = 110) (h2 : h.2.2.1 109 = (22, 40)) (K : ∀ g, MJ h g → Q none g) : am_R (am_prog scr) (d + 1) 2 0 [some (.inr (.inr ((109 : Nat) : Int)))] [] h Q := by
  have hp : ∀ k, (am_prog scr).1 2 k = c_M_init k := fun _ => rfl
  have iso : am_isO h ((109 : Nat) : Int) 12 := ⟨by omega, by rw [Int.toNat_natCast, h2]⟩
  refine am_R.next ((hp 0).trans rfl) rfl ?_
  refine r_drop ((hp 1).trans rfl) iso (by decide) ?_
  refine am_R.next ((hp 4).trans rfl) rfl ?_
  refine am_R.next ((hp 5).trans rfl) rfl ?_
  refine r_newa ((hp 8).trans rfl) (by decide) ?_
  have k2 : (am_mk h 1 (3336 : Int).toNat (fun _ => 0)).2.2.1 109 = (22, 40) := by show (if 109 = h.1 then _ else _) = _; rw [if_neg (by omega)]; exact h2
  refine r_putR ((hp 10).trans rfl) ⟨by omega, by rw [Int.toNat_natCast, k2]⟩ (by omega) ?_
  rw [Int.toNat_natCast]
  have M : MJ h (am_put (am_mk h 1 (3336 : Int).toNat (fun _ => 0)) 109 1 ((h.1 : Nat) : Int)) := by
    refine ⟨by show 111 ≤ h.1 + 1; omega, k2, by rw [put_eq, h1]; rfl, ?_, fun c hc => ?_⟩
    · show (if 110 = h.1 then _ else _) = _; rw [if_pos h1.symm]; rfl
    · rw [put_c (by omega)]; funext j; show (if c = h.1 then _ else _) = _; rw [if_neg (by omega)]
  generalize am_put (am_mk h 1 (3336 : Int).toNat (fun _ => 0)) 109 1 ((h.1 : Nat) : Int) = g at M
  refine mj_arr ((hp 13).trans rfl) ((hp 14).trans rfl) ((hp 15).trans rfl) ((hp 17).trans rfl) (by decide) (by decide) M (fun g M => ?_)
  refine mj_arr ((hp 20).trans rfl) ((hp 21).trans rfl) ((hp 24).trans rfl) ((hp 26).trans rfl) (by decide) (by decide) M (fun g M => ?_)
  refine mj_arr ((hp 29).trans rfl) ((hp 30).trans rfl) ((hp 33).trans rfl) ((hp 35).trans rfl) (by decide) (by decide) M (fun g M => ?_)
  refine am_R.next ((hp 38).trans rfl) rfl ?_
  refine am_R.next ((hp 39).trans rfl) rfl ?_
  refine r_putI ((hp 40).trans rfl) M.iso ?_
  rw [Int.toNat_natCast]
  have M := M.put (c := 109) (k := 14) (v := -1) (by decide) (by decide)
  generalize am_put g 109 14 (-1) = g at M
  refine mj_arr ((hp 43).trans rfl) ((hp 44).trans rfl) ((hp 47).trans rfl) ((hp 49).trans rfl) (by decide) (by decide) M (fun g M => ?_)
  refine mj_arr ((hp 52).trans rfl) ((hp 53).trans rfl) ((hp 55).trans rfl) ((hp 57).trans rfl) (by decide) (by decide) M (fun g M => ?_)
  refine mj_arr ((hp 60).trans rfl) ((hp 61).trans rfl) ((hp 63).trans rfl) ((hp 65).trans rfl) (by decide) (by decide) M (fun g M => ?_)
  refine mj_arr ((hp 68).trans rfl) ((hp 69).trans rfl) ((hp 72).trans rfl) ((hp 74).trans rfl) (by decide) (by decide) M (fun g M => ?_)
  refine mj_arr ((hp 77).trans rfl) ((hp 78).trans rfl) ((hp 81).trans rfl) ((hp 83).trans rfl) (by decide) (by decide) M (fun g M => ?_)
  refine mj_arr ((hp 86).trans rfl) ((hp 87).trans rfl) ((hp 90).trans rfl) ((hp 92).trans rfl) (by decide) (by decide) M (fun g M => ?_)
  refine mj_arr ((hp 95).trans rfl) ((hp 96).trans rfl) ((hp 99).trans rfl) ((hp 101).trans rfl) (by decide) (by decide) M (fun g M => ?_)
  refine mj_arr ((hp 104).trans rfl) ((hp 105).trans rfl) ((hp 108).trans rfl) ((hp 110).trans rfl) (by decide) (by decide) M (fun g M => ?_)
  refine mj_arr ((hp 113).trans rfl) ((hp 114).trans rfl) ((hp 117).trans rfl) ((hp 119).trans rfl) (by decide) (by decide) M (fun g M => ?_)
  refine mj_arr ((hp 122).trans rfl) ((hp 123).trans rfl) ((hp 126).trans rfl) ((hp 128).trans rfl) (by decide) (by decide) M (fun g M => ?_)
  refine mj_arr ((hp 131).trans rfl) ((hp 132).trans rfl) ((hp 135).trans rfl) ((hp 137).trans rfl) (by decide) (by decide) M (fun g M => ?_)
  refine mj_arr ((hp 140).trans rfl) ((hp 141).trans rfl) ((hp 144).trans rfl) ((hp 146).trans rfl) (by decide) (by decide) M (fun g M => ?_)
  refine mj_arr ((hp 149).trans rfl) ((hp 150).trans rfl) ((hp 152).trans rfl) ((hp 154).trans rfl) (by decide) (by decide) M (fun g M => ?_)
  refine mj_arr ((hp 157).trans rfl) ((hp 158).trans rfl) ((hp 160).trans rfl) ((hp 162).trans rfl) (by decide) (by decide) M (fun g M => ?_)
  refine mj_arr ((hp 165).trans rfl) ((hp 166).trans rfl) ((hp 169).trans rfl) ((hp 171).trans rfl) (by decide) (by decide) M (fun g M => ?_)
  refine mj_arr ((hp 174).trans rfl) ((hp 175).trans rfl) ((hp 177).trans rfl) ((hp 179).trans rfl) (by decide) (by decide) M (fun g M => ?_)
  refine am_R.next ((hp 182).trans rfl) rfl ?_
  refine am_R.next ((hp 183).trans rfl) rfl ?_
  refine r_newa ((hp 184).trans rfl) (by decide) ?_
  have M2 := M.mk (kd := 1) (n := (4 : Int).toNat) (z := fun _ => 0)
  have g1 := M.1
  have kn : (am_mk g 1 (4 : Int).toNat (fun _ => 0)).2.2.1 g.1 = (1, 4) := by show (if g.1 = g.1 then _ else _) = _; rw [if_pos rfl]; rfl
  generalize hA : g.1 = A at *
  generalize am_mk g 1 (4 : Int).toNat (fun _ => 0) = g2 at *
  have st : ∀ (g : am_H) (i : Int), g.2.2.1 A = (1, 4) → 0 ≤ i → i < 4 → am_inA g ((A : Nat) : Int) 1 i := fun g i k h0 h4 => ⟨by omega, by rw [Int.toNat_natCast, k], h0, by rw [Int.toNat_natCast, k]; exact h4⟩
  refine am_R.next ((hp 186).trans rfl) rfl ?_
  refine am_R.next ((hp 187).trans rfl) rfl ?_
  refine am_R.next ((hp 188).trans rfl) rfl ?_
  refine r_iast ((hp 189).trans rfl) (st _ 0 kn (by omega) (by omega)) ?_
  rw [Int.toNat_natCast]
  have M2 := M2.put (c := A) (k := (0 : Int).toNat) (v := -1) (by omega) (by omega)
  have kn : (am_put g2 A (0 : Int).toNat (-1)).2.2.1 A = (1, 4) := kn
  generalize am_put g2 A (0 : Int).toNat (-1) = g2 at *
  refine am_R.next ((hp 190).trans rfl) rfl ?_
  refine am_R.next ((hp 191).trans rfl) rfl ?_
  refine am_R.next ((hp 192).trans rfl) rfl ?_
  refine r_iast ((hp 193).trans rfl) (st _ 1 kn (by omega) (by omega)) ?_
  rw [Int.toNat_natCast]
  have M2 := M2.put (c := A) (k := (1 : Int).toNat) (v := -1) (by omega) (by omega)
  have kn : (am_put g2 A (1 : Int).toNat (-1)).2.2.1 A = (1, 4) := kn
  generalize am_put g2 A (1 : Int).toNat (-1) = g2 at *
  refine am_R.next ((hp 194).trans rfl) rfl ?_
  refine am_R.next ((hp 195).trans rfl) rfl ?_
  refine am_R.next ((hp 196).trans rfl) rfl ?_
  refine r_iast ((hp 197).trans rfl) (st _ 2 kn (by omega) (by omega)) ?_
  rw [Int.toNat_natCast]
  have M2 := M2.put (c := A) (k := (2 : Int).toNat) (v := -1) (by omega) (by omega)
  have kn : (am_put g2 A (2 : Int).toNat (-1)).2.2.1 A = (1, 4) := kn
  generalize am_put g2 A (2 : Int).toNat (-1) = g2 at *
  refine am_R.next ((hp 198).trans rfl) rfl ?_
  refine am_R.next ((hp 199).trans rfl) rfl ?_
  refine am_R.next ((hp 200).trans rfl) rfl ?_
  refine r_iast ((hp 201).trans rfl) (st _ 3 kn (by omega) (by omega)) ?_
  rw [Int.toNat_natCast]
  have M2 := M2.put (c := A) (k := (3 : Int).toNat) (v := -1) (by omega) (by omega)
  have kn : (am_put g2 A (3 : Int).toNat (-1)).2.2.1 A = (1, 4) := kn
  generalize am_put g2 A (3 : Int).toNat (-1) = g2 at *
  refine r_putR ((hp 202).trans rfl) M2.iso (by omega) ?_
  rw [Int.toNat_natCast]
  have M := M2.put (c := 109) (k := 37) (v := ((A : Nat) : Int)) (by decide) (by decide)
  generalize am_put g2 109 37 ((A : Nat) : Int) = g at M
  refine mj_arr ((hp 205).trans rfl) ((hp 206).trans rfl) ((hp 207).trans rfl) ((hp 209).trans rfl) (by decide) (by decide) M (fun g M => ?_)
  refine mj_arr ((hp 212).trans rfl) ((hp 213).trans rfl) ((hp 216).trans rfl) ((hp 218).trans rfl) (by decide) (by decide) M (fun g M => ?_)
  refine am_R.next ((hp 221).trans rfl) rfl ?_
  refine r_getR ((hp 222).trans rfl) M.iso (v := 110) (by rw [Int.toNat_natCast]; exact M.2.2.1) ?_
  refine r_cs (as := [.inr (.inr (110 : Int))]) (st' := []) ((hp 225).trans rfl) rfl rfl (Nat.le_of_ble_eq_true rfl) (Nat.le_of_ble_eq_true rfl) ?_
  refine mj_plain M (fun g M => ?_)
  refine am_R.next ((hp 228).trans rfl) rfl ?_
  refine r_getR ((hp 229).trans rfl) M.iso (v := 110) (by rw [Int.toNat_natCast]; exact M.2.2.1) ?_
  refine am_R.next ((hp 232).trans rfl) rfl ?_
  refine am_R.next ((hp 234).trans rfl) rfl ?_
  have e : g.2.2.1 (110 : Int).toNat = (1, 3336) := M.2.2.2.1
  refine r_iast ((hp 235).trans rfl) ⟨by omega, by rw [e], by omega, by rw [e]; decide⟩ ?_
  exact am_R.ret ((hp 236).trans rfl) rfl (K _ (M.put (by decide) (by decide)))
end MJs
