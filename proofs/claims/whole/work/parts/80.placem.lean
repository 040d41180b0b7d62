/-! the best order of the beds: what is meant, and the reference -/
def nowB (a : Nat → Int) (b : Nat) : Bool := (List.range (a 4).toNat).any (fun s => decide (a (16 + s) = (b : Int)))
def bedS (a : Nat → Int) (k : Nat) : List Nat := (List.range k).filter (nowB a)
def plA (a : Nat → Int) (l : List Nat) (j : Nat) : Int := if 16 ≤ j ∧ j < 16 + l.length then (l.getD (j - 16) 0 : Int) else a j
def enF (a : Nat → Int) (f : Nat → (Nat → Int) → Int) : Nat → Nat → Int
  | 0, _ => -1
  | m + 1, n => if actI (seqA a f n) = a 3 then (n : Int) else if seqA a f n % 2 = 1 then -1 else enF a f m (n + 1)
def viF (a : Nat → Int) (f : Nat → (Nat → Int) → Int) (st : Int × List Nat) (l : List Nat) : Int × List Nat := if enF (plA a l) f 181 0 ≠ -1 ∧ (st.1 = -1 ∨ enF (plA a l) f 181 0 < st.1) then (enF (plA a l) f 181 0, l) else st
def plR (a : Nat → Int) (f : Nat → (Nat → Int) → Int) : Int × List Nat := (prL (bedS a 6) (a 4).toNat []).foldl (viF a f) (-1, [])
def q_placing (a : Nat → Int) (f : Nat → (Nat → Int) → Int) (w : Int) : Int := if w = 0 then (plR a f).1 else if 10 ≤ w ∧ w - 10 < a 4 then (if (plR a f).1 = -1 then -1 else ((plR a f).2.getD (w - 10).toNat 0 : Int)) else -2
section PM
variable {a : Nat → Int} {f : Nat → (Nat → Int) → Int} {B : Int}
theorem nowB_t {b : Nat} : nowB a b = true ↔ ∃ s : Nat, (s : Int) < a 4 ∧ a (16 + s) = (b : Int) := by
  unfold nowB
  rw [List.any_eq_true]
  constructor
  · rintro ⟨s, h1, h2⟩
    rw [List.mem_range] at h1
    exact ⟨s, by omega, of_decide_eq_true h2⟩
  · rintro ⟨s, h1, h2⟩
    exact ⟨s, by rw [List.mem_range]; omega, decide_eq_true h2⟩
theorem bedS_m {b k : Nat} : b ∈ bedS a k ↔ (b < k ∧ ∃ s : Nat, (s : Int) < a 4 ∧ a (16 + s) = (b : Int)) := by
  unfold bedS
  rw [List.mem_filter, List.mem_range, nowB_t]
theorem bedS_succ {k : Nat} : bedS a (k + 1) = bedS a k ++ (if nowB a k = true then [k] else []) := by
  unfold bedS
  rw [List.range_succ, List.filter_append]
  congr 1
  by_cases q : nowB a k = true
  · rw [if_pos q]; simp [q]
  · rw [if_neg q]; simp [q]
/-- beds from that number on hold nobody -/
theorem bedS_top (r : rok a f B) : ∀ m, bedS a ((a 1).toNat + m) = bedS a (a 1).toNat := by
  intro m
  induction m with
  | zero => rfl
  | succ m ih =>
    show bedS a ((a 1).toNat + m + 1) = _
    rw [bedS_succ, ih, if_neg, List.append_nil]
    intro q
    obtain ⟨s, s1, s2⟩ := nowB_t.mp q
    have h4 := r.1.1
    have := r.2.1.2.2.1 s (by omega) s1
    have := r.2.1.1
    omega
theorem bedS_6 (r : rok a f B) : bedS a (a 1).toNat = bedS a 6 := by
  have h1 := r.2.1.1
  have := bedS_top r (6 - (a 1).toNat)
  rw [show (a 1).toNat + (6 - (a 1).toNat) = 6 by omega] at this
  exact this.symm
theorem bedS_len (r : rok a f B) : (bedS a 6).length = (a 4).toNat := by
  have h4 := r.1.1
  have l1 : ∀ (p : Nat → Bool) (k : Nat), (((List.range k).filter p).length : Int) = sumZ (fun b => if p b = true then 1 else 0) k := by
    intro p k
    induction k with
    | zero => rfl
    | succ k ih =>
      rw [List.range_succ, List.filter_append, List.length_append, sumZ_succ, Int.natCast_add, ih]
      congr 1
      by_cases q : p k = true
      · simp [q]
      · simp [q]
  have l2 : ∀ k : Nat, k ≤ (a 4).toNat → sumZ (fun b => if (List.range k).any (fun s => decide (a (16 + s) = (b : Int))) = true then 1 else 0) 6 = (k : Int) := by
    intro k
    induction k with
    | zero => intro _; exact sumZ_zero (fun b _ => by simp)
    | succ k ih =>
      intro hk
      have b6 := (r.1.2.2.2.2.1 k (by omega)).1
      have an : ∀ b : Nat, (List.range (k + 1)).any (fun s => decide (a (16 + s) = (b : Int))) = true ↔ ((List.range k).any (fun s => decide (a (16 + s) = (b : Int))) = true ∨ a (16 + k) = (b : Int)) := by
        intro b
        rw [List.range_succ, List.any_append]
        simp
      have nw : ¬ (List.range k).any (fun s => decide (a (16 + s) = (((a (16 + k)).toNat : Nat) : Int))) = true := by
        rw [List.any_eq_true]
        rintro ⟨s, s1, s2⟩
        rw [List.mem_range] at s1
        have s2 := of_decide_eq_true s2
        exact r.2.1.2.2.2 s k (by omega) (by omega) (by omega) (by omega) (by omega) (by omega)
      rw [sumZ_upd (u := fun b => if (List.range k).any (fun s => decide (a (16 + s) = (b : Int))) = true then 1 else 0) (k := (a (16 + k)).toNat) (by omega) (fun i hi hne => ?_), ih (by omega)]
      · show (k : Int) + ((if (List.range (k + 1)).any (fun s => decide (a (16 + s) = (((a (16 + k)).toNat : Nat) : Int))) = true then (1 : Int) else 0) - (if (List.range k).any (fun s => decide (a (16 + s) = (((a (16 + k)).toNat : Nat) : Int))) = true then (1 : Int) else 0)) = _
        rw [if_neg nw, if_pos ((an _).mpr (Or.inr (by omega)))]
        omega
      · show (if (List.range (k + 1)).any (fun s => decide (a (16 + s) = (i : Int))) = true then (1 : Int) else 0) = (if (List.range k).any (fun s => decide (a (16 + s) = (i : Int))) = true then (1 : Int) else 0)
        by_cases q : (List.range k).any (fun s => decide (a (16 + s) = (i : Int))) = true
        · rw [if_pos q, if_pos ((an i).mpr (Or.inl q))]
        · rw [if_neg q, if_neg (fun z => (by
            rcases (an i).mp z with w | w
            · exact q w
            · omega : False))]
  have e1 := l1 (nowB a) 6
  have e2 := l2 (a 4).toNat (by omega)
  have e1 : ((bedS a 6).length : Int) = sumZ (fun b => if nowB a b = true then 1 else 0) 6 := e1
  have e3 : sumZ (fun b => if nowB a b = true then 1 else 0) 6 = sumZ (fun b => if (List.range (a 4).toNat).any (fun s => decide (a (16 + s) = (b : Int))) = true then 1 else 0) 6 := rfl
  rw [e3, e2] at e1
  omega
/-- an order of beds -/
def orP (a : Nat → Int) (l : List Nat) : Prop := l.length = (a 4).toNat ∧ l.Nodup ∧ ∀ b ∈ l, b ∈ bedS a 6
theorem pr_or : ∀ (m : Nat) (pre : List Nat), pre.length + m = (a 4).toNat → pre.Nodup → (∀ b ∈ pre, b ∈ bedS a 6) → ∀ l ∈ prL (bedS a 6) m pre, orP a l := by
  intro m
  induction m with
  | zero =>
    intro pre h1 h2 h3 l hl
    simp only [prL, List.mem_singleton] at hl
    rw [hl]
    exact ⟨by omega, h2, h3⟩
  | succ m ih =>
    intro pre h1 h2 h3 l hl
    simp only [prL] at hl
    rw [List.mem_flatMap] at hl
    obtain ⟨b, b1, b2⟩ := hl
    by_cases q : pre.elem b = true
    · rw [if_pos q] at b2; simp at b2
    · rw [if_neg q] at b2
      have nb : b ∉ pre := fun z => q (List.elem_eq_true_of_mem z)
      refine ih (pre ++ [b]) (by rw [List.length_append]; simp; omega) ?_ (fun c hc => ?_) l b2
      · rw [List.nodup_append]
        refine ⟨h2, by simp, fun x hx y hy => ?_⟩
        rw [List.mem_singleton] at hy
        rw [hy]
        intro z
        exact nb (by rw [← z]; exact hx)
      · rw [List.mem_append, List.mem_singleton] at hc
        rcases hc with q2 | q2
        · exact h3 _ q2
        · rw [q2]; exact b1
theorem orP.rok (r : rok a f B) {l : List Nat} (x : orP a l) : rok (plA a l) f B := by
  have h4 := r.1.1
  obtain ⟨x1, x2, x3⟩ := x
  have e : ∀ j, j < 16 ∨ 22 ≤ j → plA a l j = a j := fun j hj => by
    unfold plA; rw [if_neg (by omega)]
  have el : ∀ i, i < l.length → l.getD i 0 ∈ l := fun i hi => by
    rw [List.getD_eq_getElem?_getD, List.getElem?_eq_getElem hi]; exact List.getElem_mem hi
  have eb : ∀ s : Nat, (s : Int) < a 4 → plA a l (16 + s) = (l.getD s 0 : Int) ∧ l.getD s 0 ∈ bedS a 6 := by
    intro s hs
    unfold plA
    rw [if_pos (by omega), show 16 + s - 16 = s by omega]
    exact ⟨rfl, x3 _ (el s (by omega))⟩
  have eo : ∀ s : Nat, ¬ (s : Int) < a 4 → plA a l (16 + s) = a (16 + s) := by
    intro s hs
    unfold plA
    rw [if_neg (by omega)]
  have lt : ∀ s : Nat, s < 6 → (s : Int) < a 4 → plA a l (16 + s) < a 1 ∧ 0 ≤ plA a l (16 + s) := by
    intro s h6 hs
    obtain ⟨e1, e2⟩ := eb s hs
    obtain ⟨_, t, t1, t2⟩ := bedS_m.mp e2
    have := r.2.1.2.2.1 t (by omega) t1
    rw [e1]
    omega
  refine r.other (fun j hj => e j (by omega)) (fun s hs => ?_) ⟨fun s hs q => ?_, fun s t h1 h2 q1 q2 ne => ?_⟩ ?_
  · rw [e (22 + s) (by omega)]
    refine ⟨?_, (r.1.2.2.2.2.1 s hs).2⟩
    by_cases q : (s : Int) < a 4
    · have := lt s hs q
      have := r.2.1.1
      omega
    · rw [eo s q]; exact (r.1.2.2.2.2.1 s hs).1
  · exact (lt s hs q).1
  · rw [(eb s q1).1, (eb t q2).1]
    intro z
    have z : l.getD s 0 = l.getD t 0 := by omega
    rw [List.getD_eq_getElem?_getD, List.getElem?_eq_getElem (by omega : s < l.length), List.getD_eq_getElem?_getD, List.getElem?_eq_getElem (by omega : t < l.length)] at z
    have pw := List.pairwise_iff_getElem.mp x2
    rcases Nat.lt_trichotomy s t with w | w | w
    · exact pw s t (by omega) (by omega) w z
    · exact ne w
    · exact pw t s (by omega) (by omega) w z.symm
  · rw [e 28 (by omega)]; exact r.2.2.2.1
theorem enF_r (r : rok a f B) : ∀ (m n : Nat), n + m = 181 → (∀ k, k < n → ¬ ovT a (seqA a f k)) → (∃ k : Nat, enF a f m n = (k : Int) ∧ endP a f k) ∨ (enF a f m n = -1 ∧ ∀ k, ¬ endP a f k) := by
  intro m
  induction m with
  | zero =>
    intro n hn no
    refine Or.inr ⟨rfl, fun k y => ?_⟩
    have := y.le r
    exact no k (by omega) (Or.inl y.1)
  | succ m ih =>
    intro n hn no
    simp only [enF]
    by_cases q : actI (seqA a f n) = a 3
    · rw [if_pos q]; exact Or.inl ⟨n, rfl, q, no⟩
    · rw [if_neg q]
      by_cases q2 : seqA a f n % 2 = 1
      · rw [if_pos q2]
        refine Or.inr ⟨rfl, fun k y => ?_⟩
        rcases Nat.lt_trichotomy k n with z | z | z
        · exact no k z (Or.inl y.1)
        · rw [z] at y; exact q y.1
        · exact y.2 n z (Or.inr q2)
      · rw [if_neg q2]
        refine ih (n + 1) (by omega) (fun k hk => ?_)
        by_cases z : k = n
        · rw [z]; intro w
          rcases w with w | w
          · exact q w
          · exact q2 w
        · exact no k (by omega)
theorem enF_0 (r : rok a f B) : (∃ k : Nat, enF a f 181 0 = (k : Int) ∧ endP a f k) ∨ (enF a f 181 0 = -1 ∧ ∀ k, ¬ endP a f k) := enF_r r 181 0 rfl (fun k hk => by omega)
end PM
section PR
variable {scr : Nat × (Nat → Int)} {d : Nat} {h : am_H} {Q : Option am_V → am_H → Prop} {a : Nat → Int} {f : Nat → (Nat → Int) → Int} {B : Int}
theorem k_isNowBed {b : Nat} (hs : am_sc scr) (hw : wf h) (h4 : 0 ≤ a 4 ∧ a 4 ≤ 6) (e4 : h.2.2.2 110 4 = a 4) (e : ∀ s : Nat, s < 6 → h.2.2.2 126 s = a (16 + s)) (H : Q (some (.inl (if nowB a b = true then 1 else 0))) h) : am_R (am_prog scr) d f_M_isNowBed 0 [some (.inr (.inr ((109 : Nat) : Int))), some (.inl ((b : Int))), none] [] h Q := by
  refine w_M_isNowBed_0 hs hw ?_
  have lp : ∀ (m k : Nat), (k : Int) + m = a 4 → (∀ s : Nat, s < k → a (16 + s) ≠ (b : Int)) → am_R (am_prog scr) d f_M_isNowBed 2 [some (.inr (.inr ((109 : Nat) : Int))), some (.inl ((b : Int))), some (.inl ((k : Int)))] [] h Q := by
    intro m
    induction m with
    | zero =>
      intro k hk no
      refine w_M_isNowBed_2 hs hw ⟨fun _ => ?_, fun c => by omega⟩
      rw [if_neg] at H
      · exact H
      · intro q
        obtain ⟨s, s1, s2⟩ := nowB_t.mp q
        exact no s (by omega) s2
    | succ m ih =>
      intro k hk no
      refine w_M_isNowBed_2 hs hw ⟨fun c => by omega, fun _ => ⟨by omega, ?_⟩⟩
      rw [Int.toNat_natCast, e k (by omega)]
      refine ⟨fun c y hy => ?_, fun c => ?_⟩
      · rw [am_w_id (by omega) (by omega)] at hy
        obtain rfl : y = ((k + 1 : Nat) : Int) := by omega
        refine ih (k + 1) (by omega) (fun s hs => ?_)
        by_cases q : s = k
        · rw [q]; exact c
        · exact no s (by omega)
      · rw [if_pos (nowB_t.mpr ⟨k, by omega, c⟩)] at H
        exact H
  exact lp (a 4).toNat 0 (by omega) (fun s hs => by omega)
/-- what the reference holds while it goes through the orders -/
def plI (g : am_H) (a : Nat → Int) (pre : List Nat) (st : Int × List Nat) : Prop := (∀ j : Nat, ¬ (16 ≤ j ∧ (j : Int) < 16 + a 4) → g.2.2.2 110 j = a j) ∧ (∀ i, i < pre.length → g.2.2.2 110 (16 + i) = (pre.getD i 0 : Int)) ∧ (∀ s, s < 6 → g.2.2.2 126 s = a (16 + s)) ∧ g.2.2.2 109 34 = (if st.1 = -1 then 268435456 else st.1) ∧ (st.1 ≠ -1 → (0 ≤ st.1 ∧ st.1 ≤ 180) ∧ ∀ i : Nat, (i : Int) < a 4 → g.2.2.2 127 i = (st.2.getD i 0 : Int))
theorem k_goesPlace (hs : am_sc scr) (r : rok a f B) : ∀ (m : Nat) (pre : List Nat) (h : am_H) (x2 : Int) (st : Int × List Nat) (d : Nat) (Q : Option am_V → am_H → Prop), pre.length + m = (a 4).toNat → pre.Nodup → (∀ b ∈ pre, b ∈ bedS a 6) → wf h → isBits x2 6 (fun b => b ∈ pre) → plI h a pre st → (∀ g, wf g → fr [110, 114, 115, 117, 118, 127] [(109, 22), (109, 23), (109, 34)] h g → plI g a pre ((prL (bedS a 6) m pre).foldl (viF a f) st) → Q none g) → am_R (am_prog scr) (d + m + 7) f_M_goesPlace 0 [some (.inr (.inr ((109 : Nat) : Int))), some (.inl ((pre.length : Int))), some (.inl (x2)), none] [] h Q := by
  have h4 := r.1.1
  have h1 := r.2.1.1
  intro m
  induction m with
  | zero =>
    intro pre h x2 st d Q hl nd ms hw hx y H
    have y0 := y
    obtain ⟨y1, y2, y3, y4, y5⟩ := y
    have op : orP a pre := ⟨by omega, nd, ms⟩
    have ap : h.2.2.2 110 = plA a pre := by
      funext j
      unfold plA
      by_cases q : 16 ≤ j ∧ j < 16 + pre.length
      · rw [if_pos q]
        have := y2 (j - 16) (by omega)
        rw [show 16 + (j - 16) = j by omega] at this
        exact this
      · rw [if_neg q]; exact y1 j (by omega)
    have rp := op.rok r
    have e4 : h.2.2.2 110 4 = a 4 := y1 4 (by omega)
    simp only [prL, List.foldl_cons, List.foldl_nil] at H
    refine w_M_goesPlace_0 hs hw ⟨fun c => by omega, fun _ => ?_⟩
    refine k_goesHow hs hw ap rp (fun g n t wg fg ln e22 hn => ⟨_, rfl, wg, fun c => ?_, fun c => ?_⟩)
    · -- it ends nowhere
      refine H g wg (fg.mono (by decide) (by decide)) ?_
      have e : viF a f st pre = st := by
        unfold viF
        rcases enF_0 rp with ⟨k, k1, k2⟩ | ⟨k1, _⟩
        · exact absurd k2 (ln.end.2 c k)
        · rw [if_neg (fun z => z.1 k1)]
      rw [e]
      refine ⟨fun j hj => ?_, fun i hi => ?_, fun s hs => ?_, ?_, fun q => ⟨(y5 q).1, fun i hi => ?_⟩⟩
      · rw [fg.c 110 (by decide) (by decide)]; exact y1 j hj
      · rw [fg.c 110 (by decide) (by decide)]; exact y2 i hi
      · rw [fg.c 126 (by decide) (by decide)]; exact y3 s hs
      · rw [fg.f 109 34 (by decide) (by decide)]; exact y4
      · rw [fg.c 127 (by decide) (by decide)]; exact (y5 q).2 i hi
    · obtain ⟨t1, en⟩ := ln.end.1 c
      have nl := en.le rp
      have ev : enF (plA a pre) f 181 0 = (n : Int) := by
        rcases enF_0 rp with ⟨k, k1, k2⟩ | ⟨_, k2⟩
        · rw [k1, k2.uniq en]
        · exact absurd en (k2 n)
      rw [if_pos t1] at e22
      have e34 : g.2.2.2 109 34 = (if st.1 = -1 then 268435456 else st.1) := by rw [fg.f 109 34 (by decide) (by decide)]; exact y4
      rw [e22, e34, am_w_id (by omega) (by omega)]
      refine ⟨fun c2 h3 e3 => ?_, fun c2 => ?_⟩
      · have vi : viF a f st pre = ((n : Int), pre) := by
          unfold viF
          rw [ev, if_pos]
          refine ⟨by omega, ?_⟩
          by_cases q : st.1 = -1
          · exact Or.inl q
          · rw [if_neg q] at c2; exact Or.inr (by omega)
        rw [vi] at H
        have w3 : wf h3 := by rw [e3]; exact wg.put np_109_34
        have f3 : fr [110, 114, 115, 117, 118, 127] [(109, 22), (109, 23), (109, 34)] h h3 := by rw [e3]; exact (fg.mono (by decide) (by decide)).put (Or.inr (by decide))
        have lp : ∀ (p k : Nat) (g2 : am_H), k + p = 6 → wf g2 → fr [110, 114, 115, 117, 118, 127] [(109, 22), (109, 23), (109, 34)] h g2 → g2.2.2.2 110 = plA a pre → g2.2.2.2 126 = h.2.2.2 126 → g2.2.2.2 109 34 = (n : Int) → (∀ i, i < k → g2.2.2.2 127 i = plA a pre (16 + i)) → am_R (am_prog scr) (d + 0 + 7) f_M_goesPlace 43 [some (.inr (.inr ((109 : Nat) : Int))), some (.inl ((pre.length : Int))), some (.inl (x2)), some (.inl ((k : Int)))] [] g2 Q := by
          intro p
          induction p with
          | zero =>
            intro k g2 hk w2 f2 a2 b2 e2 c2
            refine w_M_goesPlace_43 hs w2 ⟨fun _ => H g2 w2 f2 ⟨fun j hj => ?_, fun i hi => ?_, fun s hs => ?_, ?_, fun q => ⟨?_, fun i hi => ?_⟩⟩, fun c => by omega⟩
            · rw [a2]; unfold plA; rw [if_neg (by omega)]
            · rw [a2]; unfold plA; rw [if_pos (by omega), show 16 + i - 16 = i by omega]
            · rw [b2]; exact y3 s hs
            · rw [e2, if_neg (by show ¬ (n : Int) = -1; omega)]
            · show 0 ≤ (n : Int) ∧ (n : Int) ≤ 180; omega
            · rw [c2 i (by omega)]; unfold plA; rw [if_pos (by omega), show 16 + i - 16 = i by omega]
          | succ p ih =>
            intro k g2 hk w2 f2 a2 b2 e2 c2
            refine w_M_goesPlace_43 hs w2 ⟨fun c => by omega, fun _ => ?_⟩
            rw [am_w_id (x := 16 + (k : Int)) (by omega) (by omega), a2, show (16 + (k : Int)).toNat = 16 + k by omega, Int.toNat_natCast]
            refine ⟨by omega, by omega, fun h5 e5 q hq => ?_⟩
            rw [am_w_id (by omega) (by omega)] at hq
            obtain rfl : q = ((k + 1 : Nat) : Int) := by omega
            have fq : fr [127] [] g2 h5 := by rw [e5]; exact fr.rfl.put (Or.inl (by simp))
            refine ih (k + 1) h5 (by omega) (by rw [e5]; exact w2.pa (by decide +kernel)) (f2.trans (fq.mono (by decide) (by simp))) (by rw [fq.c 110 (by decide) (by simp)]; exact a2) (by rw [fq.c 126 (by decide) (by simp)]; exact b2) (by rw [fq.f 109 34 (by decide) (by simp)]; exact e2) (fun i hi => ?_)
            rw [e5]
            simp only [put_at, true_and]
            by_cases z : i = k
            · rw [if_pos z, z]
            · rw [if_neg z]; exact c2 i (by omega)
        have fq : fr [] [(109, 34)] g h3 := by rw [e3]; exact fr.rfl.put (Or.inr (by simp))
        exact lp 6 0 h3 rfl w3 f3 (by rw [fq.c 110 (by simp) (by decide), fg.c 110 (by decide) (by decide)]; exact ap) (by rw [fq.c 126 (by simp) (by decide), fg.c 126 (by decide) (by decide)]) (by rw [e3, put_eq]; omega) (fun i hi => by omega)
      · have vi : viF a f st pre = st := by
          unfold viF
          rw [ev, if_neg]
          rintro ⟨_, q⟩
          by_cases z : st.1 = -1
          · rw [if_pos z] at c2; omega
          · rw [if_neg z] at c2; omega
        rw [vi] at H
        refine H g wg (fg.mono (by decide) (by decide)) ⟨fun j hj => ?_, fun i hi => ?_, fun s hs => ?_, e34, fun q => ⟨(y5 q).1, fun i hi => ?_⟩⟩
        · rw [fg.c 110 (by decide) (by decide)]; exact y1 j hj
        · rw [fg.c 110 (by decide) (by decide)]; exact y2 i hi
        · rw [fg.c 126 (by decide) (by decide)]; exact y3 s hs
        · rw [fg.c 127 (by decide) (by decide)]; exact (y5 q).2 i hi
  | succ m ih =>
    intro pre h x2 st d Q hl nd ms hw hx y H
    have xb := hx.2.1
    have xz : ((2 ^ 6 : Nat) : Int) = 64 := by decide
    have e4 : h.2.2.2 110 4 = a 4 := y.1 4 (by omega)
    refine w_M_goesPlace_0 hs hw ⟨fun _ => ?_, fun c => by omega⟩
    have lp : ∀ (p b : Nat) (g : am_H), b + p = (a 1).toNat → wf g → fr [110, 114, 115, 117, 118, 127] [(109, 22), (109, 23), (109, 34)] h g → plI g a pre (((bedS a b).flatMap (fun b => if pre.elem b = true then [] else prL (bedS a 6) m (pre ++ [b]))).foldl (viF a f) st) → am_R (am_prog scr) (d + (m + 1) + 7) f_M_goesPlace 73 [some (.inr (.inr ((109 : Nat) : Int))), some (.inl ((pre.length : Int))), some (.inl (x2)), some (.inl ((b : Int)))] [] g Q := by
      intro p
      induction p with
      | zero =>
        intro b g hb wg fg yg
        have e1 : g.2.2.2 110 1 = a 1 := yg.1 1 (by omega)
        refine w_M_goesPlace_73 hs wg ?_
        rw [e1]
        refine ⟨fun _ => H g wg fg ?_, fun c => by omega⟩
        rw [show b = (a 1).toNat by omega, bedS_6 r] at yg
        simp only [prL]
        exact yg
      | succ p ihp =>
        intro b g hb wg fg yg
        have e1 : g.2.2.2 110 1 = a 1 := yg.1 1 (by omega)
        have e4g : g.2.2.2 110 4 = a 4 := yg.1 4 (by omega)
        have nxt := ihp (b + 1)
        rw [bedS_succ (a := a) (k := b), List.flatMap_append, List.foldl_append] at nxt
        refine w_M_goesPlace_73 hs wg ?_
        rw [e1]
        refine ⟨fun c => by omega, fun _ => ?_⟩
        have pe : x2.toNat.testBit b = true ↔ pre.elem b = true := by
          rw [hx.2.2 b (by omega)]
          exact ⟨fun z => List.elem_eq_true_of_mem z, fun z => List.mem_of_elem_eq_true z⟩
        refine k_isIn hs wg (by have := hx.1; omega) (by omega) ⟨_, rfl, wg, fun c q hq => ?_, fun c => ?_⟩
        · rw [i0, Decidable.not_not] at c
          rw [am_w_id (by omega) (by omega)] at hq
          obtain rfl : q = ((b + 1 : Nat) : Int) := by omega
          refine nxt g (by omega) wg fg ?_
          have e : ((if nowB a b = true then [b] else []).flatMap (fun b => if pre.elem b = true then [] else prL (bedS a 6) m (pre ++ [b]))) = [] := by
            by_cases z : nowB a b = true
            · rw [if_pos z]; simp only [List.flatMap_cons, List.flatMap_nil, List.append_nil]; rw [if_pos (pe.mp c)]
            · rw [if_neg z]; rfl
          rw [e]
          exact yg
        · rw [i0] at c
          refine k_isNowBed (a := a) hs wg h4 e4g yg.2.2.1 ⟨_, rfl, wg, fun c2 => ?_, fun c2 q hq => ?_⟩
          · rw [i0, Decidable.not_not] at c2
            rw [if_pos c2] at nxt
            simp only [List.flatMap_cons, List.flatMap_nil, List.append_nil] at nxt
            rw [if_neg (fun z => c (pe.mpr z))] at nxt
            rw [am_w_id (x := 16 + (pre.length : Int)) (by omega) (by omega), show (16 + (pre.length : Int)).toNat = 16 + pre.length by omega]
            refine ⟨by omega, fun h7 e7 => ?_⟩
            have w7 : wf h7 := by rw [e7]; exact wg.pa (by decide +kernel)
            have f7 : fr [110, 114, 115, 117, 118, 127] [(109, 22), (109, 23), (109, 34)] g h7 := by rw [e7]; exact fr.rfl.put (Or.inl (by decide))
            have nb : b ∉ pre := fun z => c (pe.mpr (List.elem_eq_true_of_mem z))
            have bm : b ∈ bedS a 6 := bedS_m.mpr ⟨by omega, nowB_t.mp c2⟩
            have nd2 : (pre ++ [b]).Nodup := by
              rw [List.nodup_append]
              refine ⟨nd, by simp, fun x hx y hy => ?_⟩
              rw [List.mem_singleton] at hy
              rw [hy]
              intro z
              exact nb (by rw [← z]; exact hx)
            have ms2 : ∀ c ∈ pre ++ [b], c ∈ bedS a 6 := by
              intro c hc
              rw [List.mem_append, List.mem_singleton] at hc
              rcases hc with q | q
              · exact ms _ q
              · rw [q]; exact bm
            have c7 : ∀ j, h7.2.2.2 110 j = if j = 16 + pre.length then (b : Int) else g.2.2.2 110 j := by
              intro j; rw [e7]; simp only [put_at, true_and]
            have fq : fr [110] [] g h7 := by rw [e7]; exact fr.rfl.put (Or.inl (by simp))
            obtain ⟨z1, z2, z3, z4, z5⟩ := yg
            have y7 : plI h7 a (pre ++ [b]) (((bedS a b).flatMap (fun b => if pre.elem b = true then [] else prL (bedS a 6) m (pre ++ [b]))).foldl (viF a f) st) := by
              refine ⟨fun j hj => ?_, fun i hi => ?_, fun s hs => ?_, ?_, fun q => ⟨(z5 q).1, fun i hi => ?_⟩⟩
              · rw [c7, if_neg (by omega)]; exact z1 j hj
              · rw [c7]
                rw [List.length_append, List.length_singleton] at hi
                by_cases q : i = pre.length
                · rw [if_pos (by omega), q, List.getD_eq_getElem?_getD, List.getElem?_append_right (by omega)]; simp
                · rw [if_neg (by omega), List.getD_eq_getElem?_getD, List.getElem?_append_left (by omega), ← List.getD_eq_getElem?_getD]
                  exact z2 i (by omega)
              · rw [fq.c 126 (by decide) (by simp)]; exact z3 s hs
              · rw [fq.f 109 34 (by decide) (by simp)]; exact z4
              · rw [fq.c 127 (by decide) (by simp)]; exact (z5 q).2 i hi
            have hx2 : isBits (am_or x2 (am_shl 1 (b : Int))) 6 (fun c => c ∈ pre ++ [b]) := by
              refine hx.or (by omega) (by omega) (fun s hs2 => ?_)
              rw [List.mem_append, List.mem_singleton]
              have : (s : Int) = (b : Int) ↔ s = b := by omega
              rw [this]
            have := ih (pre ++ [b]) h7 (am_or x2 (am_shl 1 (b : Int))) _ d (fun v g8 => v = none ∧ wf g8 ∧ (∀ y9 : Int, y9 = am_w ((b : Int) + 1) → am_R (am_prog scr) (d + (m + 1) + 7) f_M_goesPlace 73 [some (.inr (.inr ((109 : Nat) : Int))), some (.inl ((pre.length : Int))), some (.inl (x2)), some (.inl (y9))] [] g8 Q)) (by rw [List.length_append, List.length_singleton]; omega) nd2 ms2 w7 hx2 y7 (fun g8 w8 f8 y8 => ⟨rfl, w8, fun q hq => ?_⟩)
            · rw [List.length_append, List.length_singleton, show ((pre.length + 1 : Nat) : Int) = (pre.length : Int) + 1 by omega, ← am_w_id (x := (pre.length : Int) + 1) (by omega) (by omega)] at this
              exact this
            · rw [am_w_id (by omega) (by omega)] at hq
              obtain rfl : q = ((b + 1 : Nat) : Int) := by omega
              refine nxt g8 (by omega) w8 ((fg.trans f7).trans f8) ?_
              obtain ⟨u1, u2, u3, u4, u5⟩ := y8
              refine ⟨u1, fun i hi => ?_, u3, u4, u5⟩
              have := u2 i (by rw [List.length_append]; omega)
              rw [List.getD_eq_getElem?_getD, List.getElem?_append_left hi, ← List.getD_eq_getElem?_getD] at this
              exact this
          · rw [i0] at c2
            rw [am_w_id (by omega) (by omega)] at hq
            obtain rfl : q = ((b + 1 : Nat) : Int) := by omega
            refine nxt g (by omega) wg fg ?_
            rw [if_neg c2]
            exact yg
    exact lp (a 1).toNat 0 h (by omega) hw fr.rfl y
theorem k_Mplacing {w : Int} (hs : am_sc scr) (hw : wf h) (ha : h.2.2.2 110 = a) (r : rok a f B) (hwb : -2147483648 ≤ w ∧ w < 2147483648) (H : ∀ g, wf g → fr [110, 114, 115, 117, 118, 126, 127] [(109, 0), (109, 22), (109, 23), (109, 34)] h g → g.2.2.2 110 = a → Q (some (.inl (q_placing a f w))) g) : am_R (am_prog scr) (d + 15) f_M_placing 0 [some (.inr (.inr ((109 : Nat) : Int))), some (.inl (w)), none] [] h Q := by
  have h4 := r.1.1
  refine w_M_placing_0 hs hw (fun g1 q1 => ?_)
  have w1 : wf g1 := by rw [q1]; exact (put0 hw).1
  have f0 : fr [] [(109, 0)] h g1 := by rw [q1]; exact (put0 hw).2
  have a1 : g1.2.2.2 110 = a := (f0.c 110 (by simp) (by decide)).trans ha
  have f1 : fr [110, 114, 115, 117, 118, 126, 127] [(109, 0), (109, 22), (109, 23), (109, 34)] h g1 := f0.mono (by simp) (by decide)
  -- back, and the answer
  have last : ∀ (g : am_H), (w = 0 ∨ (10 ≤ w ∧ w - 10 < a 4)) → wf g → fr [110, 114, 115, 117, 118, 126, 127] [(109, 0), (109, 22), (109, 23), (109, 34)] h g → plI g a [] (plR a f) → am_R (am_prog scr) (d + 15) f_M_placing 74 [some (.inr (.inr ((109 : Nat) : Int))), some (.inl (w)), some (.inl (0))] [] g Q := by
    intro g hwo wg fg y
    obtain ⟨y1, _, y3, y4, y5⟩ := y
    have lp : ∀ (m k : Nat) (g2 : am_H), k + m = 6 → wf g2 → fr [110, 114, 115, 117, 118, 126, 127] [(109, 0), (109, 22), (109, 23), (109, 34)] h g2 → fr [110] [] g g2 → (∀ j, ¬ (16 + k ≤ j ∧ j < 22) → g2.2.2.2 110 j = a j) → am_R (am_prog scr) (d + 15) f_M_placing 74 [some (.inr (.inr ((109 : Nat) : Int))), some (.inl (w)), some (.inl ((k : Int)))] [] g2 Q := by
      intro m
      induction m with
      | zero =>
        intro k g2 hk w2 f2 fq a2
        have HH := H g2 w2 f2 (funext fun j => a2 j (by omega))
        have e34 : g2.2.2.2 109 34 = (if (plR a f).1 = -1 then 268435456 else (plR a f).1) := by rw [fq.f 109 34 (by decide) (by simp)]; exact y4
        unfold q_placing at HH
        refine w_M_placing_74 hs w2 ⟨fun _ => ?_, fun c => by omega⟩
        rw [e34]
        by_cases q : (plR a f).1 = -1
        · rw [if_pos q] at HH ⊢
          refine ⟨fun c => absurd rfl c, fun _ => ?_⟩
          by_cases q0 : w = 0
          · rw [if_pos q0, q] at HH; exact HH
          · rw [if_neg q0, if_pos (by omega)] at HH; exact HH
        · rw [if_neg q] at HH ⊢
          have z5 := y5 q
          refine ⟨fun _ => ⟨fun c => ?_, fun c => ?_⟩, fun c => by omega⟩
          · rw [am_w_id (x := w - 10) (by omega) (by omega)]
            refine ⟨by omega, ?_⟩
            rw [if_neg c, if_pos (by omega)] at HH
            rw [fq.c 127 (by decide) (by simp), z5.2 (w - 10).toNat (by omega)]
            exact HH
          · rw [if_pos c] at HH; exact HH
      | succ m ih =>
        intro k g2 hk w2 f2 fq a2
        refine w_M_placing_74 hs w2 ⟨fun c => by omega, fun _ => ⟨by omega, ?_⟩⟩
        rw [am_w_id (x := 16 + (k : Int)) (by omega) (by omega), show (16 + (k : Int)).toNat = 16 + k by omega, Int.toNat_natCast, fq.c 126 (by decide) (by simp), y3 k (by omega)]
        refine ⟨by omega, fun h6 e6 q hq => ?_⟩
        rw [am_w_id (by omega) (by omega)] at hq
        obtain rfl : q = ((k + 1 : Nat) : Int) := by omega
        refine ih (k + 1) h6 (by omega) (by rw [e6]; exact w2.pa (by decide +kernel)) (by rw [e6]; exact f2.put (Or.inl (by decide))) (by rw [e6]; exact fq.put (Or.inl (by simp))) (fun j hj => ?_)
        rw [e6]
        simp only [put_at, true_and]
        by_cases z : j = 16 + k
        · rw [if_pos z, z]
        · rw [if_neg z]; exact a2 j (by omega)
    refine lp 6 0 g rfl wg fg fr.rfl (fun j hj => y1 j (by omega))
  have go : (w = 0 ∨ (10 ≤ w ∧ w - 10 < a 4)) → am_R (am_prog scr) (d + 15) f_M_placing 32 [some (.inr (.inr ((109 : Nat) : Int))), some (.inl (w)), some (.inl (0))] [] g1 Q := by
    intro hwo
    have lp : ∀ (m k : Nat) (g2 : am_H), k + m = 6 → wf g2 → fr [126] [] g1 g2 → (∀ s, s < k → g2.2.2.2 126 s = a (16 + s)) → am_R (am_prog scr) (d + 15) f_M_placing 32 [some (.inr (.inr ((109 : Nat) : Int))), some (.inl (w)), some (.inl ((k : Int)))] [] g2 Q := by
      intro m
      induction m with
      | zero =>
        intro k g2 hk w2 f2 b2
        have a2 : g2.2.2.2 110 = a := (f2.c 110 (by decide) (by simp)).trans a1
        refine w_M_placing_32 hs w2 ⟨fun _ h1 e1 => ?_, fun c => by omega⟩
        have w3 : wf h1 := by rw [e1]; exact w2.put np_109_34
        have fq : fr [] [(109, 34)] g2 h1 := by rw [e1]; exact fr.rfl.put (Or.inr (by simp))
        have f3 : fr [110, 114, 115, 117, 118, 126, 127] [(109, 0), (109, 22), (109, 23), (109, 34)] h h1 := (f1.trans (f2.mono (by decide) (by simp))).trans (fq.mono (by simp) (by decide))
        have key := k_goesPlace (f := f) hs r (a 4).toNat [] h1 0 (-1, []) (d + 14 - (a 4).toNat - 7) (fun v g2 => v = none ∧ wf g2 ∧ am_R (am_prog scr) (d + 15) f_M_placing 74 [some (.inr (.inr ((109 : Nat) : Int))), some (.inl (w)), some (.inl (0))] [] g2 Q) (by simp) (by simp) (by simp) w3 (isBits.zero (fun s _ => by simp)) ⟨fun j hj => by rw [fq.c 110 (by simp) (by decide), a2], fun i hi => by simp at hi, fun s hs => by rw [fq.c 126 (by simp) (by decide)]; exact b2 s (by omega), by rw [e1, put_eq]; rfl, fun q => absurd rfl q⟩ (fun g3 w4 f4 y4 => ⟨rfl, w4, last g3 hwo w4 (f3.trans (f4.mono (by decide) (by decide))) y4⟩)
        rw [show d + 14 - (a 4).toNat - 7 + (a 4).toNat + 7 = d + 14 by omega] at key
        exact key
      | succ m ih =>
        intro k g2 hk w2 f2 b2
        have a2 : g2.2.2.2 110 = a := (f2.c 110 (by decide) (by simp)).trans a1
        refine w_M_placing_32 hs w2 ⟨fun c => by omega, fun _ => ?_⟩
        rw [am_w_id (x := 16 + (k : Int)) (by omega) (by omega), show (16 + (k : Int)).toNat = 16 + k by omega, Int.toNat_natCast, a2]
        refine ⟨by omega, by omega, fun h5 e5 q hq => ?_⟩
        rw [am_w_id (by omega) (by omega)] at hq
        obtain rfl : q = ((k + 1 : Nat) : Int) := by omega
        refine ih (k + 1) h5 (by omega) (by rw [e5]; exact w2.pa (by decide +kernel)) (by rw [e5]; exact f2.put (Or.inl (by simp))) (fun s hs => ?_)
        rw [e5]
        simp only [put_at, true_and]
        by_cases z : s = k
        · rw [if_pos z, z]
        · rw [if_neg z]; exact b2 s (by omega)
    exact lp 6 0 g1 rfl w1 fr.rfl (fun s hs => by omega)
  refine ⟨fun c => go (Or.inl c), fun c => ⟨fun c2 => ?_, fun c2 => ?_⟩⟩
  · have HH := H g1 w1 f1 a1
    unfold q_placing at HH
    rw [if_neg c, if_neg (by omega)] at HH
    exact HH
  · rw [am_w_id (x := w - 10) (by omega) (by omega)]
    refine k_isSleeper hs w1 (by rw [a1]; exact h4) (fun v hv => ⟨_, rfl, w1, fun c3 => ?_, fun c3 => ?_⟩)
    · rw [a1] at hv
      exact go (Or.inr (by omega))
    · rw [a1] at hv
      have HH := H g1 w1 f1 a1
      unfold q_placing at HH
      rw [if_neg c, if_neg (by omega)] at HH
      exact HH
end PR
