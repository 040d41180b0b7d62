/-! what holds between two calls -/
def trR (h : am_H) : Prop := ∀ t : Nat, t < 4 → (h.2.2.2 (95 + 2 * t) 0 = 0 ↔ h.2.2.2 130 t ≠ -1) ∧ (0 ≤ h.2.2.2 (95 + 2 * t) 2 ∧ h.2.2.2 (95 + 2 * t) 2 ≤ 40) ∧ (0 ≤ h.2.2.2 131 t ∧ h.2.2.2 131 t ≤ 40) ∧ (h.2.2.2 130 t ≠ -1 → h.2.2.2 (95 + 2 * t) 1 = h.2.2.2 130 t ∧ h.2.2.2 (95 + 2 * t) 2 = h.2.2.2 131 t ∧ ∀ i : Nat, (i : Int) < h.2.2.2 131 t → h.2.2.2 (95 + 2 * t + 1) i = h.2.2.2 132 (40 * t + i))
def imR (h : am_H) (W : Wd) (a : Nat → Int) (B : Int) : Prop := ∀ i : Nat, i < 2 → h.2.2.2 19 i = h.2.2.2 111 i ∧ (h.2.2.2 19 i = 0 ∨ ∃ sr, plW h W (103 + 3 * i) sr (imgA a i) ∧ rok (imgA a i) (W.2.2.1 sr) B)
def tpR (h : am_H) : Prop := (0 ≤ h.2.2.2 0 1 ∧ h.2.2.2 0 1 ≤ 900) ∧ h.2.2.2 109 5 = h.2.2.2 0 1 ∧ (∀ k : Nat, (k : Int) < h.2.2.2 0 1 → (-128 ≤ h.2.2.2 1 k ∧ h.2.2.2 1 k < 128) ∧ h.2.2.2 112 k = h.2.2.2 1 k % 256) ∧ (h.2.2.2 0 2 = h.2.2.2 109 13 ∧ h.2.2.2 0 3 = h.2.2.2 109 14) ∧ (0 ≤ h.2.2.2 2 2 ∧ h.2.2.2 2 2 ≤ 900)
/-- how many houses were read; the laws' cells are there -/
def hrI (h : am_H) (W : Wd) : Prop := h.2.2.2 0 4 = (W.1 : Int) ∧ ∀ s, s ≤ W.1 → h.2.2.2 (W.2.2.2 s) 12 < (h.1 : Int) ∧ h.2.2.2 (W.2.2.2 s) 13 < (h.1 : Int)
def gI (h : am_H) (W : Wd) (ser : Nat) (B : Int) (a : Nat → Int) : Prop := wf h ∧ wc h W ∧ plW h W 24 ser a ∧ h.2.2.2 110 = a ∧ hok a (W.2.2.1 ser) B ∧ rgC h W ser a ∧ grI h W B ∧ plcI h W B ∧ snI h B ∧ tlI h ∧ imR h W a B ∧ trR h ∧ tpR h ∧ hrI h W
def szI (h : am_H) (n : Nat) (W : Wd) : Prop := h.1 ≤ 133 + 905 * n ∧ h.2.1 ≤ 47498 + 1926 * n ∧ W.1 ≤ n
/-- cells of the class that no answer is kept in -/
def SCL : List Nat := [10, 11, 12, 13, 14, 15, 16, 20, 27, 28, 29, 31, 32, 33, 34, 35, 36, 37, 38, 39, 41, 42, 44, 45, 46, 47, 48, 49, 50, 51, 52, 53, 54, 55, 56, 58, 59, 60, 61, 62]
def SCF : List (Nat × Nat) := [(9, 7), (30, 4), (30, 5), (30, 7), (30, 11), (30, 12), (43, 1), (43, 2), (57, 4), (57, 5), (57, 6), (0, 5)]
def RFL : List Nat := [110, 114, 115, 116, 117, 118, 119, 120, 121, 122, 123, 124, 125, 126, 127, 128, 129]
def RFF : List (Nat × Nat) := [(109, 0), (109, 18), (109, 19), (109, 22), (109, 23), (109, 29), (109, 34)]
section IV
variable {h g k : am_H} {W : Wd} {ser : Nat} {B C : Int} {a b : Nat → Int}
theorem trR.of (x : trR h) (e1 : ∀ t, t < 4 → g.2.2.2 (95 + 2 * t) = h.2.2.2 (95 + 2 * t) ∧ g.2.2.2 (95 + 2 * t + 1) = h.2.2.2 (95 + 2 * t + 1)) (e2 : g.2.2.2 130 = h.2.2.2 130) (e3 : g.2.2.2 131 = h.2.2.2 131) (e4 : g.2.2.2 132 = h.2.2.2 132) : trR g := by
  intro t ht
  have := x t ht
  rw [(e1 t ht).1, (e1 t ht).2, e2, e3, e4]
  exact this
theorem imR.of (x : imR h W a B) (e1 : g.2.2.2 19 = h.2.2.2 19) (e2 : g.2.2.2 111 = h.2.2.2 111) (e3 : ∀ i sr b, i < 2 → plW h W (103 + 3 * i) sr b → plW g W (103 + 3 * i) sr b) (e4 : ∀ j, 1112 ≤ j → b j = a j) (hc : B ≤ C) : imR g W b C := by
  intro i hi
  have ei : imgA b i = imgA a i := funext fun j => e4 _ (by omega)
  obtain ⟨y1, y2⟩ := x i hi
  rw [e1, e2, ei]
  refine ⟨y1, ?_⟩
  rcases y2 with y2 | ⟨sr, z1, z2⟩
  · exact Or.inl y2
  · exact Or.inr ⟨sr, e3 i sr _ hi z1, z2.le hc⟩
theorem tpR.of (x : tpR h) (e0 : ∀ j, j ≤ 3 → g.2.2.2 0 j = h.2.2.2 0 j) (e1 : g.2.2.2 1 = h.2.2.2 1) (e2 : g.2.2.2 2 2 = h.2.2.2 2 2) (e3 : g.2.2.2 109 5 = h.2.2.2 109 5) (e4 : g.2.2.2 109 13 = h.2.2.2 109 13) (e5 : g.2.2.2 109 14 = h.2.2.2 109 14) (e6 : g.2.2.2 112 = h.2.2.2 112) : tpR g := by
  unfold tpR at *
  rw [e0 1 (by omega), e0 2 (by omega), e0 3 (by omega), e1, e2, e3, e4, e5, e6]
  exact x
theorem hrI.of (x : hrI h W) (w : wc h W) (e0 : g.2.2.2 0 4 = h.2.2.2 0 4) (e1 : g.1 = h.1) (ec : ∀ c, 133 ≤ c ∨ c = 21 → g.2.2.2 c = h.2.2.2 c) : hrI g W := by
  refine ⟨by rw [e0]; exact x.1, fun s hs => ?_⟩
  rw [ec _ (w.2.1.2 s hs).1.1, e1]
  exact x.2 s hs
/-- the class's call left what is told as it was -/
theorem gI.cl (x : gI h W ser B a) (w : wf g) (q : fr SCL SCF h g) (w1 : wc g W) (y1 : grI g W C) (y2 : plcI g W C) (y3 : snI g C) (y4 : tlI g) (hc : B ≤ C) : gI g W ser C a := by
  obtain ⟨x1, x2, x3, x4, x5, x6, x7, x8, x9, x10, x11, x12, x13, x14⟩ := x
  have c : ∀ c, c ∉ SCL → (∀ z ∈ SCF, z.1 ≠ c) → g.2.2.2 c = h.2.2.2 c := fun c h1 h2 => q.c c h1 h2
  refine ⟨w, w1, x3.fr q (by decide) (by decide), (c 110 (by decide) (by decide)).trans x4, x5.le hc, x6.fr q (by decide) (by decide), y1, y2, y3, y4, ?_, ?_, ?_, ?_⟩
  · have h1 : ∀ x ∈ SCL, x < 103 := by decide
    have h2 : ∀ x ∈ SCF, x.1 < 103 := by decide
    exact x11.of (c 19 (by decide) (by decide)) (c 111 (by decide) (by decide)) (fun i sr b hi z => z.fr q (fun x hx => by have := h1 x hx; omega) (fun x hx => by have := h2 x hx; omega)) (fun _ _ => rfl) hc
  · refine x12.of (fun t ht => ?_) (c 130 (by decide) (by decide)) (c 131 (by decide) (by decide)) (c 132 (by decide) (by decide))
    have h1 : ∀ x ∈ SCL, x < 95 := by decide
    have h2 : ∀ x ∈ SCF, x.1 < 95 := by decide
    exact ⟨c _ (fun z => by have := h1 _ z; omega) (fun z hz => by have := h2 z hz; omega), c _ (fun z => by have := h1 _ z; omega) (fun z hz => by have := h2 z hz; omega)⟩
  · have h2 : ∀ j, j ≤ 3 → (0, j) ∉ SCF := by decide
    exact x13.of (fun j hj => q.f 0 j (by decide) (h2 j hj)) (c 1 (by decide) (by decide)) (q.f 2 2 (by decide) (by decide)) (q.f 109 5 (by decide) (by decide)) (q.f 109 13 (by decide) (by decide)) (q.f 109 14 (by decide) (by decide)) (c 112 (by decide) (by decide))
  · have h1 : ∀ x ∈ SCL, x < 133 ∧ x ≠ 21 := by decide
    have h2 : ∀ x ∈ SCF, x.1 < 133 ∧ x.1 ≠ 21 := by decide
    exact x14.of x2 (q.f 0 4 (by decide) (by decide)) q.1 (fun d hd => c d (fun z => by have := h1 _ z; omega) (fun z hz => by have := h2 z hz; omega))
/-- the reference's call left what is told as it was -/
theorem gI.rf (x : gI h W ser B a) (w : wf g) (q : fr RFL RFF h g) (e : g.2.2.2 110 = a) : gI g W ser B a := by
  obtain ⟨x1, x2, x3, x4, x5, x6, x7, x8, x9, x10, x11, x12, x13, x14⟩ := x
  have c : ∀ c, c ∉ RFL → (∀ z ∈ RFF, z.1 ≠ c) → g.2.2.2 c = h.2.2.2 c := fun c h1 h2 => q.c c h1 h2
  have h1 : ∀ x ∈ RFL, 110 ≤ x := by decide
  have h2 : ∀ x ∈ RFF, x.1 = 109 := by decide
  have lo : ∀ c, c < 109 → g.2.2.2 c = h.2.2.2 c := fun d hd => c d (fun z => by have := h1 _ z; omega) (fun z hz => by have := h2 z hz; omega)
  refine ⟨w, x2.fr q (by decide) (by decide), x3.fr q (by decide) (by decide), e, x5, x6.fr q (by decide) (by decide), x7.fr q (by decide) (by decide) (by omega), x8.fr q (by decide) (by decide) (by omega), x9.fr q (by decide) (by decide) (by omega), x10.fr q (by decide) (by decide), ?_, ?_, ?_, ?_⟩
  · exact x11.of (lo 19 (by omega)) (c 111 (by decide) (by decide)) (fun i sr b hi z => z.fr q (fun x hx => by have := h1 x hx; omega) (fun x hx => by have := h2 x hx; omega)) (fun _ _ => rfl) (by omega)
  · exact x12.of (fun t ht => ⟨lo _ (by omega), lo _ (by omega)⟩) (c 130 (by decide) (by decide)) (c 131 (by decide) (by decide)) (c 132 (by decide) (by decide))
  · exact x13.of (fun j hj => by rw [lo 0 (by omega)]) (lo 1 (by omega)) (by rw [lo 2 (by omega)]) (q.f 109 5 (by decide) (by decide)) (q.f 109 13 (by decide) (by decide)) (q.f 109 14 (by decide) (by decide)) (c 112 (by decide) (by decide))
  · have h3 : ∀ x ∈ RFL, x < 133 := by decide
    exact x14.of x2 (by rw [lo 0 (by omega)]) q.1 (fun d hd => c d (fun z => by have := h1 _ z; have := h3 _ z; omega) (fun z hz => by have := h2 z hz; omega))
/-- a deed, done by both -/
theorem gI.deed (x : gI h W ser B a) (q : fr DL ((0, 5) :: DF) h g) (w1 : wc g W) (p1 : plW g W 24 ser b) (r1 : rgC g W ser b) (w : wf k) (q2 : fr RFL RFF g k) (e : k.2.2.2 110 = b) (o : nxO a b (W.2.2.1 ser) C) (hc : B ≤ C) : gI k W ser C b := by
  obtain ⟨x1, x2, x3, x4, x5, x6, x7, x8, x9, x10, x11, x12, x13, x14⟩ := x
  have c : ∀ c, c ∉ RFL → (∀ z ∈ RFF, z.1 ≠ c) → k.2.2.2 c = g.2.2.2 c := fun c h1 h2 => q2.c c h1 h2
  have c' : ∀ c, c ∉ DL → (∀ z ∈ (0, 5) :: DF, z.1 ≠ c) → g.2.2.2 c = h.2.2.2 c := fun c h1 h2 => q.c c h1 h2
  have h1 : ∀ x ∈ RFL, 110 ≤ x := by decide
  have h2 : ∀ x ∈ RFF, x.1 = 109 := by decide
  have h3 : ∀ x ∈ DL, x < 95 := by decide
  have h4 : ∀ x ∈ (0, 5) :: DF, x.1 < 95 := by decide
  have lo : ∀ c, c < 109 → k.2.2.2 c = g.2.2.2 c := fun d hd => c d (fun z => by have := h1 _ z; omega) (fun z hz => by have := h2 z hz; omega)
  have hi : ∀ c, 95 ≤ c → g.2.2.2 c = h.2.2.2 c := fun d hd => c' d (fun z => by have := h3 _ z; omega) (fun z hz => by have := h4 z hz; omega)
  refine ⟨w, w1.fr q2 (by decide) (by decide), p1.fr q2 (by decide) (by decide), e, o.1, r1.fr q2 (by decide) (by decide), (x7.fr q (by decide) (by decide) hc).fr q2 (by decide) (by decide) (by omega), (x8.fr q (by decide) (by decide) hc).fr q2 (by decide) (by decide) (by omega), (x9.fr q (by decide) (by decide) hc).fr q2 (by decide) (by decide) (by omega), (x10.fr q (by decide) (by decide)).fr q2 (by decide) (by decide), ?_, ?_, ?_, ?_⟩
  · refine x11.of ((lo 19 (by omega)).trans (c' 19 (by decide) (by decide))) ((c 111 (by decide) (by decide)).trans (hi 111 (by omega))) (fun i sr b hi z => ?_) o.2 hc
    exact (z.fr q (fun x hx => by have := h3 x hx; omega) (fun x hx => by have := h4 x hx; omega)).fr q2 (fun x hx => by have := h1 x hx; omega) (fun x hx => by have := h2 x hx; omega)
  · exact x12.of (fun t ht => ⟨(lo _ (by omega)).trans (hi _ (by omega)), (lo _ (by omega)).trans (hi _ (by omega))⟩) ((c 130 (by decide) (by decide)).trans (hi _ (by omega))) ((c 131 (by decide) (by decide)).trans (hi _ (by omega))) ((c 132 (by decide) (by decide)).trans (hi _ (by omega)))
  · have z0 : ∀ j, j ≤ 3 → (0, j) ∉ (0, 5) :: DF := by decide
    exact x13.of (fun j hj => by rw [lo 0 (by omega)]; exact q.f 0 j (by decide) (z0 j hj)) ((lo 1 (by omega)).trans (c' 1 (by decide) (by decide))) (by rw [lo 2 (by omega)]; exact q.f 2 2 (by decide) (by decide)) ((q2.f 109 5 (by decide) (by decide)).trans (by rw [hi 109 (by omega)])) ((q2.f 109 13 (by decide) (by decide)).trans (by rw [hi 109 (by omega)])) ((q2.f 109 14 (by decide) (by decide)).trans (by rw [hi 109 (by omega)])) ((c 112 (by decide) (by decide)).trans (hi 112 (by omega)))
  · have h5 : ∀ x ∈ RFL, x < 133 := by decide
    have h6 : 21 ∉ DL := by decide
    refine x14.of x2 (by rw [lo 0 (by omega), q.f 0 4 (by decide) (by decide)]) (q2.1.trans q.1) (fun d hd => ?_)
    rw [c d (fun z => by have := h1 _ z; have := h5 _ z; omega) (fun z hz => by have := h2 z hz; omega)]
    rcases hd with hd | rfl
    · exact hi d (by omega)
    · exact c' 21 h6 (by decide)
end IV
