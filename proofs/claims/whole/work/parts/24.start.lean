/-! the start: what the statement gives of it, in the small machine's words -/
def am_sf (own : String) (k : Nat) : Term := .field (.string own k) "java/lang/String" "value" "[B"
def am_sat (q : String × Nat × String) : List Cond := [.exactly (.string q.1 q.2.1) "java/lang/String", .eq (.field (.string q.1 q.2.1) "java/lang/String" "coder" "B") (.int 0), .arrayOf (am_sf q.1 q.2.1) .byte, .eq (.length (am_sf q.1 q.2.1)) (.int (Int32.ofNat (q.2.2.toList.length)))] ++ (List.range q.2.2.toList.length).map (fun j => .eq (.elem (am_sf q.1 q.2.1) (.int (Int32.ofNat j))) (.int (Int32.ofInt ((q.2.2.toList.map (fun c => (c.toNat : Int))).getD j 0))))
theorem am_flat : (((flatC (Cond.and given_1 narrow_1)).drop 35).take 413) = am_TX.flatMap am_sat := by decide +kernel
theorem am_wd_any {w : Cond} {s : State} {a0 : Array Value} (hk : am_wk w = true) (h : w.before a0 s = true) : ∀ a : Array Value, w.before a s = true := by
  intro a
  have hW : s.WarmedH s.vm := State.WarmedH.refl s
  unfold am_wk at hk
  rcases (Bool.or_eq_true _ _).mp hk with h1 | h1
  · exact word_at hW (Or.inl h1) h
  · cases w <;> first | (cases h1; done) | skip
    case arrayClass ty => exact word_at hW (Or.inr ⟨ty, rfl⟩) h
    case fieldLinkNest => exact va_Nw.use rfl (va_Nw.of rfl h)
    case methodLinkNest => exact va_Nw.use rfl (va_Nw.of rfl h)
    case castable => exact va_Nw.use rfl (va_Nw.of rfl h)
    case arrayOver ty =>
      cases ty <;> first | (cases h1; done) | skip
      case object C => exact va_AO.use (va_AO.of h)
      case array t => exact Jvm.Stand.arrayOver_alikeB hW.alike h
theorem am_str {args : Array Value} {s : State} {A : Nat → Prop} (hA : ∀ a : Nat, a < s.heap.size → ¬ A a) (hf : ∀ c ∈ am_TX.flatMap am_sat, c.before args s = true) (hw : ∀ q ∈ am_TX, (Cond.stringRef q.1 q.2.1 q.2.2).before args s = true) (j : Nat) (hj : j < am_TX.length) : ∃ ad v, vk_R (am_TX[j]).1 (am_TX[j]).2.1 (am_TX[j]).2.2 ad s ∧ va_O "java/lang/String" ad A s s.heap ∧ va_OF "java/lang/String" "coder" "B" (.int 0) ad A s s.heap ∧ va_OF "java/lang/String" "value" "[B" (.ref v) ad A s s.heap ∧ va_T .byte v (am_tx.getD j []).length (fun i => .int (Int32.ofInt ((am_tx.getD j []).getD i 0))) A s s.heap := by
  have hq : am_TX[j] ∈ am_TX := List.getElem_mem hj
  have htx : am_tx.getD j [] = (am_TX[j]).2.2.toList.map (fun c => (c.toNat : Int)) := by
    unfold am_tx
    rw [List.getD_eq_getElem?_getD, List.getElem?_map, List.getElem?_eq_getElem hj]
    rfl
  rw [htx]
  generalize am_TX[j] = q at hq ⊢
  have hf1 : ∀ c ∈ am_sat q, c.before args s = true := fun c hc => hf c (List.mem_flatMap.mpr ⟨q, hq, hc⟩)
  have hlen : q.2.2.toList.length < 2 ^ 31 := by
    have h2 : ∀ q ∈ am_TX, q.2.2.toList.length < 2 ^ 31 := by decide +kernel
    exact h2 q hq
  obtain ⟨adK, adV, hS, hev⟩ := vk_Sof (args := args) (s := s) (N := 1) (tm := fun _ => .string q.1 q.2.1) (len := [q.2.2.toList.length]) (byt := [(q.2.2.toList.map (fun c => (c.toNat : Int))).map Int32.ofInt]) (A := A)
    (fun i hi => by rw [show i = 0 by omega]; exact hlen)
    (fun i hi => hf1 _ (by simp [am_sat]))
    (fun i hi => hf1 _ (by simp [am_sat]))
    (fun i hi => hf1 _ (by simp [am_sat, am_sf]))
    (fun i hi => by rw [show i = 0 by omega]; exact hf1 _ (by simp [am_sat, am_sf]))
    (fun i hi k hk => by
      rw [show i = 0 by omega] at hk ⊢
      have hk : k < q.2.2.toList.length := hk
      have e : (([(q.2.2.toList.map (fun c => (c.toNat : Int))).map Int32.ofInt] : List (List Int32)).getD 0 []).getD k 0 = Int32.ofInt ((q.2.2.toList.map (fun c => (c.toNat : Int))).getD k 0) := by
        show ((q.2.2.toList.map (fun c => (c.toNat : Int))).map Int32.ofInt).getD k 0 = _
        rw [List.getD_eq_getElem?_getD, List.getD_eq_getElem?_getD, List.getElem?_map, List.getElem?_eq_getElem (by rw [List.length_map]; exact hk)]
        rfl
      rw [e]
      refine hf1 _ ?_
      unfold am_sat
      exact List.mem_append_right _ (List.mem_map.mpr ⟨k, List.mem_range.mpr hk, rfl⟩))
    (fun i k hi hk h => by omega) hA
  obtain ⟨h1, h2, h3, h4⟩ := hS.1 0 (by omega)
  refine ⟨adK 0, adV 0, vk_R.of (hw q hq) (hev 0 (by omega)), h1, h2, h3, ?_⟩
  rw [List.length_map]
  refine (show ∀ {f g : Nat → Value} {n : Nat}, (∀ i, i < n → f i = g i) → va_T .byte (adV 0) n f A s s.heap → va_T .byte (adV 0) n g A s s.heap from fun {f g n} hfg hT => ?_) (fun i hi => ?_) h4
  · obtain ⟨cell, c1, c2, c3, c4, c5, c6, c7⟩ := hT
    exact ⟨cell, c1, c2, c3, c4, c5, fun j hj => by rw [c6 j hj, hfg j hj], c7⟩
  · have hi : i < q.2.2.toList.length := hi
    show Value.int ((((q.2.2.toList.map (fun c => (c.toNat : Int))).map Int32.ofInt)).getD i 0) = _
    rw [List.getD_eq_getElem?_getD, List.getD_eq_getElem?_getD, List.getElem?_map, List.getElem?_eq_getElem (by rw [List.length_map]; exact hi)]
    rfl
