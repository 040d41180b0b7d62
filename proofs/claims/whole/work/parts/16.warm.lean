/-! what the tables say stays said in every later state -/
theorem am_w_warm {w : Cond} {s U : State} (hk : am_wk w = true) (hW : s.WarmedH U.vm) (h : ∀ a : Array Value, w.before a s = true) : ∀ a : Array Value, w.before a U = true := by
  intro a
  unfold am_wk at hk
  rcases (Bool.or_eq_true _ _).mp hk with h1 | h1
  · exact word_at hW (Or.inl h1) (h #[])
  · cases w <;> first | (cases h1; done) | skip
    case arrayClass ty => exact word_at hW (Or.inr ⟨ty, rfl⟩) (h #[])
    case fieldLinkNest => exact va_Nw.use rfl (va_Nw.warmF hW (va_Nw.of rfl (h #[])))
    case methodLinkNest => exact va_Nw.use rfl (va_Nw.warmM hW (va_Nw.of rfl (h #[])))
    case castable => exact va_Nw.use rfl (va_Nw.warmC hW (va_Nw.of rfl (h #[])))
    case arrayOver ty =>
      cases ty <;> first | (cases h1; done) | skip
      case object C => exact va_AO.use (va_AO.moved hW.alike (va_AO.of (h #[])))
      case array t => exact Jvm.Stand.arrayOver_alikeB hW.alike (h #[])
theorem am_T.warm {E : am_E} {s U : State} (hW : s.WarmedH U.vm) (h : am_T E s) : am_T E U := by
  obtain ⟨h1, h2, h3, h4, h5, h6, h7⟩ := h
  have hal := hW.alike
  refine ⟨h1, fun w hw => am_w_warm (List.mem_filter.mp hw).2 hW (h2 w hw), va_K.moved hal h3, fun j q hq => ?_, fun j hj => ?_, ⟨h6.1.moved hal, h6.2.moved hal⟩, ?_⟩
  · obtain ⟨ad, e1, e2⟩ := h4 j q hq
    exact ⟨ad, e1, e2.warm hW⟩
  · obtain ⟨ad, v, e1, e2, e3, e4, e5, e6⟩ := h5 j hj
    exact ⟨ad, v, e1, e2, e3.moved hal, e4.moved hal, e5.moved hal, e6.moved hal⟩
  · obtain ⟨b, e1, e2, e3⟩ := h7
    exact ⟨b, e1, e2, e3.moved hal⟩
