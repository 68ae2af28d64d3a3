/-! the start, and all operations -/
theorem i3 {i : Nat} (h : i < 3) : i = 0 ∨ i = 1 ∨ i = 2 := by omega
theorem relIni : RelX X0 M0 := by
  refine RelX_k 3 (fun i => i) 0 0 (fun _ => 0) (by omega) (by omega) (fun i hi => Nat.lt_of_lt_of_le hi (by omega)) ?_ ?_ ⟨?_, ?_⟩ ?_ ⟨fun _ => 0, fun s hs => ?_, fun s hs => Nat.zero_le _, Or.inl (fun _ _ => rfl)⟩ ?_ ?_ XI_0 XI_0 ?_ ?_ ⟨by omega, fun k hk => absurd hk (by omega)⟩
  · show R3.1 = nI 3
    decide
  · intro i hi
    show R3.2 i = nI i
    rcases i3 hi with rfl | rfl | rfl
    · decide
    · decide
    · decide
  · decide
  · intro i hi
    rcases i3 hi with rfl | rfl | rfl
    · decide
    · decide
    · decide
  · decide
  · rfl
  · rfl
  · rfl
  · rfl
  · rfl
theorem okAll : OkAll RelX := ⟨fun _ _ x1 h => ok_goTo h x1, fun _ _ x1 h => ok_jump h x1, fun _ _ h => ok_next h, fun _ _ h => ok_previous h, fun _ _ h => ok_nextSmooth h, fun _ _ x1 h => ok_goToSmooth h x1, fun _ _ x1 x2 h => ok_swap h x1 x2, fun _ _ x1 x2 h => ok_turn h x1 x2, fun _ _ x1 x2 h => ok_carry h x1 x2, fun _ _ x1 x2 h => ok_put h x1 x2, fun _ _ x1 h => ok_take h x1, fun _ _ x1 h => ok_append h x1, fun _ _ h => ok_clearBuffer h, fun _ _ h => ok_firstError h, fun _ _ h => ok_read h, fun _ _ h => ok_undo h, fun _ _ x1 h => ok_sign h x1, fun _ _ x1 h => ok_digit h x1, fun _ _ x1 h => ok_many h x1, fun _ _ x1 x2 h => ok_block h x1 x2, fun _ _ x1 h => ok_count h x1, fun _ _ x1 x2 h => ok_ifSwapped h x1 x2, fun _ _ x1 x2 h => ok_signOf h x1 x2, fun _ _ x1 x2 x3 x4 h => ok_having h x1 x2 x3 x4, fun _ _ x1 h => ok_stepsTo h x1, fun _ _ x1 h => ok_bestSwap h x1, fun _ _ h => ok_share h, fun _ _ h => ok_digest h⟩
