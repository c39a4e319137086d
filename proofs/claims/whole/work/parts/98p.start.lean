/-! WHAT HOLDS AT THE START -/
theorem inv_start : InvG FIs C0 N0 (fun _ _ => 0) (fun _ _ => 0) := by
  have z : ∀ b, b < 6 → C0 b = (fun _ _ => 0) := fun b hb => by
    unfold C0
    rw [if_neg (by omega)]
  have z7 : ∀ h, h < 4 → C0 (h + 7) = (fun _ _ => 0) := fun b hb => by
    unfold C0
    rw [if_neg (by omega)]
  have wf : WF (fun _ _ => 0) := by
    refine ⟨⟨0, by decide, rfl⟩, ⟨0, by decide, rfl⟩, fun f _ => ⟨fun w _ => ⟨(show (0 : Int) ≤ (0 : Int32).toInt by decide), (show (0 : Int32).toInt ≤ 65535 by decide)⟩, fun w _ _ => ⟨(show (-1 : Int) ≤ (0 : Int32).toInt by decide), (show (0 : Int32).toInt ≤ 15 by decide)⟩, ⟨(show (0 : Int) ≤ (0 : Int32).toInt by decide), (show (0 : Int32).toInt ≤ 99 by decide)⟩, (show (0 : Int) ≤ (0 : Int32).toInt by decide), (show (0 : Int32).toInt ≤ 999 by decide)⟩, fun f _ => ⟨(show (0 : Int) ≤ (0 : Int32).toInt by decide), (show (0 : Int32).toInt ≤ 63 by decide)⟩, fun t _ => ⟨0, by decide, rfl⟩, fun t m h ht hm => ?_⟩
    have e : (0 : Int32) = nI m := h
    have e2 := congrArg Int32.toInt e
    rw [nI_toInt (by omega), show (0 : Int32).toInt = 0 from rfl] at e2
    omega
  have rp : RP (fun _ _ => 0) (fun _ => 0) := ⟨rfl, rfl, fun _ _ => rfl, fun _ _ => rfl, fun _ _ => ⟨rfl, rfl⟩⟩
  refine ⟨?_, ?_, ?_, ?_, ?_, ?_, ?_⟩
  · rw [z 1 (by decide)]; exact ⟨wf, rp⟩
  · rw [z 2 (by decide)]; exact ⟨wf, rp⟩
  · rw [z 0 (by decide)]; exact ⟨rfl, .inl rfl⟩
  · intro k hk; rw [z 0 (by decide)]
  · rw [z 4 (by decide)]; exact ⟨0, by decide, rfl, rfl, fun k hk => ⟨rfl, (show (0 : Int) ≤ (0 : Int32).toInt by decide), (show (0 : Int32).toInt ≤ 255 by decide)⟩⟩
  · intro h hh
    rw [z7 h hh]
    exact ⟨rfl, rfl, ⟨0, by decide, rfl⟩, .inl rfl, fun _ => rfl, fun _ _ => rfl⟩
  · intro b hb
    left
    have : C0 b = FZ := by
      unfold C0
      rw [if_pos]
      rcases hb with h | h
      · exact .inl h
      · exact .inr (by omega)
    rw [this]
    unfold FZ
    rw [up_eq, if_pos ⟨rfl, rfl⟩]
