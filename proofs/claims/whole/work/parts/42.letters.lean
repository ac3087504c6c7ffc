/-! ===== letters of words on both sides ===== -/
abbrev fgr (c : Int32) : Prop := c = 119 ∨ c = 105 ∨ c = 102 ∨ c = 112
abbrev bre (c : Int32) : Prop := c = 97 ∨ c = 98 ∨ c = 109 ∨ c = 121 ∨ c = 110 ∨ c = 38 ∨ c = 44 ∨ c = 59
theorem k_takesFigure (S : AH) (c : Int32) : X1_takesFigure S c = some (if fgr c then 1 else 0, S) := by
  unfold X1_takesFigure X1_takesFigure_0 X1_takesFigure_24 X1_takesFigure_29
  simp only [ite_sm]
  by_cases h1 : c = 119
  · rw [if_pos h1, if_pos (show fgr c from .inl h1)]; exact zg_z _ _ (.inr rfl)
  · rw [if_neg h1]
    by_cases h2 : c = 105
    · rw [if_pos h2, if_pos (show fgr c from .inr (.inl h2))]; exact zg_z _ _ (.inr rfl)
    · rw [if_neg h2]
      by_cases h3 : c = 102
      · rw [if_pos h3, if_pos (show fgr c from .inr (.inr (.inl h3)))]; exact zg_z _ _ (.inr rfl)
      · rw [if_neg h3]
        by_cases h4 : c = 112
        · rw [if_pos h4, if_pos (show fgr c from .inr (.inr (.inr h4)))]; exact zg_z _ _ (.inr rfl)
        · rw [if_neg h4, if_neg (show ¬ fgr c from fun q => by rcases q with q | q | q | q <;> contradiction)]; exact zg_z _ _ (.inl rfl)
