theorem r_isFigured (M : MS) (c : Int32) : X8_isFigured M c = some (if fgr c then 1 else 0, M) := by
  by_cases h : fgr c
  · rw [if_pos h]
    rcases h with rfl | rfl | rfl | rfl <;> rfl
  · rw [if_neg h]
    unfold X8_isFigured X8_isFigured_0 X8_isFigured_24 X8_isFigured_29
    rw [if_neg (fun q => h (.inl q)), if_neg (fun q => h (.inr (.inl q))), if_neg (fun q => h (.inr (.inr (.inl q)))), if_neg (fun q => h (.inr (.inr (.inr q))))]
    exact zg_z _ _ (.inl rfl)
theorem r_isBare (M : MS) (c : Int32) : X8_isBare M c = some (if bre c then 1 else 0, M) := by
  by_cases h : bre c
  · rw [if_pos h]
    rcases h with rfl | rfl | rfl | rfl | rfl | rfl | rfl | rfl <;> rfl
  · rw [if_neg h]
    unfold X8_isBare X8_isBare_0 X8_isBare_48 X8_isBare_53
    rw [if_neg (fun q => h (.inl q)), if_neg (fun q => h (.inr (.inl q))), if_neg (fun q => h (.inr (.inr (.inl q)))), if_neg (fun q => h (.inr (.inr (.inr (.inl q))))), if_neg (fun q => h (.inr (.inr (.inr (.inr (.inl q)))))), if_neg (fun q => h (.inr (.inr (.inr (.inr (.inr (.inl q))))))), if_neg (fun q => h (.inr (.inr (.inr (.inr (.inr (.inr (.inl q)))))))), if_neg (fun q => h (.inr (.inr (.inr (.inr (.inr (.inr (.inr q))))))))]
    exact zg_z _ _ (.inl rfl)
theorem k_isLetter (S : AH) (c : Int32) : X1_isLetter S c = some (if bre c ∨ fgr c then 1 else 0, S) := by
  by_cases h : bre c
  · rw [if_pos (.inl h)]
    rcases h with rfl | rfl | rfl | rfl | rfl | rfl | rfl | rfl <;> rfl
  · unfold X1_isLetter X1_isLetter_0
    rw [if_neg (fun q => h (.inr (.inr (.inr (.inr (.inr (.inl q))))))), if_neg (fun q => h (.inr (.inr (.inr (.inr (.inr (.inr (.inl q)))))))), if_neg (fun q => h (.inr (.inr (.inr (.inr (.inr (.inr (.inr q)))))))), if_neg (fun q => h (.inl q)), if_neg (fun q => h (.inr (.inl q))), if_neg (fun q => h (.inr (.inr (.inl q)))), if_neg (fun q => h (.inr (.inr (.inr (.inr (.inl q)))))), if_neg (fun q => h (.inr (.inr (.inr (.inl q))))), k_takesFigure, Option.bind_some]
    by_cases g : fgr c
    · rw [if_pos g, if_pos (.inr g)]
      exact zg_z _ _ (.inr rfl)
    · rw [if_neg g, if_neg (fun q => q.elim h g)]
      exact zg_z _ _ (.inl rfl)
