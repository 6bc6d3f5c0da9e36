/-! the tokens: the class's number, the reference's kind -/
def tokRel (t k : Int) : Prop := (t = 0 ∧ k = 24) ∨ (t = 256 ∧ k = 23) ∨ (t = 257 ∧ k = 22) ∨ (t = 1000 ∧ k = 0) ∨ (t = 1001 ∧ k = 1) ∨ (t = 1002 ∧ k = 5) ∨ (t = 1003 ∧ k = 6) ∨ (t = 1004 ∧ k = 7) ∨ (t = 1005 ∧ k = 8) ∨ (t = 1006 ∧ k = 9) ∨ (t = 1007 ∧ k = 2) ∨ (t = 1008 ∧ k = 3) ∨ (t = 1009 ∧ k = 4) ∨ (t = 1010 ∧ k = 10) ∨ (t = 1011 ∧ k = 11) ∨ (t = 1012 ∧ k = 12) ∨ (t = 1013 ∧ k = 13) ∨ (t = 1014 ∧ k = 14) ∨ (t = 1015 ∧ k = 17) ∨ (t = 1016 ∧ k = 15) ∨ (t = 1017 ∧ k = 16) ∨ (t = 59 ∧ k = 30) ∨ (t = 58 ∧ k = 31) ∨ (t = 43 ∧ k = 32) ∨ (t = 45 ∧ k = 33) ∨ (t = 42 ∧ k = 34) ∨ (t = 40 ∧ k = 35) ∨ (t = 41 ∧ k = 36) ∨ (t = 91 ∧ k = 37) ∨ (t = 93 ∧ k = 38) ∨ (t = 61 ∧ k = 39) ∨ (t = 60 ∧ k = 40) ∨ (t = 62 ∧ k = 41)
theorem tr_24 : tokRel 0 24 := Or.inl ⟨rfl, rfl⟩
theorem tr_23 : tokRel 256 23 := Or.inr (Or.inl ⟨rfl, rfl⟩)
theorem tr_22 : tokRel 257 22 := Or.inr (Or.inr (Or.inl ⟨rfl, rfl⟩))
theorem tr_0 : tokRel 1000 0 := Or.inr (Or.inr (Or.inr (Or.inl ⟨rfl, rfl⟩)))
theorem tr_1 : tokRel 1001 1 := Or.inr (Or.inr (Or.inr (Or.inr (Or.inl ⟨rfl, rfl⟩))))
theorem tr_5 : tokRel 1002 5 := Or.inr (Or.inr (Or.inr (Or.inr (Or.inr (Or.inl ⟨rfl, rfl⟩)))))
theorem tr_6 : tokRel 1003 6 := Or.inr (Or.inr (Or.inr (Or.inr (Or.inr (Or.inr (Or.inl ⟨rfl, rfl⟩))))))
theorem tr_7 : tokRel 1004 7 := Or.inr (Or.inr (Or.inr (Or.inr (Or.inr (Or.inr (Or.inr (Or.inl ⟨rfl, rfl⟩)))))))
theorem tr_8 : tokRel 1005 8 := Or.inr (Or.inr (Or.inr (Or.inr (Or.inr (Or.inr (Or.inr (Or.inr (Or.inl ⟨rfl, rfl⟩))))))))
theorem tr_9 : tokRel 1006 9 := Or.inr (Or.inr (Or.inr (Or.inr (Or.inr (Or.inr (Or.inr (Or.inr (Or.inr (Or.inl ⟨rfl, rfl⟩)))))))))
theorem tr_2 : tokRel 1007 2 := Or.inr (Or.inr (Or.inr (Or.inr (Or.inr (Or.inr (Or.inr (Or.inr (Or.inr (Or.inr (Or.inl ⟨rfl, rfl⟩))))))))))
theorem tr_3 : tokRel 1008 3 := Or.inr (Or.inr (Or.inr (Or.inr (Or.inr (Or.inr (Or.inr (Or.inr (Or.inr (Or.inr (Or.inr (Or.inl ⟨rfl, rfl⟩)))))))))))
theorem tr_4 : tokRel 1009 4 := Or.inr (Or.inr (Or.inr (Or.inr (Or.inr (Or.inr (Or.inr (Or.inr (Or.inr (Or.inr (Or.inr (Or.inr (Or.inl ⟨rfl, rfl⟩))))))))))))
theorem tr_10 : tokRel 1010 10 := Or.inr (Or.inr (Or.inr (Or.inr (Or.inr (Or.inr (Or.inr (Or.inr (Or.inr (Or.inr (Or.inr (Or.inr (Or.inr (Or.inl ⟨rfl, rfl⟩)))))))))))))
theorem tr_11 : tokRel 1011 11 := Or.inr (Or.inr (Or.inr (Or.inr (Or.inr (Or.inr (Or.inr (Or.inr (Or.inr (Or.inr (Or.inr (Or.inr (Or.inr (Or.inr (Or.inl ⟨rfl, rfl⟩))))))))))))))
theorem tr_12 : tokRel 1012 12 := Or.inr (Or.inr (Or.inr (Or.inr (Or.inr (Or.inr (Or.inr (Or.inr (Or.inr (Or.inr (Or.inr (Or.inr (Or.inr (Or.inr (Or.inr (Or.inl ⟨rfl, rfl⟩)))))))))))))))
theorem tr_13 : tokRel 1013 13 := Or.inr (Or.inr (Or.inr (Or.inr (Or.inr (Or.inr (Or.inr (Or.inr (Or.inr (Or.inr (Or.inr (Or.inr (Or.inr (Or.inr (Or.inr (Or.inr (Or.inl ⟨rfl, rfl⟩))))))))))))))))
theorem tr_14 : tokRel 1014 14 := Or.inr (Or.inr (Or.inr (Or.inr (Or.inr (Or.inr (Or.inr (Or.inr (Or.inr (Or.inr (Or.inr (Or.inr (Or.inr (Or.inr (Or.inr (Or.inr (Or.inr (Or.inl ⟨rfl, rfl⟩)))))))))))))))))
theorem tr_17 : tokRel 1015 17 := Or.inr (Or.inr (Or.inr (Or.inr (Or.inr (Or.inr (Or.inr (Or.inr (Or.inr (Or.inr (Or.inr (Or.inr (Or.inr (Or.inr (Or.inr (Or.inr (Or.inr (Or.inr (Or.inl ⟨rfl, rfl⟩))))))))))))))))))
theorem tr_15 : tokRel 1016 15 := Or.inr (Or.inr (Or.inr (Or.inr (Or.inr (Or.inr (Or.inr (Or.inr (Or.inr (Or.inr (Or.inr (Or.inr (Or.inr (Or.inr (Or.inr (Or.inr (Or.inr (Or.inr (Or.inr (Or.inl ⟨rfl, rfl⟩)))))))))))))))))))
theorem tr_16 : tokRel 1017 16 := Or.inr (Or.inr (Or.inr (Or.inr (Or.inr (Or.inr (Or.inr (Or.inr (Or.inr (Or.inr (Or.inr (Or.inr (Or.inr (Or.inr (Or.inr (Or.inr (Or.inr (Or.inr (Or.inr (Or.inr (Or.inl ⟨rfl, rfl⟩))))))))))))))))))))
theorem tr_30 : tokRel 59 30 := Or.inr (Or.inr (Or.inr (Or.inr (Or.inr (Or.inr (Or.inr (Or.inr (Or.inr (Or.inr (Or.inr (Or.inr (Or.inr (Or.inr (Or.inr (Or.inr (Or.inr (Or.inr (Or.inr (Or.inr (Or.inr (Or.inl ⟨rfl, rfl⟩)))))))))))))))))))))
theorem tr_31 : tokRel 58 31 := Or.inr (Or.inr (Or.inr (Or.inr (Or.inr (Or.inr (Or.inr (Or.inr (Or.inr (Or.inr (Or.inr (Or.inr (Or.inr (Or.inr (Or.inr (Or.inr (Or.inr (Or.inr (Or.inr (Or.inr (Or.inr (Or.inr (Or.inl ⟨rfl, rfl⟩))))))))))))))))))))))
theorem tr_32 : tokRel 43 32 := Or.inr (Or.inr (Or.inr (Or.inr (Or.inr (Or.inr (Or.inr (Or.inr (Or.inr (Or.inr (Or.inr (Or.inr (Or.inr (Or.inr (Or.inr (Or.inr (Or.inr (Or.inr (Or.inr (Or.inr (Or.inr (Or.inr (Or.inr (Or.inl ⟨rfl, rfl⟩)))))))))))))))))))))))
theorem tr_33 : tokRel 45 33 := Or.inr (Or.inr (Or.inr (Or.inr (Or.inr (Or.inr (Or.inr (Or.inr (Or.inr (Or.inr (Or.inr (Or.inr (Or.inr (Or.inr (Or.inr (Or.inr (Or.inr (Or.inr (Or.inr (Or.inr (Or.inr (Or.inr (Or.inr (Or.inr (Or.inl ⟨rfl, rfl⟩))))))))))))))))))))))))
theorem tr_34 : tokRel 42 34 := Or.inr (Or.inr (Or.inr (Or.inr (Or.inr (Or.inr (Or.inr (Or.inr (Or.inr (Or.inr (Or.inr (Or.inr (Or.inr (Or.inr (Or.inr (Or.inr (Or.inr (Or.inr (Or.inr (Or.inr (Or.inr (Or.inr (Or.inr (Or.inr (Or.inr (Or.inl ⟨rfl, rfl⟩)))))))))))))))))))))))))
theorem tr_35 : tokRel 40 35 := Or.inr (Or.inr (Or.inr (Or.inr (Or.inr (Or.inr (Or.inr (Or.inr (Or.inr (Or.inr (Or.inr (Or.inr (Or.inr (Or.inr (Or.inr (Or.inr (Or.inr (Or.inr (Or.inr (Or.inr (Or.inr (Or.inr (Or.inr (Or.inr (Or.inr (Or.inr (Or.inl ⟨rfl, rfl⟩))))))))))))))))))))))))))
theorem tr_36 : tokRel 41 36 := Or.inr (Or.inr (Or.inr (Or.inr (Or.inr (Or.inr (Or.inr (Or.inr (Or.inr (Or.inr (Or.inr (Or.inr (Or.inr (Or.inr (Or.inr (Or.inr (Or.inr (Or.inr (Or.inr (Or.inr (Or.inr (Or.inr (Or.inr (Or.inr (Or.inr (Or.inr (Or.inr (Or.inl ⟨rfl, rfl⟩)))))))))))))))))))))))))))
theorem tr_37 : tokRel 91 37 := Or.inr (Or.inr (Or.inr (Or.inr (Or.inr (Or.inr (Or.inr (Or.inr (Or.inr (Or.inr (Or.inr (Or.inr (Or.inr (Or.inr (Or.inr (Or.inr (Or.inr (Or.inr (Or.inr (Or.inr (Or.inr (Or.inr (Or.inr (Or.inr (Or.inr (Or.inr (Or.inr (Or.inr (Or.inl ⟨rfl, rfl⟩))))))))))))))))))))))))))))
theorem tr_38 : tokRel 93 38 := Or.inr (Or.inr (Or.inr (Or.inr (Or.inr (Or.inr (Or.inr (Or.inr (Or.inr (Or.inr (Or.inr (Or.inr (Or.inr (Or.inr (Or.inr (Or.inr (Or.inr (Or.inr (Or.inr (Or.inr (Or.inr (Or.inr (Or.inr (Or.inr (Or.inr (Or.inr (Or.inr (Or.inr (Or.inr (Or.inl ⟨rfl, rfl⟩)))))))))))))))))))))))))))))
theorem tr_39 : tokRel 61 39 := Or.inr (Or.inr (Or.inr (Or.inr (Or.inr (Or.inr (Or.inr (Or.inr (Or.inr (Or.inr (Or.inr (Or.inr (Or.inr (Or.inr (Or.inr (Or.inr (Or.inr (Or.inr (Or.inr (Or.inr (Or.inr (Or.inr (Or.inr (Or.inr (Or.inr (Or.inr (Or.inr (Or.inr (Or.inr (Or.inr (Or.inl ⟨rfl, rfl⟩))))))))))))))))))))))))))))))
theorem tr_40 : tokRel 60 40 := Or.inr (Or.inr (Or.inr (Or.inr (Or.inr (Or.inr (Or.inr (Or.inr (Or.inr (Or.inr (Or.inr (Or.inr (Or.inr (Or.inr (Or.inr (Or.inr (Or.inr (Or.inr (Or.inr (Or.inr (Or.inr (Or.inr (Or.inr (Or.inr (Or.inr (Or.inr (Or.inr (Or.inr (Or.inr (Or.inr (Or.inr (Or.inl ⟨rfl, rfl⟩)))))))))))))))))))))))))))))))
theorem tr_41 : tokRel 62 41 := Or.inr (Or.inr (Or.inr (Or.inr (Or.inr (Or.inr (Or.inr (Or.inr (Or.inr (Or.inr (Or.inr (Or.inr (Or.inr (Or.inr (Or.inr (Or.inr (Or.inr (Or.inr (Or.inr (Or.inr (Or.inr (Or.inr (Or.inr (Or.inr (Or.inr (Or.inr (Or.inr (Or.inr (Or.inr (Or.inr (Or.inr (Or.inr (⟨rfl, rfl⟩))))))))))))))))))))))))))))))))
def pairT (c k : Int) : Prop := (∀ t z, tokRel t z → (t = c ↔ z = k)) ∧ c ≠ 1 ∧ k ≠ 25
theorem pr_24 : pairT 0 24 := ⟨fun t z h => by obtain ⟨rfl, rfl⟩ | ⟨rfl, rfl⟩ | ⟨rfl, rfl⟩ | ⟨rfl, rfl⟩ | ⟨rfl, rfl⟩ | ⟨rfl, rfl⟩ | ⟨rfl, rfl⟩ | ⟨rfl, rfl⟩ | ⟨rfl, rfl⟩ | ⟨rfl, rfl⟩ | ⟨rfl, rfl⟩ | ⟨rfl, rfl⟩ | ⟨rfl, rfl⟩ | ⟨rfl, rfl⟩ | ⟨rfl, rfl⟩ | ⟨rfl, rfl⟩ | ⟨rfl, rfl⟩ | ⟨rfl, rfl⟩ | ⟨rfl, rfl⟩ | ⟨rfl, rfl⟩ | ⟨rfl, rfl⟩ | ⟨rfl, rfl⟩ | ⟨rfl, rfl⟩ | ⟨rfl, rfl⟩ | ⟨rfl, rfl⟩ | ⟨rfl, rfl⟩ | ⟨rfl, rfl⟩ | ⟨rfl, rfl⟩ | ⟨rfl, rfl⟩ | ⟨rfl, rfl⟩ | ⟨rfl, rfl⟩ | ⟨rfl, rfl⟩ | ⟨rfl, rfl⟩ := h <;> decide, by decide, by decide⟩
theorem pr_23 : pairT 256 23 := ⟨fun t z h => by obtain ⟨rfl, rfl⟩ | ⟨rfl, rfl⟩ | ⟨rfl, rfl⟩ | ⟨rfl, rfl⟩ | ⟨rfl, rfl⟩ | ⟨rfl, rfl⟩ | ⟨rfl, rfl⟩ | ⟨rfl, rfl⟩ | ⟨rfl, rfl⟩ | ⟨rfl, rfl⟩ | ⟨rfl, rfl⟩ | ⟨rfl, rfl⟩ | ⟨rfl, rfl⟩ | ⟨rfl, rfl⟩ | ⟨rfl, rfl⟩ | ⟨rfl, rfl⟩ | ⟨rfl, rfl⟩ | ⟨rfl, rfl⟩ | ⟨rfl, rfl⟩ | ⟨rfl, rfl⟩ | ⟨rfl, rfl⟩ | ⟨rfl, rfl⟩ | ⟨rfl, rfl⟩ | ⟨rfl, rfl⟩ | ⟨rfl, rfl⟩ | ⟨rfl, rfl⟩ | ⟨rfl, rfl⟩ | ⟨rfl, rfl⟩ | ⟨rfl, rfl⟩ | ⟨rfl, rfl⟩ | ⟨rfl, rfl⟩ | ⟨rfl, rfl⟩ | ⟨rfl, rfl⟩ := h <;> decide, by decide, by decide⟩
theorem pr_22 : pairT 257 22 := ⟨fun t z h => by obtain ⟨rfl, rfl⟩ | ⟨rfl, rfl⟩ | ⟨rfl, rfl⟩ | ⟨rfl, rfl⟩ | ⟨rfl, rfl⟩ | ⟨rfl, rfl⟩ | ⟨rfl, rfl⟩ | ⟨rfl, rfl⟩ | ⟨rfl, rfl⟩ | ⟨rfl, rfl⟩ | ⟨rfl, rfl⟩ | ⟨rfl, rfl⟩ | ⟨rfl, rfl⟩ | ⟨rfl, rfl⟩ | ⟨rfl, rfl⟩ | ⟨rfl, rfl⟩ | ⟨rfl, rfl⟩ | ⟨rfl, rfl⟩ | ⟨rfl, rfl⟩ | ⟨rfl, rfl⟩ | ⟨rfl, rfl⟩ | ⟨rfl, rfl⟩ | ⟨rfl, rfl⟩ | ⟨rfl, rfl⟩ | ⟨rfl, rfl⟩ | ⟨rfl, rfl⟩ | ⟨rfl, rfl⟩ | ⟨rfl, rfl⟩ | ⟨rfl, rfl⟩ | ⟨rfl, rfl⟩ | ⟨rfl, rfl⟩ | ⟨rfl, rfl⟩ | ⟨rfl, rfl⟩ := h <;> decide, by decide, by decide⟩
theorem pr_0 : pairT 1000 0 := ⟨fun t z h => by obtain ⟨rfl, rfl⟩ | ⟨rfl, rfl⟩ | ⟨rfl, rfl⟩ | ⟨rfl, rfl⟩ | ⟨rfl, rfl⟩ | ⟨rfl, rfl⟩ | ⟨rfl, rfl⟩ | ⟨rfl, rfl⟩ | ⟨rfl, rfl⟩ | ⟨rfl, rfl⟩ | ⟨rfl, rfl⟩ | ⟨rfl, rfl⟩ | ⟨rfl, rfl⟩ | ⟨rfl, rfl⟩ | ⟨rfl, rfl⟩ | ⟨rfl, rfl⟩ | ⟨rfl, rfl⟩ | ⟨rfl, rfl⟩ | ⟨rfl, rfl⟩ | ⟨rfl, rfl⟩ | ⟨rfl, rfl⟩ | ⟨rfl, rfl⟩ | ⟨rfl, rfl⟩ | ⟨rfl, rfl⟩ | ⟨rfl, rfl⟩ | ⟨rfl, rfl⟩ | ⟨rfl, rfl⟩ | ⟨rfl, rfl⟩ | ⟨rfl, rfl⟩ | ⟨rfl, rfl⟩ | ⟨rfl, rfl⟩ | ⟨rfl, rfl⟩ | ⟨rfl, rfl⟩ := h <;> decide, by decide, by decide⟩
theorem pr_1 : pairT 1001 1 := ⟨fun t z h => by obtain ⟨rfl, rfl⟩ | ⟨rfl, rfl⟩ | ⟨rfl, rfl⟩ | ⟨rfl, rfl⟩ | ⟨rfl, rfl⟩ | ⟨rfl, rfl⟩ | ⟨rfl, rfl⟩ | ⟨rfl, rfl⟩ | ⟨rfl, rfl⟩ | ⟨rfl, rfl⟩ | ⟨rfl, rfl⟩ | ⟨rfl, rfl⟩ | ⟨rfl, rfl⟩ | ⟨rfl, rfl⟩ | ⟨rfl, rfl⟩ | ⟨rfl, rfl⟩ | ⟨rfl, rfl⟩ | ⟨rfl, rfl⟩ | ⟨rfl, rfl⟩ | ⟨rfl, rfl⟩ | ⟨rfl, rfl⟩ | ⟨rfl, rfl⟩ | ⟨rfl, rfl⟩ | ⟨rfl, rfl⟩ | ⟨rfl, rfl⟩ | ⟨rfl, rfl⟩ | ⟨rfl, rfl⟩ | ⟨rfl, rfl⟩ | ⟨rfl, rfl⟩ | ⟨rfl, rfl⟩ | ⟨rfl, rfl⟩ | ⟨rfl, rfl⟩ | ⟨rfl, rfl⟩ := h <;> decide, by decide, by decide⟩
theorem pr_5 : pairT 1002 5 := ⟨fun t z h => by obtain ⟨rfl, rfl⟩ | ⟨rfl, rfl⟩ | ⟨rfl, rfl⟩ | ⟨rfl, rfl⟩ | ⟨rfl, rfl⟩ | ⟨rfl, rfl⟩ | ⟨rfl, rfl⟩ | ⟨rfl, rfl⟩ | ⟨rfl, rfl⟩ | ⟨rfl, rfl⟩ | ⟨rfl, rfl⟩ | ⟨rfl, rfl⟩ | ⟨rfl, rfl⟩ | ⟨rfl, rfl⟩ | ⟨rfl, rfl⟩ | ⟨rfl, rfl⟩ | ⟨rfl, rfl⟩ | ⟨rfl, rfl⟩ | ⟨rfl, rfl⟩ | ⟨rfl, rfl⟩ | ⟨rfl, rfl⟩ | ⟨rfl, rfl⟩ | ⟨rfl, rfl⟩ | ⟨rfl, rfl⟩ | ⟨rfl, rfl⟩ | ⟨rfl, rfl⟩ | ⟨rfl, rfl⟩ | ⟨rfl, rfl⟩ | ⟨rfl, rfl⟩ | ⟨rfl, rfl⟩ | ⟨rfl, rfl⟩ | ⟨rfl, rfl⟩ | ⟨rfl, rfl⟩ := h <;> decide, by decide, by decide⟩
theorem pr_6 : pairT 1003 6 := ⟨fun t z h => by obtain ⟨rfl, rfl⟩ | ⟨rfl, rfl⟩ | ⟨rfl, rfl⟩ | ⟨rfl, rfl⟩ | ⟨rfl, rfl⟩ | ⟨rfl, rfl⟩ | ⟨rfl, rfl⟩ | ⟨rfl, rfl⟩ | ⟨rfl, rfl⟩ | ⟨rfl, rfl⟩ | ⟨rfl, rfl⟩ | ⟨rfl, rfl⟩ | ⟨rfl, rfl⟩ | ⟨rfl, rfl⟩ | ⟨rfl, rfl⟩ | ⟨rfl, rfl⟩ | ⟨rfl, rfl⟩ | ⟨rfl, rfl⟩ | ⟨rfl, rfl⟩ | ⟨rfl, rfl⟩ | ⟨rfl, rfl⟩ | ⟨rfl, rfl⟩ | ⟨rfl, rfl⟩ | ⟨rfl, rfl⟩ | ⟨rfl, rfl⟩ | ⟨rfl, rfl⟩ | ⟨rfl, rfl⟩ | ⟨rfl, rfl⟩ | ⟨rfl, rfl⟩ | ⟨rfl, rfl⟩ | ⟨rfl, rfl⟩ | ⟨rfl, rfl⟩ | ⟨rfl, rfl⟩ := h <;> decide, by decide, by decide⟩
theorem pr_7 : pairT 1004 7 := ⟨fun t z h => by obtain ⟨rfl, rfl⟩ | ⟨rfl, rfl⟩ | ⟨rfl, rfl⟩ | ⟨rfl, rfl⟩ | ⟨rfl, rfl⟩ | ⟨rfl, rfl⟩ | ⟨rfl, rfl⟩ | ⟨rfl, rfl⟩ | ⟨rfl, rfl⟩ | ⟨rfl, rfl⟩ | ⟨rfl, rfl⟩ | ⟨rfl, rfl⟩ | ⟨rfl, rfl⟩ | ⟨rfl, rfl⟩ | ⟨rfl, rfl⟩ | ⟨rfl, rfl⟩ | ⟨rfl, rfl⟩ | ⟨rfl, rfl⟩ | ⟨rfl, rfl⟩ | ⟨rfl, rfl⟩ | ⟨rfl, rfl⟩ | ⟨rfl, rfl⟩ | ⟨rfl, rfl⟩ | ⟨rfl, rfl⟩ | ⟨rfl, rfl⟩ | ⟨rfl, rfl⟩ | ⟨rfl, rfl⟩ | ⟨rfl, rfl⟩ | ⟨rfl, rfl⟩ | ⟨rfl, rfl⟩ | ⟨rfl, rfl⟩ | ⟨rfl, rfl⟩ | ⟨rfl, rfl⟩ := h <;> decide, by decide, by decide⟩
theorem pr_8 : pairT 1005 8 := ⟨fun t z h => by obtain ⟨rfl, rfl⟩ | ⟨rfl, rfl⟩ | ⟨rfl, rfl⟩ | ⟨rfl, rfl⟩ | ⟨rfl, rfl⟩ | ⟨rfl, rfl⟩ | ⟨rfl, rfl⟩ | ⟨rfl, rfl⟩ | ⟨rfl, rfl⟩ | ⟨rfl, rfl⟩ | ⟨rfl, rfl⟩ | ⟨rfl, rfl⟩ | ⟨rfl, rfl⟩ | ⟨rfl, rfl⟩ | ⟨rfl, rfl⟩ | ⟨rfl, rfl⟩ | ⟨rfl, rfl⟩ | ⟨rfl, rfl⟩ | ⟨rfl, rfl⟩ | ⟨rfl, rfl⟩ | ⟨rfl, rfl⟩ | ⟨rfl, rfl⟩ | ⟨rfl, rfl⟩ | ⟨rfl, rfl⟩ | ⟨rfl, rfl⟩ | ⟨rfl, rfl⟩ | ⟨rfl, rfl⟩ | ⟨rfl, rfl⟩ | ⟨rfl, rfl⟩ | ⟨rfl, rfl⟩ | ⟨rfl, rfl⟩ | ⟨rfl, rfl⟩ | ⟨rfl, rfl⟩ := h <;> decide, by decide, by decide⟩
theorem pr_9 : pairT 1006 9 := ⟨fun t z h => by obtain ⟨rfl, rfl⟩ | ⟨rfl, rfl⟩ | ⟨rfl, rfl⟩ | ⟨rfl, rfl⟩ | ⟨rfl, rfl⟩ | ⟨rfl, rfl⟩ | ⟨rfl, rfl⟩ | ⟨rfl, rfl⟩ | ⟨rfl, rfl⟩ | ⟨rfl, rfl⟩ | ⟨rfl, rfl⟩ | ⟨rfl, rfl⟩ | ⟨rfl, rfl⟩ | ⟨rfl, rfl⟩ | ⟨rfl, rfl⟩ | ⟨rfl, rfl⟩ | ⟨rfl, rfl⟩ | ⟨rfl, rfl⟩ | ⟨rfl, rfl⟩ | ⟨rfl, rfl⟩ | ⟨rfl, rfl⟩ | ⟨rfl, rfl⟩ | ⟨rfl, rfl⟩ | ⟨rfl, rfl⟩ | ⟨rfl, rfl⟩ | ⟨rfl, rfl⟩ | ⟨rfl, rfl⟩ | ⟨rfl, rfl⟩ | ⟨rfl, rfl⟩ | ⟨rfl, rfl⟩ | ⟨rfl, rfl⟩ | ⟨rfl, rfl⟩ | ⟨rfl, rfl⟩ := h <;> decide, by decide, by decide⟩
theorem pr_2 : pairT 1007 2 := ⟨fun t z h => by obtain ⟨rfl, rfl⟩ | ⟨rfl, rfl⟩ | ⟨rfl, rfl⟩ | ⟨rfl, rfl⟩ | ⟨rfl, rfl⟩ | ⟨rfl, rfl⟩ | ⟨rfl, rfl⟩ | ⟨rfl, rfl⟩ | ⟨rfl, rfl⟩ | ⟨rfl, rfl⟩ | ⟨rfl, rfl⟩ | ⟨rfl, rfl⟩ | ⟨rfl, rfl⟩ | ⟨rfl, rfl⟩ | ⟨rfl, rfl⟩ | ⟨rfl, rfl⟩ | ⟨rfl, rfl⟩ | ⟨rfl, rfl⟩ | ⟨rfl, rfl⟩ | ⟨rfl, rfl⟩ | ⟨rfl, rfl⟩ | ⟨rfl, rfl⟩ | ⟨rfl, rfl⟩ | ⟨rfl, rfl⟩ | ⟨rfl, rfl⟩ | ⟨rfl, rfl⟩ | ⟨rfl, rfl⟩ | ⟨rfl, rfl⟩ | ⟨rfl, rfl⟩ | ⟨rfl, rfl⟩ | ⟨rfl, rfl⟩ | ⟨rfl, rfl⟩ | ⟨rfl, rfl⟩ := h <;> decide, by decide, by decide⟩
theorem pr_3 : pairT 1008 3 := ⟨fun t z h => by obtain ⟨rfl, rfl⟩ | ⟨rfl, rfl⟩ | ⟨rfl, rfl⟩ | ⟨rfl, rfl⟩ | ⟨rfl, rfl⟩ | ⟨rfl, rfl⟩ | ⟨rfl, rfl⟩ | ⟨rfl, rfl⟩ | ⟨rfl, rfl⟩ | ⟨rfl, rfl⟩ | ⟨rfl, rfl⟩ | ⟨rfl, rfl⟩ | ⟨rfl, rfl⟩ | ⟨rfl, rfl⟩ | ⟨rfl, rfl⟩ | ⟨rfl, rfl⟩ | ⟨rfl, rfl⟩ | ⟨rfl, rfl⟩ | ⟨rfl, rfl⟩ | ⟨rfl, rfl⟩ | ⟨rfl, rfl⟩ | ⟨rfl, rfl⟩ | ⟨rfl, rfl⟩ | ⟨rfl, rfl⟩ | ⟨rfl, rfl⟩ | ⟨rfl, rfl⟩ | ⟨rfl, rfl⟩ | ⟨rfl, rfl⟩ | ⟨rfl, rfl⟩ | ⟨rfl, rfl⟩ | ⟨rfl, rfl⟩ | ⟨rfl, rfl⟩ | ⟨rfl, rfl⟩ := h <;> decide, by decide, by decide⟩
theorem pr_4 : pairT 1009 4 := ⟨fun t z h => by obtain ⟨rfl, rfl⟩ | ⟨rfl, rfl⟩ | ⟨rfl, rfl⟩ | ⟨rfl, rfl⟩ | ⟨rfl, rfl⟩ | ⟨rfl, rfl⟩ | ⟨rfl, rfl⟩ | ⟨rfl, rfl⟩ | ⟨rfl, rfl⟩ | ⟨rfl, rfl⟩ | ⟨rfl, rfl⟩ | ⟨rfl, rfl⟩ | ⟨rfl, rfl⟩ | ⟨rfl, rfl⟩ | ⟨rfl, rfl⟩ | ⟨rfl, rfl⟩ | ⟨rfl, rfl⟩ | ⟨rfl, rfl⟩ | ⟨rfl, rfl⟩ | ⟨rfl, rfl⟩ | ⟨rfl, rfl⟩ | ⟨rfl, rfl⟩ | ⟨rfl, rfl⟩ | ⟨rfl, rfl⟩ | ⟨rfl, rfl⟩ | ⟨rfl, rfl⟩ | ⟨rfl, rfl⟩ | ⟨rfl, rfl⟩ | ⟨rfl, rfl⟩ | ⟨rfl, rfl⟩ | ⟨rfl, rfl⟩ | ⟨rfl, rfl⟩ | ⟨rfl, rfl⟩ := h <;> decide, by decide, by decide⟩
theorem pr_10 : pairT 1010 10 := ⟨fun t z h => by obtain ⟨rfl, rfl⟩ | ⟨rfl, rfl⟩ | ⟨rfl, rfl⟩ | ⟨rfl, rfl⟩ | ⟨rfl, rfl⟩ | ⟨rfl, rfl⟩ | ⟨rfl, rfl⟩ | ⟨rfl, rfl⟩ | ⟨rfl, rfl⟩ | ⟨rfl, rfl⟩ | ⟨rfl, rfl⟩ | ⟨rfl, rfl⟩ | ⟨rfl, rfl⟩ | ⟨rfl, rfl⟩ | ⟨rfl, rfl⟩ | ⟨rfl, rfl⟩ | ⟨rfl, rfl⟩ | ⟨rfl, rfl⟩ | ⟨rfl, rfl⟩ | ⟨rfl, rfl⟩ | ⟨rfl, rfl⟩ | ⟨rfl, rfl⟩ | ⟨rfl, rfl⟩ | ⟨rfl, rfl⟩ | ⟨rfl, rfl⟩ | ⟨rfl, rfl⟩ | ⟨rfl, rfl⟩ | ⟨rfl, rfl⟩ | ⟨rfl, rfl⟩ | ⟨rfl, rfl⟩ | ⟨rfl, rfl⟩ | ⟨rfl, rfl⟩ | ⟨rfl, rfl⟩ := h <;> decide, by decide, by decide⟩
theorem pr_11 : pairT 1011 11 := ⟨fun t z h => by obtain ⟨rfl, rfl⟩ | ⟨rfl, rfl⟩ | ⟨rfl, rfl⟩ | ⟨rfl, rfl⟩ | ⟨rfl, rfl⟩ | ⟨rfl, rfl⟩ | ⟨rfl, rfl⟩ | ⟨rfl, rfl⟩ | ⟨rfl, rfl⟩ | ⟨rfl, rfl⟩ | ⟨rfl, rfl⟩ | ⟨rfl, rfl⟩ | ⟨rfl, rfl⟩ | ⟨rfl, rfl⟩ | ⟨rfl, rfl⟩ | ⟨rfl, rfl⟩ | ⟨rfl, rfl⟩ | ⟨rfl, rfl⟩ | ⟨rfl, rfl⟩ | ⟨rfl, rfl⟩ | ⟨rfl, rfl⟩ | ⟨rfl, rfl⟩ | ⟨rfl, rfl⟩ | ⟨rfl, rfl⟩ | ⟨rfl, rfl⟩ | ⟨rfl, rfl⟩ | ⟨rfl, rfl⟩ | ⟨rfl, rfl⟩ | ⟨rfl, rfl⟩ | ⟨rfl, rfl⟩ | ⟨rfl, rfl⟩ | ⟨rfl, rfl⟩ | ⟨rfl, rfl⟩ := h <;> decide, by decide, by decide⟩
theorem pr_12 : pairT 1012 12 := ⟨fun t z h => by obtain ⟨rfl, rfl⟩ | ⟨rfl, rfl⟩ | ⟨rfl, rfl⟩ | ⟨rfl, rfl⟩ | ⟨rfl, rfl⟩ | ⟨rfl, rfl⟩ | ⟨rfl, rfl⟩ | ⟨rfl, rfl⟩ | ⟨rfl, rfl⟩ | ⟨rfl, rfl⟩ | ⟨rfl, rfl⟩ | ⟨rfl, rfl⟩ | ⟨rfl, rfl⟩ | ⟨rfl, rfl⟩ | ⟨rfl, rfl⟩ | ⟨rfl, rfl⟩ | ⟨rfl, rfl⟩ | ⟨rfl, rfl⟩ | ⟨rfl, rfl⟩ | ⟨rfl, rfl⟩ | ⟨rfl, rfl⟩ | ⟨rfl, rfl⟩ | ⟨rfl, rfl⟩ | ⟨rfl, rfl⟩ | ⟨rfl, rfl⟩ | ⟨rfl, rfl⟩ | ⟨rfl, rfl⟩ | ⟨rfl, rfl⟩ | ⟨rfl, rfl⟩ | ⟨rfl, rfl⟩ | ⟨rfl, rfl⟩ | ⟨rfl, rfl⟩ | ⟨rfl, rfl⟩ := h <;> decide, by decide, by decide⟩
theorem pr_13 : pairT 1013 13 := ⟨fun t z h => by obtain ⟨rfl, rfl⟩ | ⟨rfl, rfl⟩ | ⟨rfl, rfl⟩ | ⟨rfl, rfl⟩ | ⟨rfl, rfl⟩ | ⟨rfl, rfl⟩ | ⟨rfl, rfl⟩ | ⟨rfl, rfl⟩ | ⟨rfl, rfl⟩ | ⟨rfl, rfl⟩ | ⟨rfl, rfl⟩ | ⟨rfl, rfl⟩ | ⟨rfl, rfl⟩ | ⟨rfl, rfl⟩ | ⟨rfl, rfl⟩ | ⟨rfl, rfl⟩ | ⟨rfl, rfl⟩ | ⟨rfl, rfl⟩ | ⟨rfl, rfl⟩ | ⟨rfl, rfl⟩ | ⟨rfl, rfl⟩ | ⟨rfl, rfl⟩ | ⟨rfl, rfl⟩ | ⟨rfl, rfl⟩ | ⟨rfl, rfl⟩ | ⟨rfl, rfl⟩ | ⟨rfl, rfl⟩ | ⟨rfl, rfl⟩ | ⟨rfl, rfl⟩ | ⟨rfl, rfl⟩ | ⟨rfl, rfl⟩ | ⟨rfl, rfl⟩ | ⟨rfl, rfl⟩ := h <;> decide, by decide, by decide⟩
theorem pr_14 : pairT 1014 14 := ⟨fun t z h => by obtain ⟨rfl, rfl⟩ | ⟨rfl, rfl⟩ | ⟨rfl, rfl⟩ | ⟨rfl, rfl⟩ | ⟨rfl, rfl⟩ | ⟨rfl, rfl⟩ | ⟨rfl, rfl⟩ | ⟨rfl, rfl⟩ | ⟨rfl, rfl⟩ | ⟨rfl, rfl⟩ | ⟨rfl, rfl⟩ | ⟨rfl, rfl⟩ | ⟨rfl, rfl⟩ | ⟨rfl, rfl⟩ | ⟨rfl, rfl⟩ | ⟨rfl, rfl⟩ | ⟨rfl, rfl⟩ | ⟨rfl, rfl⟩ | ⟨rfl, rfl⟩ | ⟨rfl, rfl⟩ | ⟨rfl, rfl⟩ | ⟨rfl, rfl⟩ | ⟨rfl, rfl⟩ | ⟨rfl, rfl⟩ | ⟨rfl, rfl⟩ | ⟨rfl, rfl⟩ | ⟨rfl, rfl⟩ | ⟨rfl, rfl⟩ | ⟨rfl, rfl⟩ | ⟨rfl, rfl⟩ | ⟨rfl, rfl⟩ | ⟨rfl, rfl⟩ | ⟨rfl, rfl⟩ := h <;> decide, by decide, by decide⟩
theorem pr_17 : pairT 1015 17 := ⟨fun t z h => by obtain ⟨rfl, rfl⟩ | ⟨rfl, rfl⟩ | ⟨rfl, rfl⟩ | ⟨rfl, rfl⟩ | ⟨rfl, rfl⟩ | ⟨rfl, rfl⟩ | ⟨rfl, rfl⟩ | ⟨rfl, rfl⟩ | ⟨rfl, rfl⟩ | ⟨rfl, rfl⟩ | ⟨rfl, rfl⟩ | ⟨rfl, rfl⟩ | ⟨rfl, rfl⟩ | ⟨rfl, rfl⟩ | ⟨rfl, rfl⟩ | ⟨rfl, rfl⟩ | ⟨rfl, rfl⟩ | ⟨rfl, rfl⟩ | ⟨rfl, rfl⟩ | ⟨rfl, rfl⟩ | ⟨rfl, rfl⟩ | ⟨rfl, rfl⟩ | ⟨rfl, rfl⟩ | ⟨rfl, rfl⟩ | ⟨rfl, rfl⟩ | ⟨rfl, rfl⟩ | ⟨rfl, rfl⟩ | ⟨rfl, rfl⟩ | ⟨rfl, rfl⟩ | ⟨rfl, rfl⟩ | ⟨rfl, rfl⟩ | ⟨rfl, rfl⟩ | ⟨rfl, rfl⟩ := h <;> decide, by decide, by decide⟩
theorem pr_15 : pairT 1016 15 := ⟨fun t z h => by obtain ⟨rfl, rfl⟩ | ⟨rfl, rfl⟩ | ⟨rfl, rfl⟩ | ⟨rfl, rfl⟩ | ⟨rfl, rfl⟩ | ⟨rfl, rfl⟩ | ⟨rfl, rfl⟩ | ⟨rfl, rfl⟩ | ⟨rfl, rfl⟩ | ⟨rfl, rfl⟩ | ⟨rfl, rfl⟩ | ⟨rfl, rfl⟩ | ⟨rfl, rfl⟩ | ⟨rfl, rfl⟩ | ⟨rfl, rfl⟩ | ⟨rfl, rfl⟩ | ⟨rfl, rfl⟩ | ⟨rfl, rfl⟩ | ⟨rfl, rfl⟩ | ⟨rfl, rfl⟩ | ⟨rfl, rfl⟩ | ⟨rfl, rfl⟩ | ⟨rfl, rfl⟩ | ⟨rfl, rfl⟩ | ⟨rfl, rfl⟩ | ⟨rfl, rfl⟩ | ⟨rfl, rfl⟩ | ⟨rfl, rfl⟩ | ⟨rfl, rfl⟩ | ⟨rfl, rfl⟩ | ⟨rfl, rfl⟩ | ⟨rfl, rfl⟩ | ⟨rfl, rfl⟩ := h <;> decide, by decide, by decide⟩
theorem pr_16 : pairT 1017 16 := ⟨fun t z h => by obtain ⟨rfl, rfl⟩ | ⟨rfl, rfl⟩ | ⟨rfl, rfl⟩ | ⟨rfl, rfl⟩ | ⟨rfl, rfl⟩ | ⟨rfl, rfl⟩ | ⟨rfl, rfl⟩ | ⟨rfl, rfl⟩ | ⟨rfl, rfl⟩ | ⟨rfl, rfl⟩ | ⟨rfl, rfl⟩ | ⟨rfl, rfl⟩ | ⟨rfl, rfl⟩ | ⟨rfl, rfl⟩ | ⟨rfl, rfl⟩ | ⟨rfl, rfl⟩ | ⟨rfl, rfl⟩ | ⟨rfl, rfl⟩ | ⟨rfl, rfl⟩ | ⟨rfl, rfl⟩ | ⟨rfl, rfl⟩ | ⟨rfl, rfl⟩ | ⟨rfl, rfl⟩ | ⟨rfl, rfl⟩ | ⟨rfl, rfl⟩ | ⟨rfl, rfl⟩ | ⟨rfl, rfl⟩ | ⟨rfl, rfl⟩ | ⟨rfl, rfl⟩ | ⟨rfl, rfl⟩ | ⟨rfl, rfl⟩ | ⟨rfl, rfl⟩ | ⟨rfl, rfl⟩ := h <;> decide, by decide, by decide⟩
theorem pr_30 : pairT 59 30 := ⟨fun t z h => by obtain ⟨rfl, rfl⟩ | ⟨rfl, rfl⟩ | ⟨rfl, rfl⟩ | ⟨rfl, rfl⟩ | ⟨rfl, rfl⟩ | ⟨rfl, rfl⟩ | ⟨rfl, rfl⟩ | ⟨rfl, rfl⟩ | ⟨rfl, rfl⟩ | ⟨rfl, rfl⟩ | ⟨rfl, rfl⟩ | ⟨rfl, rfl⟩ | ⟨rfl, rfl⟩ | ⟨rfl, rfl⟩ | ⟨rfl, rfl⟩ | ⟨rfl, rfl⟩ | ⟨rfl, rfl⟩ | ⟨rfl, rfl⟩ | ⟨rfl, rfl⟩ | ⟨rfl, rfl⟩ | ⟨rfl, rfl⟩ | ⟨rfl, rfl⟩ | ⟨rfl, rfl⟩ | ⟨rfl, rfl⟩ | ⟨rfl, rfl⟩ | ⟨rfl, rfl⟩ | ⟨rfl, rfl⟩ | ⟨rfl, rfl⟩ | ⟨rfl, rfl⟩ | ⟨rfl, rfl⟩ | ⟨rfl, rfl⟩ | ⟨rfl, rfl⟩ | ⟨rfl, rfl⟩ := h <;> decide, by decide, by decide⟩
theorem pr_31 : pairT 58 31 := ⟨fun t z h => by obtain ⟨rfl, rfl⟩ | ⟨rfl, rfl⟩ | ⟨rfl, rfl⟩ | ⟨rfl, rfl⟩ | ⟨rfl, rfl⟩ | ⟨rfl, rfl⟩ | ⟨rfl, rfl⟩ | ⟨rfl, rfl⟩ | ⟨rfl, rfl⟩ | ⟨rfl, rfl⟩ | ⟨rfl, rfl⟩ | ⟨rfl, rfl⟩ | ⟨rfl, rfl⟩ | ⟨rfl, rfl⟩ | ⟨rfl, rfl⟩ | ⟨rfl, rfl⟩ | ⟨rfl, rfl⟩ | ⟨rfl, rfl⟩ | ⟨rfl, rfl⟩ | ⟨rfl, rfl⟩ | ⟨rfl, rfl⟩ | ⟨rfl, rfl⟩ | ⟨rfl, rfl⟩ | ⟨rfl, rfl⟩ | ⟨rfl, rfl⟩ | ⟨rfl, rfl⟩ | ⟨rfl, rfl⟩ | ⟨rfl, rfl⟩ | ⟨rfl, rfl⟩ | ⟨rfl, rfl⟩ | ⟨rfl, rfl⟩ | ⟨rfl, rfl⟩ | ⟨rfl, rfl⟩ := h <;> decide, by decide, by decide⟩
theorem pr_32 : pairT 43 32 := ⟨fun t z h => by obtain ⟨rfl, rfl⟩ | ⟨rfl, rfl⟩ | ⟨rfl, rfl⟩ | ⟨rfl, rfl⟩ | ⟨rfl, rfl⟩ | ⟨rfl, rfl⟩ | ⟨rfl, rfl⟩ | ⟨rfl, rfl⟩ | ⟨rfl, rfl⟩ | ⟨rfl, rfl⟩ | ⟨rfl, rfl⟩ | ⟨rfl, rfl⟩ | ⟨rfl, rfl⟩ | ⟨rfl, rfl⟩ | ⟨rfl, rfl⟩ | ⟨rfl, rfl⟩ | ⟨rfl, rfl⟩ | ⟨rfl, rfl⟩ | ⟨rfl, rfl⟩ | ⟨rfl, rfl⟩ | ⟨rfl, rfl⟩ | ⟨rfl, rfl⟩ | ⟨rfl, rfl⟩ | ⟨rfl, rfl⟩ | ⟨rfl, rfl⟩ | ⟨rfl, rfl⟩ | ⟨rfl, rfl⟩ | ⟨rfl, rfl⟩ | ⟨rfl, rfl⟩ | ⟨rfl, rfl⟩ | ⟨rfl, rfl⟩ | ⟨rfl, rfl⟩ | ⟨rfl, rfl⟩ := h <;> decide, by decide, by decide⟩
theorem pr_33 : pairT 45 33 := ⟨fun t z h => by obtain ⟨rfl, rfl⟩ | ⟨rfl, rfl⟩ | ⟨rfl, rfl⟩ | ⟨rfl, rfl⟩ | ⟨rfl, rfl⟩ | ⟨rfl, rfl⟩ | ⟨rfl, rfl⟩ | ⟨rfl, rfl⟩ | ⟨rfl, rfl⟩ | ⟨rfl, rfl⟩ | ⟨rfl, rfl⟩ | ⟨rfl, rfl⟩ | ⟨rfl, rfl⟩ | ⟨rfl, rfl⟩ | ⟨rfl, rfl⟩ | ⟨rfl, rfl⟩ | ⟨rfl, rfl⟩ | ⟨rfl, rfl⟩ | ⟨rfl, rfl⟩ | ⟨rfl, rfl⟩ | ⟨rfl, rfl⟩ | ⟨rfl, rfl⟩ | ⟨rfl, rfl⟩ | ⟨rfl, rfl⟩ | ⟨rfl, rfl⟩ | ⟨rfl, rfl⟩ | ⟨rfl, rfl⟩ | ⟨rfl, rfl⟩ | ⟨rfl, rfl⟩ | ⟨rfl, rfl⟩ | ⟨rfl, rfl⟩ | ⟨rfl, rfl⟩ | ⟨rfl, rfl⟩ := h <;> decide, by decide, by decide⟩
theorem pr_34 : pairT 42 34 := ⟨fun t z h => by obtain ⟨rfl, rfl⟩ | ⟨rfl, rfl⟩ | ⟨rfl, rfl⟩ | ⟨rfl, rfl⟩ | ⟨rfl, rfl⟩ | ⟨rfl, rfl⟩ | ⟨rfl, rfl⟩ | ⟨rfl, rfl⟩ | ⟨rfl, rfl⟩ | ⟨rfl, rfl⟩ | ⟨rfl, rfl⟩ | ⟨rfl, rfl⟩ | ⟨rfl, rfl⟩ | ⟨rfl, rfl⟩ | ⟨rfl, rfl⟩ | ⟨rfl, rfl⟩ | ⟨rfl, rfl⟩ | ⟨rfl, rfl⟩ | ⟨rfl, rfl⟩ | ⟨rfl, rfl⟩ | ⟨rfl, rfl⟩ | ⟨rfl, rfl⟩ | ⟨rfl, rfl⟩ | ⟨rfl, rfl⟩ | ⟨rfl, rfl⟩ | ⟨rfl, rfl⟩ | ⟨rfl, rfl⟩ | ⟨rfl, rfl⟩ | ⟨rfl, rfl⟩ | ⟨rfl, rfl⟩ | ⟨rfl, rfl⟩ | ⟨rfl, rfl⟩ | ⟨rfl, rfl⟩ := h <;> decide, by decide, by decide⟩
theorem pr_35 : pairT 40 35 := ⟨fun t z h => by obtain ⟨rfl, rfl⟩ | ⟨rfl, rfl⟩ | ⟨rfl, rfl⟩ | ⟨rfl, rfl⟩ | ⟨rfl, rfl⟩ | ⟨rfl, rfl⟩ | ⟨rfl, rfl⟩ | ⟨rfl, rfl⟩ | ⟨rfl, rfl⟩ | ⟨rfl, rfl⟩ | ⟨rfl, rfl⟩ | ⟨rfl, rfl⟩ | ⟨rfl, rfl⟩ | ⟨rfl, rfl⟩ | ⟨rfl, rfl⟩ | ⟨rfl, rfl⟩ | ⟨rfl, rfl⟩ | ⟨rfl, rfl⟩ | ⟨rfl, rfl⟩ | ⟨rfl, rfl⟩ | ⟨rfl, rfl⟩ | ⟨rfl, rfl⟩ | ⟨rfl, rfl⟩ | ⟨rfl, rfl⟩ | ⟨rfl, rfl⟩ | ⟨rfl, rfl⟩ | ⟨rfl, rfl⟩ | ⟨rfl, rfl⟩ | ⟨rfl, rfl⟩ | ⟨rfl, rfl⟩ | ⟨rfl, rfl⟩ | ⟨rfl, rfl⟩ | ⟨rfl, rfl⟩ := h <;> decide, by decide, by decide⟩
theorem pr_36 : pairT 41 36 := ⟨fun t z h => by obtain ⟨rfl, rfl⟩ | ⟨rfl, rfl⟩ | ⟨rfl, rfl⟩ | ⟨rfl, rfl⟩ | ⟨rfl, rfl⟩ | ⟨rfl, rfl⟩ | ⟨rfl, rfl⟩ | ⟨rfl, rfl⟩ | ⟨rfl, rfl⟩ | ⟨rfl, rfl⟩ | ⟨rfl, rfl⟩ | ⟨rfl, rfl⟩ | ⟨rfl, rfl⟩ | ⟨rfl, rfl⟩ | ⟨rfl, rfl⟩ | ⟨rfl, rfl⟩ | ⟨rfl, rfl⟩ | ⟨rfl, rfl⟩ | ⟨rfl, rfl⟩ | ⟨rfl, rfl⟩ | ⟨rfl, rfl⟩ | ⟨rfl, rfl⟩ | ⟨rfl, rfl⟩ | ⟨rfl, rfl⟩ | ⟨rfl, rfl⟩ | ⟨rfl, rfl⟩ | ⟨rfl, rfl⟩ | ⟨rfl, rfl⟩ | ⟨rfl, rfl⟩ | ⟨rfl, rfl⟩ | ⟨rfl, rfl⟩ | ⟨rfl, rfl⟩ | ⟨rfl, rfl⟩ := h <;> decide, by decide, by decide⟩
theorem pr_37 : pairT 91 37 := ⟨fun t z h => by obtain ⟨rfl, rfl⟩ | ⟨rfl, rfl⟩ | ⟨rfl, rfl⟩ | ⟨rfl, rfl⟩ | ⟨rfl, rfl⟩ | ⟨rfl, rfl⟩ | ⟨rfl, rfl⟩ | ⟨rfl, rfl⟩ | ⟨rfl, rfl⟩ | ⟨rfl, rfl⟩ | ⟨rfl, rfl⟩ | ⟨rfl, rfl⟩ | ⟨rfl, rfl⟩ | ⟨rfl, rfl⟩ | ⟨rfl, rfl⟩ | ⟨rfl, rfl⟩ | ⟨rfl, rfl⟩ | ⟨rfl, rfl⟩ | ⟨rfl, rfl⟩ | ⟨rfl, rfl⟩ | ⟨rfl, rfl⟩ | ⟨rfl, rfl⟩ | ⟨rfl, rfl⟩ | ⟨rfl, rfl⟩ | ⟨rfl, rfl⟩ | ⟨rfl, rfl⟩ | ⟨rfl, rfl⟩ | ⟨rfl, rfl⟩ | ⟨rfl, rfl⟩ | ⟨rfl, rfl⟩ | ⟨rfl, rfl⟩ | ⟨rfl, rfl⟩ | ⟨rfl, rfl⟩ := h <;> decide, by decide, by decide⟩
theorem pr_38 : pairT 93 38 := ⟨fun t z h => by obtain ⟨rfl, rfl⟩ | ⟨rfl, rfl⟩ | ⟨rfl, rfl⟩ | ⟨rfl, rfl⟩ | ⟨rfl, rfl⟩ | ⟨rfl, rfl⟩ | ⟨rfl, rfl⟩ | ⟨rfl, rfl⟩ | ⟨rfl, rfl⟩ | ⟨rfl, rfl⟩ | ⟨rfl, rfl⟩ | ⟨rfl, rfl⟩ | ⟨rfl, rfl⟩ | ⟨rfl, rfl⟩ | ⟨rfl, rfl⟩ | ⟨rfl, rfl⟩ | ⟨rfl, rfl⟩ | ⟨rfl, rfl⟩ | ⟨rfl, rfl⟩ | ⟨rfl, rfl⟩ | ⟨rfl, rfl⟩ | ⟨rfl, rfl⟩ | ⟨rfl, rfl⟩ | ⟨rfl, rfl⟩ | ⟨rfl, rfl⟩ | ⟨rfl, rfl⟩ | ⟨rfl, rfl⟩ | ⟨rfl, rfl⟩ | ⟨rfl, rfl⟩ | ⟨rfl, rfl⟩ | ⟨rfl, rfl⟩ | ⟨rfl, rfl⟩ | ⟨rfl, rfl⟩ := h <;> decide, by decide, by decide⟩
theorem pr_39 : pairT 61 39 := ⟨fun t z h => by obtain ⟨rfl, rfl⟩ | ⟨rfl, rfl⟩ | ⟨rfl, rfl⟩ | ⟨rfl, rfl⟩ | ⟨rfl, rfl⟩ | ⟨rfl, rfl⟩ | ⟨rfl, rfl⟩ | ⟨rfl, rfl⟩ | ⟨rfl, rfl⟩ | ⟨rfl, rfl⟩ | ⟨rfl, rfl⟩ | ⟨rfl, rfl⟩ | ⟨rfl, rfl⟩ | ⟨rfl, rfl⟩ | ⟨rfl, rfl⟩ | ⟨rfl, rfl⟩ | ⟨rfl, rfl⟩ | ⟨rfl, rfl⟩ | ⟨rfl, rfl⟩ | ⟨rfl, rfl⟩ | ⟨rfl, rfl⟩ | ⟨rfl, rfl⟩ | ⟨rfl, rfl⟩ | ⟨rfl, rfl⟩ | ⟨rfl, rfl⟩ | ⟨rfl, rfl⟩ | ⟨rfl, rfl⟩ | ⟨rfl, rfl⟩ | ⟨rfl, rfl⟩ | ⟨rfl, rfl⟩ | ⟨rfl, rfl⟩ | ⟨rfl, rfl⟩ | ⟨rfl, rfl⟩ := h <;> decide, by decide, by decide⟩
theorem pr_40 : pairT 60 40 := ⟨fun t z h => by obtain ⟨rfl, rfl⟩ | ⟨rfl, rfl⟩ | ⟨rfl, rfl⟩ | ⟨rfl, rfl⟩ | ⟨rfl, rfl⟩ | ⟨rfl, rfl⟩ | ⟨rfl, rfl⟩ | ⟨rfl, rfl⟩ | ⟨rfl, rfl⟩ | ⟨rfl, rfl⟩ | ⟨rfl, rfl⟩ | ⟨rfl, rfl⟩ | ⟨rfl, rfl⟩ | ⟨rfl, rfl⟩ | ⟨rfl, rfl⟩ | ⟨rfl, rfl⟩ | ⟨rfl, rfl⟩ | ⟨rfl, rfl⟩ | ⟨rfl, rfl⟩ | ⟨rfl, rfl⟩ | ⟨rfl, rfl⟩ | ⟨rfl, rfl⟩ | ⟨rfl, rfl⟩ | ⟨rfl, rfl⟩ | ⟨rfl, rfl⟩ | ⟨rfl, rfl⟩ | ⟨rfl, rfl⟩ | ⟨rfl, rfl⟩ | ⟨rfl, rfl⟩ | ⟨rfl, rfl⟩ | ⟨rfl, rfl⟩ | ⟨rfl, rfl⟩ | ⟨rfl, rfl⟩ := h <;> decide, by decide, by decide⟩
theorem pr_41 : pairT 62 41 := ⟨fun t z h => by obtain ⟨rfl, rfl⟩ | ⟨rfl, rfl⟩ | ⟨rfl, rfl⟩ | ⟨rfl, rfl⟩ | ⟨rfl, rfl⟩ | ⟨rfl, rfl⟩ | ⟨rfl, rfl⟩ | ⟨rfl, rfl⟩ | ⟨rfl, rfl⟩ | ⟨rfl, rfl⟩ | ⟨rfl, rfl⟩ | ⟨rfl, rfl⟩ | ⟨rfl, rfl⟩ | ⟨rfl, rfl⟩ | ⟨rfl, rfl⟩ | ⟨rfl, rfl⟩ | ⟨rfl, rfl⟩ | ⟨rfl, rfl⟩ | ⟨rfl, rfl⟩ | ⟨rfl, rfl⟩ | ⟨rfl, rfl⟩ | ⟨rfl, rfl⟩ | ⟨rfl, rfl⟩ | ⟨rfl, rfl⟩ | ⟨rfl, rfl⟩ | ⟨rfl, rfl⟩ | ⟨rfl, rfl⟩ | ⟨rfl, rfl⟩ | ⟨rfl, rfl⟩ | ⟨rfl, rfl⟩ | ⟨rfl, rfl⟩ | ⟨rfl, rfl⟩ | ⟨rfl, rfl⟩ := h <;> decide, by decide, by decide⟩
theorem tok_b {t k : Int} (h : tokRel t k) : t ≠ 1 ∧ 0 ≤ k ∧ k ≤ 41 ∧ k ≠ 25 := by obtain ⟨rfl, rfl⟩ | ⟨rfl, rfl⟩ | ⟨rfl, rfl⟩ | ⟨rfl, rfl⟩ | ⟨rfl, rfl⟩ | ⟨rfl, rfl⟩ | ⟨rfl, rfl⟩ | ⟨rfl, rfl⟩ | ⟨rfl, rfl⟩ | ⟨rfl, rfl⟩ | ⟨rfl, rfl⟩ | ⟨rfl, rfl⟩ | ⟨rfl, rfl⟩ | ⟨rfl, rfl⟩ | ⟨rfl, rfl⟩ | ⟨rfl, rfl⟩ | ⟨rfl, rfl⟩ | ⟨rfl, rfl⟩ | ⟨rfl, rfl⟩ | ⟨rfl, rfl⟩ | ⟨rfl, rfl⟩ | ⟨rfl, rfl⟩ | ⟨rfl, rfl⟩ | ⟨rfl, rfl⟩ | ⟨rfl, rfl⟩ | ⟨rfl, rfl⟩ | ⟨rfl, rfl⟩ | ⟨rfl, rfl⟩ | ⟨rfl, rfl⟩ | ⟨rfl, rfl⟩ | ⟨rfl, rfl⟩ | ⟨rfl, rfl⟩ | ⟨rfl, rfl⟩ := h <;> decide
def WS : List (List Int) := [[116, 111, 119, 110], [115, 116, 114, 101, 101, 116], [103, 111, 101, 114], [121, 101, 97, 114], [98, 111, 108, 108, 97, 114, 100, 115], [115, 104, 105, 102, 116, 115], [109, 97, 121], [121, 101, 97, 114, 115], [98, 97, 99, 107], [115, 105, 103, 110], [105, 102], [116, 104, 101, 110], [101, 108, 115, 101], [101, 110, 100], [97, 103, 97, 105, 110, 115, 116], [110, 111, 116], [97, 110, 100], [111, 114]]
def KS : List (List Int) := [[116, 111, 119, 110], [115, 116, 114, 101, 101, 116], [121, 101, 97, 114, 115], [98, 97, 99, 107], [115, 105, 103, 110], [103, 111, 101, 114], [121, 101, 97, 114], [98, 111, 108, 108, 97, 114, 100, 115], [115, 104, 105, 102, 116, 115], [109, 97, 121], [105, 102], [116, 104, 101, 110], [101, 108, 115, 101], [101, 110, 100], [97, 103, 97, 105, 110, 115, 116], [97, 110, 100], [111, 114], [110, 111, 116]]
theorem rdX_ok {α : Type} {i : Nat} {j : Int} {k : Int → Option α} (h0 : 0 ≤ j) (h1 : j < (stLen.getD i 0 : Nat)) : rdX i j k = k (chA i j.toNat) := by
  unfold rdX; rw [if_pos ⟨h0, h1⟩]
def rowF (b : Nat → Int) : Nat → Nat → List Int
  | 0, _ => []
  | L + 1, q => b q :: rowF b L (q + 1)
theorem rowF_0 {b : Nat → Int} {q : Nat} : rowF b 0 q = [] := rfl
theorem rowF_s {b : Nat → Int} {L q : Nat} : rowF b (L + 1) q = b q :: rowF b L (q + 1) := rfl
theorem rowF_at {b : Nat → Int} {L a q : Nat} (h : a < L) : rowF b (L - a) (q + a) = b (q + a) :: rowF b (L - (a + 1)) (q + (a + 1)) := by
  obtain ⟨d, hd⟩ : ∃ d, L - a = d + 1 := ⟨L - a - 1, by omega⟩
  rw [hd, rowF_s, show L - (a + 1) = d by omega, Nat.add_assoc]
theorem rowF_len {b : Nat → Int} : ∀ L q, (rowF b L q).length = L := by
  intro L
  induction L with
  | zero => intro q; rfl
  | succ L ih => intro q; rw [rowF_s, List.length_cons, ih]
theorem rowF_e {b c : Nat → Int} : ∀ L q, (∀ k, q ≤ k → k < q + L → b k = c k) → rowF b L q = rowF c L q := by
  intro L
  induction L with
  | zero => intro q _; rfl
  | succ L ih => intro q h; rw [rowF_s, rowF_s, h q (by omega) (by omega), ih (q + 1) (fun k h0 h1 => h k (by omega) (by omega))]
def alF (b : Nat → Int) (q L : Nat) : List Int → Int → Int
  | [], al => al
  | c :: w, al => alF b q L w (if al = -1 then -1 else if (L : Int) ≤ al then -1 else if b (q + al.toNat) = c then al + 1 else -1)
theorem alF_neg {b : Nat → Int} {q L : Nat} : ∀ w, alF b q L w (-1) = -1 := by
  intro w
  induction w with
  | nil => rfl
  | cons c w ih => show alF b q L w (if (-1 : Int) = -1 then -1 else _) = -1; rw [if_pos rfl]; exact ih
theorem alF_iff {b : Nat → Int} {q L : Nat} : ∀ (w : List Int) (a : Nat), a ≤ L → (alF b q L w a = L ↔ w = rowF b (L - a) (q + a)) := by
  intro w
  induction w with
  | nil =>
    intro a ha
    show (a : Int) = L ↔ _
    by_cases h : a = L
    · subst h; rw [Nat.sub_self, rowF_0]; exact ⟨fun _ => rfl, fun _ => rfl⟩
    · rw [rowF_at (by omega)]
      exact ⟨fun e => absurd e (by omega), fun e => by cases e⟩
  | cons c w ih =>
    intro a ha
    show alF b q L w (if (a : Int) = -1 then -1 else if (L : Int) ≤ a then -1 else if b (q + (a : Int).toNat) = c then (a : Int) + 1 else -1) = L ↔ _
    rw [if_neg (show ¬ (a : Int) = -1 by omega), Int.toNat_natCast]
    by_cases h : a = L
    · subst h
      rw [if_pos (Int.le_refl _), alF_neg, Nat.sub_self, rowF_0]
      exact ⟨fun e => absurd e (by omega), fun e => by cases e⟩
    · rw [if_neg (show ¬ (L : Int) ≤ a by omega), rowF_at (by omega)]
      by_cases e : b (q + a) = c
      · rw [if_pos e, show (a : Int) + 1 = ((a + 1 : Nat) : Int) by omega, ih (a + 1) (by omega), e]
        exact ⟨fun h => by rw [h], fun h => (List.cons.inj h).2⟩
      · rw [if_neg e, alF_neg]
        exact ⟨fun x => absurd x (by omega), fun h => absurd (List.cons.inj h).1.symm e⟩
def mAt (i : Nat) : List Int → Nat → Bool
  | [], p => decide (chA i p = 32)
  | c :: w, p => decide (chA i p = c ∧ c ≠ 32) && mAt i w (p + 1)
def wAt (i : Nat) : List (List Int) → Nat → Bool
  | [], p => decide (p = stLen.getD i 0)
  | w :: ws, p => decide (p + w.length < stLen.getD i 0) && (mAt i w p && wAt i ws (p + w.length + 1))
def fstW (row : List Int) : List (List Int) → Nat → Nat × Int
  | [], _ => (1, 0)
  | w :: ws, x => if w = row then (0, (x : Int)) else fstW row ws (x + 1)
theorem mAt_c {i c p : Nat} {x : Int} {w : List Int} (h : mAt i (x :: w) p = true) : (chA i p = x ∧ x ≠ 32) ∧ mAt i w (p + 1) = true := by
  have h' : (decide (chA i p = x ∧ x ≠ 32) && mAt i w (p + 1)) = true := h
  rw [Bool.and_eq_true] at h'
  exact ⟨of_decide_eq_true h'.1, h'.2⟩
theorem wAt_c {i p : Nat} {w : List Int} {ws : List (List Int)} (h : wAt i (w :: ws) p = true) : p + w.length < stLen.getD i 0 ∧ mAt i w p = true ∧ wAt i ws (p + w.length + 1) = true := by
  have h' : (decide (p + w.length < stLen.getD i 0) && (mAt i w p && wAt i ws (p + w.length + 1))) = true := h
  rw [Bool.and_eq_true, Bool.and_eq_true] at h'
  exact ⟨of_decide_eq_true h'.1, h'.2.1, h'.2.2⟩
theorem mAt_at {i : Nat} : ∀ (w : List Int) (p j : Nat), mAt i w p = true → j ≤ w.length → (chA i (p + j) = 32 ↔ j = w.length) := by
  intro w
  induction w with
  | nil =>
    intro p j h hj
    have hc : chA i p = 32 := of_decide_eq_true h
    have : j = 0 := by simpa using hj
    subst this
    exact ⟨fun _ => rfl, fun _ => hc⟩
  | cons c w ih =>
    intro p j h hj
    obtain ⟨⟨h1, h2⟩, h3⟩ := mAt_c (c := 0) h
    rw [List.length_cons] at hj ⊢
    by_cases z : j = 0
    · subst z
      rw [Nat.add_zero, h1]
      exact ⟨fun e => absurd e h2, fun e => absurd e (by omega)⟩
    · have := ih (p + 1) (j - 1) h3 (by omega)
      rw [show p + 1 + (j - 1) = p + j by omega] at this
      rw [this]
      constructor <;> intro _ <;> omega
theorem wf_word {b : Nat → Int} {q L : Nat} {S : SS} (hS : S 20 = b) (hL : q + L ≤ 900) : ∀ (w : List Int) (p fu x : Nat) (al : Int) (r : Option (Nat × Int)), mAt 0 w p = true → p + w.length < 94 → 95 ≤ p + fu → x < 5000 → (al = -1 ∨ (0 ≤ al ∧ al ≤ L)) →
    (if alF b q L w al = L then some (0, (x : Int)) else fX3_wordFrom_L10 q ((q + L : Nat) : Int) S (fu - (w.length + 1)) ((x + 1 : Nat) : Int) 0 ((p + w.length + 1 : Nat) : Int)) = r →
    fX3_wordFrom_L10 q ((q + L : Nat) : Int) S fu x al p = r := by
  intro w
  induction w with
  | nil =>
    intro p fu x al r hm hp hf hx ha h
    have hp' : p < 94 := hp
    obtain ⟨fu, rfl⟩ : ∃ f, fu = f + 1 := ⟨fu - 1, by omega⟩
    have hc : chA 0 p = 32 := of_decide_eq_true hm
    unfold fX3_wordFrom_L10
    rw [if_neg (by omega), rdX_ok (by omega) (by show (p : Int) < (94 : Nat); omega), Int.toNat_natCast, hc, if_pos rfl, show w32 (((q + L : Nat) : Int) - q) = L by rw [w32_eq (by omega) (by omega)]; omega, lt_ok, lt_ok, w32_k (by omega), w32_k (by omega)]
    exact h
  | cons c w ih =>
    intro p fu x al r hm hp hf hx ha h
    obtain ⟨⟨h1, h2⟩, h3⟩ := mAt_c (c := 0) hm
    rw [List.length_cons] at hp h
    obtain ⟨fu, rfl⟩ : ∃ f, fu = f + 1 := ⟨fu - 1, by omega⟩
    rw [show p + (w.length + 1) + 1 = p + 1 + w.length + 1 by omega, show fu + 1 - (w.length + 1 + 1) = fu - (w.length + 1) by omega] at h
    unfold fX3_wordFrom_L10
    rw [if_neg (by omega), rdX_ok (by omega) (by show (p : Int) < (94 : Nat); omega), Int.toNat_natCast, h1, if_neg h2]
    obtain rfl | ⟨a0, a1⟩ := ha
    · rw [if_pos rfl, lt_ok, bnd_s, lt_ok, w32_k (by omega)]
      rw [show alF b q L (c :: w) (-1) = alF b q L w (-1) by rw [alF_neg, alF_neg]] at h
      exact ih (p + 1) fu x (-1) r h3 (by omega) (by omega) hx (Or.inl rfl) h
    · obtain ⟨a, rfl⟩ : ∃ a : Nat, al = a := ⟨al.toNat, by omega⟩
      have hw : w32 ((q : Int) + a) = ((q + a : Nat) : Int) := by rw [w32_eq (by omega) (by omega)]; omega
      have eA : alF b q L (c :: w) a = alF b q L w (if (L : Int) ≤ a then -1 else if b (q + a) = c then ((a + 1 : Nat) : Int) else -1) := by
        show alF b q L w (if (a : Int) = -1 then -1 else if (L : Int) ≤ a then -1 else if b (q + (a : Int).toNat) = c then (a : Int) + 1 else -1) = _
        rw [if_neg (show ¬ (a : Int) = -1 by omega), Int.toNat_natCast]
        rfl
      rw [eA] at h
      rw [if_neg (show ¬ (a : Int) = -1 by omega), hw]
      by_cases d : (L : Int) ≤ a
      · rw [if_pos (show ((q + L : Nat) : Int) ≤ ((q + a : Nat) : Int) by omega), lt_ok, bnd_s, lt_ok, w32_k (by omega)]
        rw [if_pos d] at h
        exact ih (p + 1) fu x (-1) r h3 (by omega) (by omega) hx (Or.inl rfl) h
      · rw [if_neg (show ¬ ((q + L : Nat) : Int) ≤ ((q + a : Nat) : Int) by omega), rdA_ok (by omega) (by omega), Int.toNat_natCast, hS]
        rw [if_neg d] at h
        by_cases e : b (q + a) = c
        · rw [if_pos e, lt_ok, w32_k (by omega), bnd_s, lt_ok, w32_k (by omega)]
          rw [if_pos e] at h
          exact ih (p + 1) fu x ((a + 1 : Nat) : Int) r h3 (by omega) (by omega) hx (Or.inr ⟨by omega, by omega⟩) h
        · rw [if_neg e, lt_ok, bnd_s, lt_ok, w32_k (by omega)]
          rw [if_neg e] at h
          exact ih (p + 1) fu x (-1) r h3 (by omega) (by omega) hx (Or.inl rfl) h
theorem wf_words {b : Nat → Int} {q L : Nat} {S : SS} (hS : S 20 = b) (hL : q + L ≤ 900) : ∀ (ws : List (List Int)) (p fu x : Nat), wAt 0 ws p = true → p ≤ 94 → 95 ≤ p + fu → x + ws.length < 5000 →
    fX3_wordFrom_L10 q ((q + L : Nat) : Int) S fu x 0 p = some (fstW (rowF b L q) ws x) := by
  intro ws
  induction ws with
  | nil =>
    intro p fu x hw hp hf hx
    have hp : p = 94 := of_decide_eq_true hw
    subst hp
    obtain ⟨fu, rfl⟩ : ∃ f, fu = f + 1 := ⟨fu - 1, by omega⟩
    unfold fX3_wordFrom_L10
    rw [if_pos (by omega)]
    rfl
  | cons w ws ih =>
    intro p fu x hw hp hf hx
    obtain ⟨h1, h2, h3⟩ := wAt_c hw
    have h1 : p + w.length < 94 := h1
    rw [List.length_cons] at hx
    refine wf_word (b := b) (w := w) (p := p) (fu := fu) (x := x) (al := 0) hS hL _ h2 h1 hf (by omega) (Or.inr ⟨by omega, by omega⟩) ?_
    have hi := alF_iff (b := b) (q := q) (L := L) w 0 (by omega)
    rw [Nat.sub_zero, Nat.add_zero] at hi
    have hi : alF b q L w 0 = (L : Int) ↔ w = rowF b L q := hi
    show _ = some (if w = rowF b L q then (0, (x : Int)) else fstW (rowF b L q) ws (x + 1))
    by_cases e : w = rowF b L q
    · rw [if_pos e, if_pos (hi.mpr e)]
    · rw [if_neg e, if_neg (fun z => e (hi.mp z)), ih _ _ _ h3 (by omega) (by omega) (by omega)]
def cpl : List Int → List Int → Nat
  | [], _ => 0
  | _ :: _, [] => 0
  | c :: w, d :: r => if d = c then cpl w r + 1 else 0
theorem cpl_c {c d : Int} {w r : List Int} : cpl (c :: w) (d :: r) = if d = c then cpl w r + 1 else 0 := rfl
theorem cpl_b : ∀ w r, cpl w r ≤ w.length ∧ cpl w r ≤ r.length := by
  intro w
  induction w with
  | nil => intro r; cases r <;> simp [cpl]
  | cons c w ih =>
    intro r
    cases r with
    | nil => simp [cpl]
    | cons d r =>
      have := ih r
      rw [cpl_c, List.length_cons, List.length_cons]
      split <;> omega
theorem cpl_iff : ∀ w r, (cpl w r = w.length ∧ cpl w r = r.length) ↔ w = r := by
  intro w
  induction w with
  | nil => intro r; cases r <;> simp [cpl]
  | cons c w ih =>
    intro r
    cases r with
    | nil => simp [cpl]
    | cons d r =>
      have := ih r
      rw [cpl_c, List.length_cons, List.length_cons]
      by_cases e : d = c
      · rw [if_pos e, e]
        constructor
        · intro h; rw [this.mp (by omega)]
        · intro h; have := this.mpr (List.cons.inj h).2; omega
      · rw [if_neg e]
        exact ⟨fun h => absurd h.1 (by omega), fun h => absurd (List.cons.inj h).1.symm e⟩
theorem ka_15 {U : Nat → Int} {q L : Nat} {S : SS} (hS : S 133 = U) (h6 : S 130 6 = q) (h7 : S 130 7 = ((q + L : Nat) : Int)) (hL : q + L ≤ 900) {l1 : Int} {p : Nat} : ∀ (w : List Int) (j fu : Nat), mAt 2 w (p + j) = true → p + j + w.length < 95 → w.length < fu → j ≤ L →
    fX12_keyAt_L15 l1 p S fu j = some ((j + cpl w (rowF U (L - j) (q + j)) : Nat) : Int) := by
  intro w
  induction w with
  | nil =>
    intro j fu hm hp hf hj
    obtain ⟨fu, rfl⟩ := suc_of hf
    have hp' : p + j < 95 := hp
    have hc : chA 2 (p + j) = 32 := of_decide_eq_true hm
    unfold fX12_keyAt_L15
    rw [show w32 ((p : Int) + j) = ((p + j : Nat) : Int) by rw [w32_eq (by omega) (by omega)]; omega, rdX_ok (by omega) (by show ((p + j : Nat) : Int) < (95 : Nat); omega), Int.toNat_natCast, hc, if_pos rfl]
    rfl
  | cons c w ih =>
    intro j fu hm hp hf hj
    obtain ⟨fu, rfl⟩ := suc_of hf
    rw [List.length_cons] at hp hf
    obtain ⟨⟨h1, h2⟩, h3⟩ := mAt_c (c := 0) hm
    unfold fX12_keyAt_L15
    rw [show w32 ((p : Int) + j) = ((p + j : Nat) : Int) by rw [w32_eq (by omega) (by omega)]; omega, rdX_ok (by omega) (by show ((p + j : Nat) : Int) < (95 : Nat); omega), Int.toNat_natCast, h1, if_neg h2, h6, h7, show w32 ((q : Int) + j) = ((q + j : Nat) : Int) by rw [w32_eq (by omega) (by omega)]; omega]
    by_cases d : L ≤ j
    · rw [if_pos (show ((q + L : Nat) : Int) ≤ ((q + j : Nat) : Int) by omega), show L - j = 0 by omega, rowF_0]
      rfl
    · rw [if_neg (show ¬ ((q + L : Nat) : Int) ≤ ((q + j : Nat) : Int) by omega), rdA_ok (by omega) (by omega), rdX_ok (by omega) (by show ((p + j : Nat) : Int) < (95 : Nat); omega), Int.toNat_natCast, Int.toNat_natCast, h1, hS, rowF_at (by omega), cpl_c]
      by_cases e : U (q + j) = c
      · rw [if_pos e, if_pos e, lt_ok, w32_k (by omega), ih (j + 1) fu (by rw [← Nat.add_assoc]; exact h3) (by omega) (by omega) (by omega)]
        exact congrArg (fun z : Nat => some (z : Int)) (by omega)
      · rw [if_neg e, if_neg e]
        rfl
theorem ka_97 {S : SS} {l1 : Int} : ∀ (w : List Int) (p fu : Nat), mAt 2 w p = true → p + w.length < 95 → w.length < fu → fX12_keyAt_L97 l1 S fu p = some ((p + w.length : Nat) : Int) := by
  intro w
  induction w with
  | nil =>
    intro p fu hm hp hf
    obtain ⟨fu, rfl⟩ := suc_of hf
    have hp' : p < 95 := hp
    have hc : chA 2 p = 32 := of_decide_eq_true hm
    unfold fX12_keyAt_L97
    rw [rdX_ok (by omega) (by show (p : Int) < (95 : Nat); omega), Int.toNat_natCast, hc, if_pos rfl]
    rfl
  | cons c w ih =>
    intro p fu hm hp hf
    obtain ⟨fu, rfl⟩ := suc_of hf
    rw [List.length_cons] at hp hf
    obtain ⟨⟨h1, h2⟩, h3⟩ := mAt_c (c := 0) hm
    unfold fX12_keyAt_L97
    rw [rdX_ok (by omega) (by show (p : Int) < (95 : Nat); omega), Int.toNat_natCast, h1, if_neg h2, lt_ok, w32_k (by omega), ih (p + 1) fu h3 (by omega) (by omega), List.length_cons]
    exact congrArg (fun z : Nat => some (z : Int)) (by omega)
theorem ka_4 {U : Nat → Int} {q L : Nat} {S : SS} (hS : S 133 = U) (h6 : S 130 6 = q) (h7 : S 130 7 = ((q + L : Nat) : Int)) (hL : q + L ≤ 900) : ∀ (ws : List (List Int)) (p x fu : Nat), wAt 2 ws p = true → p ≤ 95 → ws.length < fu → x + ws.length < 5000 →
    fX12_keyAt_L4 S fu x p = some (fstW (rowF U L q) ws x) := by
  intro ws
  induction ws with
  | nil =>
    intro p x fu hw hp hf hx
    obtain ⟨fu, rfl⟩ := suc_of hf
    have hp : p = 95 := of_decide_eq_true hw
    subst hp
    unfold fX12_keyAt_L4
    rw [if_pos (by omega)]
    rfl
  | cons w ws ih =>
    intro p x fu hw hp hf hx
    obtain ⟨fu, rfl⟩ := suc_of hf
    obtain ⟨h1, h2, h3⟩ := wAt_c hw
    have h1 : p + w.length < 95 := h1
    rw [List.length_cons] at hx hf
    unfold fX12_keyAt_L4
    have cb := cpl_b w (rowF U L q)
    have ci := cpl_iff w (rowF U L q)
    rw [rowF_len] at cb ci
    have k15 := ka_15 (l1 := x) (p := p) hS h6 h7 hL w 0 FU h2 (by omega) (by unfold FU; omega) (by omega)
    rw [Nat.sub_zero, Nat.add_zero, Nat.zero_add] at k15
    have k15' : fX12_keyAt_L15 x p S FU 0 = _ := k15
    have ca := mAt_at w p _ h2 cb.1
    have k97 := ka_97 (l1 := x) (S := S) w p FU h2 h1 (by unfold FU; omega)
    rw [if_neg (by omega), k15', bnd_s, show w32 ((p : Int) + ((cpl w (rowF U L q) : Nat) : Int)) = ((p + cpl w (rowF U L q) : Nat) : Int) by rw [w32_eq (by omega) (by omega)]; omega, rdX_ok (by omega) (by show ((p + cpl w (rowF U L q) : Nat) : Int) < (95 : Nat); omega), Int.toNat_natCast, h6, h7, show w32 ((q : Int) + ((cpl w (rowF U L q) : Nat) : Int)) = ((q + cpl w (rowF U L q) : Nat) : Int) by rw [w32_eq (by omega) (by omega)]; omega]
    show _ = some (if w = rowF U L q then (0, (x : Int)) else fstW (rowF U L q) ws (x + 1))
    by_cases e : w = rowF U L q
    · have := ci.mpr e
      rw [if_pos e, if_pos (ca.mpr this.1), if_pos (by omega)]
    · rw [if_neg e]
      have nx := ih (p + w.length + 1) (x + 1) fu h3 (by omega) (by omega) (by omega)
      by_cases c1 : chA 2 (p + cpl w (rowF U L q)) = 32
      · rw [if_pos c1, if_neg (fun z => e (ci.mp ⟨ca.mp c1, by omega⟩)), k97, bnd_s, lt_ok, w32_k (by omega), lt_ok, w32_k (by omega)]
        exact nx
      · rw [if_neg c1, k97, bnd_s, lt_ok, w32_k (by omega), lt_ok, w32_k (by omega)]
        exact nx
def wcv (row : List Int) : Int := if (fstW row WS 1000).1 = 0 then (fstW row WS 1000).2 else 257
def kcv (row : List Int) : Int := if (fstW row KS 0).1 = 0 then (fstW row KS 0).2 else 22
theorem words_rel (row : List Int) : tokRel (wcv row) (kcv row) := by
  by_cases h0 : [116, 111, 119, 110] = row
  · subst h0; rw [show wcv [116, 111, 119, 110] = 1000 by decide +kernel, show kcv [116, 111, 119, 110] = 0 by decide +kernel]; exact tr_0
  by_cases h1 : [115, 116, 114, 101, 101, 116] = row
  · subst h1; rw [show wcv [115, 116, 114, 101, 101, 116] = 1001 by decide +kernel, show kcv [115, 116, 114, 101, 101, 116] = 1 by decide +kernel]; exact tr_1
  by_cases h2 : [103, 111, 101, 114] = row
  · subst h2; rw [show wcv [103, 111, 101, 114] = 1002 by decide +kernel, show kcv [103, 111, 101, 114] = 5 by decide +kernel]; exact tr_5
  by_cases h3 : [121, 101, 97, 114] = row
  · subst h3; rw [show wcv [121, 101, 97, 114] = 1003 by decide +kernel, show kcv [121, 101, 97, 114] = 6 by decide +kernel]; exact tr_6
  by_cases h4 : [98, 111, 108, 108, 97, 114, 100, 115] = row
  · subst h4; rw [show wcv [98, 111, 108, 108, 97, 114, 100, 115] = 1004 by decide +kernel, show kcv [98, 111, 108, 108, 97, 114, 100, 115] = 7 by decide +kernel]; exact tr_7
  by_cases h5 : [115, 104, 105, 102, 116, 115] = row
  · subst h5; rw [show wcv [115, 104, 105, 102, 116, 115] = 1005 by decide +kernel, show kcv [115, 104, 105, 102, 116, 115] = 8 by decide +kernel]; exact tr_8
  by_cases h6 : [109, 97, 121] = row
  · subst h6; rw [show wcv [109, 97, 121] = 1006 by decide +kernel, show kcv [109, 97, 121] = 9 by decide +kernel]; exact tr_9
  by_cases h7 : [121, 101, 97, 114, 115] = row
  · subst h7; rw [show wcv [121, 101, 97, 114, 115] = 1007 by decide +kernel, show kcv [121, 101, 97, 114, 115] = 2 by decide +kernel]; exact tr_2
  by_cases h8 : [98, 97, 99, 107] = row
  · subst h8; rw [show wcv [98, 97, 99, 107] = 1008 by decide +kernel, show kcv [98, 97, 99, 107] = 3 by decide +kernel]; exact tr_3
  by_cases h9 : [115, 105, 103, 110] = row
  · subst h9; rw [show wcv [115, 105, 103, 110] = 1009 by decide +kernel, show kcv [115, 105, 103, 110] = 4 by decide +kernel]; exact tr_4
  by_cases h10 : [105, 102] = row
  · subst h10; rw [show wcv [105, 102] = 1010 by decide +kernel, show kcv [105, 102] = 10 by decide +kernel]; exact tr_10
  by_cases h11 : [116, 104, 101, 110] = row
  · subst h11; rw [show wcv [116, 104, 101, 110] = 1011 by decide +kernel, show kcv [116, 104, 101, 110] = 11 by decide +kernel]; exact tr_11
  by_cases h12 : [101, 108, 115, 101] = row
  · subst h12; rw [show wcv [101, 108, 115, 101] = 1012 by decide +kernel, show kcv [101, 108, 115, 101] = 12 by decide +kernel]; exact tr_12
  by_cases h13 : [101, 110, 100] = row
  · subst h13; rw [show wcv [101, 110, 100] = 1013 by decide +kernel, show kcv [101, 110, 100] = 13 by decide +kernel]; exact tr_13
  by_cases h14 : [97, 103, 97, 105, 110, 115, 116] = row
  · subst h14; rw [show wcv [97, 103, 97, 105, 110, 115, 116] = 1014 by decide +kernel, show kcv [97, 103, 97, 105, 110, 115, 116] = 14 by decide +kernel]; exact tr_14
  by_cases h15 : [110, 111, 116] = row
  · subst h15; rw [show wcv [110, 111, 116] = 1015 by decide +kernel, show kcv [110, 111, 116] = 17 by decide +kernel]; exact tr_17
  by_cases h16 : [97, 110, 100] = row
  · subst h16; rw [show wcv [97, 110, 100] = 1016 by decide +kernel, show kcv [97, 110, 100] = 15 by decide +kernel]; exact tr_15
  by_cases h17 : [111, 114] = row
  · subst h17; rw [show wcv [111, 114] = 1017 by decide +kernel, show kcv [111, 114] = 16 by decide +kernel]; exact tr_16
  have e1 : wcv row = 257 := by simp [wcv, WS, fstW, h0, h1, h2, h3, h4, h5, h6, h7, h8, h9, h10, h11, h12, h13, h14, h15, h16, h17]
  have e2 : kcv row = 22 := by simp [kcv, KS, fstW, h0, h1, h2, h3, h4, h5, h6, h7, h8, h9, h10, h11, h12, h13, h14, h15, h16, h17]
  rw [e1, e2]; exact tr_22
theorem kcv_b (row : List Int) : kcv row ≠ 23 := by
  by_cases h0 : [116, 111, 119, 110] = row
  · subst h0; decide +kernel
  by_cases h1 : [115, 116, 114, 101, 101, 116] = row
  · subst h1; decide +kernel
  by_cases h2 : [103, 111, 101, 114] = row
  · subst h2; decide +kernel
  by_cases h3 : [121, 101, 97, 114] = row
  · subst h3; decide +kernel
  by_cases h4 : [98, 111, 108, 108, 97, 114, 100, 115] = row
  · subst h4; decide +kernel
  by_cases h5 : [115, 104, 105, 102, 116, 115] = row
  · subst h5; decide +kernel
  by_cases h6 : [109, 97, 121] = row
  · subst h6; decide +kernel
  by_cases h7 : [121, 101, 97, 114, 115] = row
  · subst h7; decide +kernel
  by_cases h8 : [98, 97, 99, 107] = row
  · subst h8; decide +kernel
  by_cases h9 : [115, 105, 103, 110] = row
  · subst h9; decide +kernel
  by_cases h10 : [105, 102] = row
  · subst h10; decide +kernel
  by_cases h11 : [116, 104, 101, 110] = row
  · subst h11; decide +kernel
  by_cases h12 : [101, 108, 115, 101] = row
  · subst h12; decide +kernel
  by_cases h13 : [101, 110, 100] = row
  · subst h13; decide +kernel
  by_cases h14 : [97, 103, 97, 105, 110, 115, 116] = row
  · subst h14; decide +kernel
  by_cases h15 : [110, 111, 116] = row
  · subst h15; decide +kernel
  by_cases h16 : [97, 110, 100] = row
  · subst h16; decide +kernel
  by_cases h17 : [111, 114] = row
  · subst h17; decide +kernel
  have e2 : kcv row = 22 := by simp [kcv, KS, fstW, h0, h1, h2, h3, h4, h5, h6, h7, h8, h9, h10, h11, h12, h13, h14, h15, h16, h17]
  rw [e2]; decide
theorem wordFrom_ok {b : Nat → Int} {q L : Nat} {S : SS} (hS : S 20 = b) (hL : q + L ≤ 900) : fX3_wordFrom q ((q + L : Nat) : Int) S = some (wcv (rowF b L q)) := by
  have h := wf_words hS hL WS 0 FU 1000 (by decide +kernel) (by omega) (by unfold FU; omega) (by decide)
  have h' : fX3_wordFrom_L10 q ((q + L : Nat) : Int) S FU 1000 0 0 = _ := h
  unfold fX3_wordFrom wcv
  rw [h', bnd_s]
  split <;> rfl
theorem keyAt_ok {U : Nat → Int} {q L : Nat} {S : SS} (hS : S 133 = U) (h6 : S 130 6 = q) (h7 : S 130 7 = ((q + L : Nat) : Int)) (hL : q + L ≤ 900) : fX12_keyAt S = some (kcv (rowF U L q)) := by
  have h := ka_4 hS h6 h7 hL KS 1 0 FU (by decide +kernel) (by omega) (by unfold FU; decide) (by decide)
  have h' : fX12_keyAt_L4 S FU 0 1 = _ := h
  unfold fX12_keyAt kcv
  rw [h', bnd_s]
  split <;> rfl
/-! the tape, both sides -/
def tp (T U : Nat → Int) (n : Nat) : Prop := n ≤ 900 ∧ ∀ k : Nat, k < n → U k = T k % 256 ∧ -128 ≤ T k ∧ T k ≤ 127
theorem digC {v : Int} : fX3_isDigit v = some (decide (48 ≤ v ∧ v ≤ 57)) := by
  unfold fX3_isDigit
  by_cases h1 : v < 48
  · rw [if_pos h1, decide_eq_false (by omega)]
  · rw [if_neg h1]
    by_cases h2 : 57 < v
    · rw [if_pos h2, decide_eq_false (by omega)]
    · rw [if_neg h2, decide_eq_true (by omega)]
theorem digM {v : Int} : fX12_isDigit v = some (decide (48 ≤ v ∧ v ≤ 57)) := by
  unfold fX12_isDigit
  by_cases h1 : v < 48
  · rw [if_pos h1, decide_eq_false (by omega)]
  · rw [if_neg h1]
    by_cases h2 : 57 < v
    · rw [if_pos h2, decide_eq_false (by omega)]
    · rw [if_neg h2, decide_eq_true (by omega)]
theorem letC {v : Int} : fX3_isLetter v = some (decide (97 ≤ v ∧ v ≤ 122)) := by
  unfold fX3_isLetter
  by_cases h1 : v < 97
  · rw [if_pos h1, decide_eq_false (by omega)]
  · rw [if_neg h1]
    by_cases h2 : 122 < v
    · rw [if_pos h2, decide_eq_false (by omega)]
    · rw [if_neg h2, decide_eq_true (by omega)]
theorem letM {v : Int} : fX12_isSmall v = some (decide (97 ≤ v ∧ v ≤ 122)) := by
  unfold fX12_isSmall
  by_cases h1 : v < 97
  · rw [if_pos h1, decide_eq_false (by omega)]
  · rw [if_neg h1]
    by_cases h2 : 122 < v
    · rw [if_pos h2, decide_eq_false (by omega)]
    · rw [if_neg h2, decide_eq_true (by omega)]
theorem see_in {S : SS} {U : Nat → Int} {n p : Nat} (h8 : S 130 8 = n) (hU : S 133 = U) (h : p < n) (hn : n ≤ 900) : fX12_see p S = some (U p) := by
  unfold fX12_see
  rw [h8, if_neg (by omega), rdA_ok (by omega) (by omega), Int.toNat_natCast, hU]
theorem see_out {S : SS} {n p : Nat} (h8 : S 130 8 = n) (h : n ≤ p) : fX12_see p S = some (-1) := by
  unfold fX12_see
  rw [h8, if_pos (by omega)]
/-- only these slots of this row are others -/
def only (a : Nat) (js : List Nat) (S S' : SS) : Prop := (∀ r, r ≠ a → S' r = S r) ∧ ∀ j, j ∉ js → S' a j = S a j
theorem only_r {a : Nat} {js : List Nat} {S : SS} : only a js S S := ⟨fun _ _ => rfl, fun _ _ => rfl⟩
theorem only_t {a : Nat} {js : List Nat} {S S1 S2 : SS} (h : only a js S S1) (h' : only a js S1 S2) : only a js S S2 := ⟨fun r hr => (h'.1 r hr).trans (h.1 r hr), fun j hj => (h'.2 j hj).trans (h.2 j hj)⟩
theorem only_u {a j : Nat} {js : List Nat} {S : SS} {v : Int} (h : j ∈ js) : only a js S (up S a j v) := ⟨fun r hr => up_row hr, fun i hi => by rw [up_at, if_neg (fun (e : i = j) => hi (by rw [e]; exact h))]⟩
theorem only_m {a : Nat} {js ks : List Nat} {S S' : SS} (h : only a js S S') (hk : ∀ j, j ∈ js → j ∈ ks) : only a ks S S' := ⟨h.1, fun j hj => h.2 j (fun z => hj (hk j z))⟩
theorem skip_j {T U : Nat → Int} {n : Nat} (ht : tp T U n) : ∀ (m p fc fm : Nat) (SC SM : SS), m + p = n → m < fc → m < fm → SC 20 = T → SC 19 3 = n → SC 19 4 = p → SM 133 = U → SM 130 8 = n → SM 130 6 = p →
    ∃ (q : Nat) (SC' SM' : SS), fX3_advance_L8 fc SC = some SC' ∧ fX12_next_L8 fm SM = some SM' ∧ p ≤ q ∧ q ≤ n ∧ SC' 19 4 = q ∧ SM' 130 6 = q ∧ only 19 [4] SC SC' ∧ only 130 [6] SM SM' := by
  have hn := ht.1
  intro m
  induction m with
  | zero =>
    intro p fc fm SC SM hm hc hf cT c3 c4 mU m8 m6
    obtain ⟨fc, rfl⟩ := suc_of hc
    obtain ⟨fm, rfl⟩ := suc_of hf
    unfold fX3_advance_L8 fX12_next_L8
    rw [c3, c4, if_pos (by omega), m6, see_out m8 (by omega), bnd_s, if_neg (by decide), bnd_s, if_neg (by decide)]
    exact ⟨p, SC, SM, rfl, rfl, by omega, by omega, c4, m6, only_r, only_r⟩
  | succ m ih =>
    intro p fc fm SC SM hm hc hf cT c3 c4 mU m8 m6
    obtain ⟨fc, rfl⟩ := suc_of hc
    obtain ⟨fm, rfl⟩ := suc_of hf
    obtain ⟨t1, t2, t3⟩ := ht.2 p (by omega)
    unfold fX3_advance_L8 fX12_next_L8
    rw [c3, c4, if_neg (by omega), rdA_ok (by omega) (by omega), rdA_ok (by omega) (by omega), Int.toNat_natCast, cT, m6, see_in m8 mU (by omega) hn, bnd_s, bnd_s, lt_ok, lt_ok, w32_k (by omega)]
    obtain ⟨q, SC', SM', r1, r2, r3, r4, r5, r6, r7, r8⟩ := ih (p + 1) fc fm (up SC 19 4 ((p + 1 : Nat) : Int)) (up SM 130 6 ((p + 1 : Nat) : Int)) (by omega) (by omega) (by omega) ((up_row (by decide)).trans cT) (by rw [up_at, if_neg (by decide)]; exact c3) up_self ((up_row (by decide)).trans mU) (by rw [up_at, if_neg (by decide)]; exact m8) up_self
    have go : ∃ (q : Nat) (SC' SM' : SS), fX3_advance_L8 fc (up SC 19 4 ((p + 1 : Nat) : Int)) = some SC' ∧ fX12_next_L8 fm (up SM 130 6 ((p + 1 : Nat) : Int)) = some SM' ∧ p ≤ q ∧ q ≤ n ∧ SC' 19 4 = q ∧ SM' 130 6 = q ∧ only 19 [4] SC SC' ∧ only 130 [6] SM SM' :=
      ⟨q, SC', SM', r1, r2, by omega, r4, r5, r6, only_t (only_u (by decide)) r7, only_t (only_u (by decide)) r8⟩
    by_cases b1 : T p = 32
    · rw [if_pos b1, if_neg (show ¬ U p = 10 by omega), if_pos (show U p = 32 by omega)]
      exact go
    · rw [if_neg b1]
      by_cases b2 : T p = 10
      · rw [if_pos b2, if_pos (show U p = 10 by omega)]
        exact go
      · rw [if_neg b2, if_neg (show ¬ U p = 10 by omega), if_neg (show ¬ U p = 32 by omega)]
        exact ⟨p, SC, SM, rfl, rfl, by omega, by omega, c4, m6, only_r, only_r⟩
theorem let_j {T U : Nat → Int} {n : Nat} (ht : tp T U n) : ∀ (m p fc fm : Nat) (SC SM : SS), m + p = n → m < fc → m < fm → SC 20 = T → SC 19 3 = n → SC 19 4 = p → SM 133 = U → SM 130 8 = n → SM 130 7 = p →
    ∃ (q : Nat) (SC' SM' : SS), fX3_advance_L205 fc SC = some SC' ∧ fX12_next_L89 fm SM = some SM' ∧ p ≤ q ∧ q ≤ n ∧ SC' 19 4 = q ∧ SM' 130 7 = q ∧ only 19 [4] SC SC' ∧ only 130 [7] SM SM' ∧ (∀ k, p ≤ k → k < q → T k = U k) ∧ (p < n → 97 ≤ T p ∧ T p ≤ 122 → p < q) := by
  have hn := ht.1
  intro m
  induction m with
  | zero =>
    intro p fc fm SC SM hm hc hf cT c3 c4 mU m8 m6
    obtain ⟨fc, rfl⟩ := suc_of hc
    obtain ⟨fm, rfl⟩ := suc_of hf
    unfold fX3_advance_L205 fX12_next_L89
    rw [c3, c4, if_pos (by omega), m6, see_out m8 (by omega), bnd_s, letM, bnd_s, if_neg (by decide)]
    exact ⟨p, SC, SM, rfl, rfl, by omega, by omega, c4, m6, only_r, only_r, fun k _ _ => by omega, fun h => by omega⟩
  | succ m ih =>
    intro p fc fm SC SM hm hc hf cT c3 c4 mU m8 m6
    obtain ⟨fc, rfl⟩ := suc_of hc
    obtain ⟨fm, rfl⟩ := suc_of hf
    obtain ⟨t1, t2, t3⟩ := ht.2 p (by omega)
    unfold fX3_advance_L205 fX12_next_L89
    rw [c3, c4, if_neg (by omega), rdA_ok (by omega) (by omega), Int.toNat_natCast, cT, m6, see_in m8 mU (by omega) hn, bnd_s, letC, letM, bnd_s, bnd_s, lt_ok, lt_ok, w32_k (by omega)]
    obtain ⟨q, SC', SM', r1, r2, r3, r4, r5, r6, r7, r8, r9, _⟩ := ih (p + 1) fc fm (up SC 19 4 ((p + 1 : Nat) : Int)) (up SM 130 7 ((p + 1 : Nat) : Int)) (by omega) (by omega) (by omega) ((up_row (by decide)).trans cT) (by rw [up_at, if_neg (by decide)]; exact c3) up_self ((up_row (by decide)).trans mU) (by rw [up_at, if_neg (by decide)]; exact m8) up_self
    by_cases b1 : 97 ≤ T p ∧ T p ≤ 122
    · rw [if_pos (decide_eq_true b1), if_pos (decide_eq_true (show 97 ≤ U p ∧ U p ≤ 122 by omega))]
      refine ⟨q, SC', SM', r1, r2, by omega, r4, r5, r6, only_t (only_u (by decide)) r7, only_t (only_u (by decide)) r8, fun k h0 h1 => ?_, fun _ _ => by omega⟩
      by_cases e : k = p
      · subst e; omega
      · exact r9 k (by omega) h1
    · rw [if_neg (by rw [decide_eq_true_eq]; exact b1), if_neg (by rw [decide_eq_true_eq]; omega)]
      exact ⟨p, SC, SM, rfl, rfl, by omega, by omega, c4, m6, only_r, only_r, fun k _ _ => by omega, fun _ h => absurd h b1⟩
def numB (c : Nat) (x : Int) : Prop := 0 ≤ x ∧ x < 1000 ∧ (c ≤ 2 → x < 100) ∧ (c ≤ 1 → x < 10) ∧ (c ≤ 0 → x < 1)
theorem num_j {T U : Nat → Int} {n q : Nat} (ht : tp T U n) : ∀ (m c fc fm : Nat) (SC SM : SS), m + (q + c) = n → m < fc → m < fm → SC 20 = T → SC 19 3 = n → SC 19 4 = ((q + c : Nat) : Int) → SM 133 = U → SM 130 8 = n → SM 130 6 = q → SM 130 7 = ((q + c : Nat) : Int) → (c ≤ 3 → SC 19 7 = SM 130 10 ∧ numB c (SM 130 10)) →
    ∃ (c' : Nat) (SC' SM' : SS), fX3_advance_L107 fc SC = some SC' ∧ fX12_next_L146 fm SM = some SM' ∧ c ≤ c' ∧ q + c' ≤ n ∧ SC' 19 4 = ((q + c' : Nat) : Int) ∧ SM' 130 7 = ((q + c' : Nat) : Int) ∧ only 19 [4, 7] SC SC' ∧ only 130 [7, 10] SM SM' ∧ (c' ≤ 3 → SC' 19 7 = SM' 130 10 ∧ numB c' (SM' 130 10)) ∧ (q + c < n → 48 ≤ T (q + c) ∧ T (q + c) ≤ 57 → c < c') := by
  have hn := ht.1
  intro m
  induction m with
  | zero =>
    intro c fc fm SC SM hm hc hf cT c3 c4 mU m8 m6 m7 hv
    obtain ⟨fc, rfl⟩ := suc_of hc
    obtain ⟨fm, rfl⟩ := suc_of hf
    unfold fX3_advance_L107 fX12_next_L146
    rw [c3, c4, if_pos (by omega), m7, see_out m8 (by omega), bnd_s, digM, bnd_s, if_neg (by decide)]
    exact ⟨c, SC, SM, rfl, rfl, by omega, by omega, c4, m7, only_r, only_r, hv, fun h => by omega⟩
  | succ m ih =>
    intro c fc fm SC SM hm hc hf cT c3 c4 mU m8 m6 m7 hv
    obtain ⟨fc, rfl⟩ := suc_of hc
    obtain ⟨fm, rfl⟩ := suc_of hf
    obtain ⟨t1, t2, t3⟩ := ht.2 (q + c) (by omega)
    unfold fX3_advance_L107 fX12_next_L146
    rw [c3, c4, if_neg (by omega), rdA_ok (by omega) (by omega), rdA_ok (by omega) (by omega), Int.toNat_natCast, cT, m7, m6, see_in m8 mU (by omega) hn, bnd_s, digC, digM, bnd_s, bnd_s, bnd_s]
    by_cases b1 : 48 ≤ T (q + c) ∧ T (q + c) ≤ 57
    · rw [if_pos (decide_eq_true b1), if_pos (decide_eq_true (show 48 ≤ U (q + c) ∧ U (q + c) ≤ 57 by omega)), lt_ok, lt_ok, lt_ok, up_at, if_neg (show ¬ (4 : Nat) = 7 by decide), c4, w32_k (by omega), show w32 (((q + c : Nat) : Int) - q) = c by rw [w32_eq (by omega) (by omega)]; omega]
      by_cases b3 : (3 : Int) ≤ c
      · rw [if_pos b3, bnd_s, lt_ok, m7, w32_k (by omega)]
        obtain ⟨c', SC', SM', r1, r2, r3, r4, r5, r6, r7, r8, r9, _⟩ := ih (c + 1) fc fm (up (up SC 19 7 (w32 (w32 (SC 19 7 * 10) + w32 (T (q + c) - 48)))) 19 4 ((q + c + 1 : Nat) : Int)) (up SM 130 7 ((q + c + 1 : Nat) : Int)) (by omega) (by omega) (by omega) (by rw [up_row (by decide), up_row (by decide)]; exact cT) (by rw [up_at, if_neg (by decide), up_at, if_neg (by decide)]; exact c3) up_self ((up_row (by decide)).trans mU) (by rw [up_at, if_neg (by decide)]; exact m8) (by rw [up_at, if_neg (by decide)]; exact m6) up_self (fun h => by omega)
        exact ⟨c', SC', SM', r1, r2, by omega, r4, r5, r6, only_t (only_t (only_u (by decide)) (only_u (by decide))) r7, only_t (only_u (by decide)) r8, r9, fun _ _ => by omega⟩
      · obtain ⟨v1, v2⟩ := hv (by omega)
        unfold numB at v2
        have x1 : w32 (w32 (SC 19 7 * 10) + w32 (T (q + c) - 48)) = SM 130 10 * 10 + (T (q + c) - 48) := by rw [v1, w32_eq (x := SM 130 10 * 10) (by omega) (by omega), w32_eq (x := T (q + c) - 48) (by omega) (by omega), w32_eq (by omega) (by omega)]
        have x2 : w32 (w32 (w32 (10 * SM 130 10) + U (q + c)) - 48) = SM 130 10 * 10 + (T (q + c) - 48) := by rw [w32_eq (x := 10 * SM 130 10) (by omega) (by omega), w32_eq (x := 10 * SM 130 10 + U (q + c)) (by omega) (by omega), w32_eq (by omega) (by omega)]; omega
        rw [if_neg b3, bnd_s, lt_ok, x1, x2, up_at, if_neg (show ¬ (7 : Nat) = 10 by decide), m7, w32_k (by omega)]
        obtain ⟨c', SC', SM', r1, r2, r3, r4, r5, r6, r7, r8, r9, _⟩ := ih (c + 1) fc fm (up (up SC 19 7 (SM 130 10 * 10 + (T (q + c) - 48))) 19 4 ((q + c + 1 : Nat) : Int)) (up (up SM 130 10 (SM 130 10 * 10 + (T (q + c) - 48))) 130 7 ((q + c + 1 : Nat) : Int)) (by omega) (by omega) (by omega) (by rw [up_row (by decide), up_row (by decide)]; exact cT) (by rw [up_at, if_neg (by decide), up_at, if_neg (by decide)]; exact c3) up_self (by rw [up_row (by decide), up_row (by decide)]; exact mU) (by rw [up_at, if_neg (by decide), up_at, if_neg (by decide)]; exact m8) (by rw [up_at, if_neg (by decide), up_at, if_neg (by decide)]; exact m6) up_self (fun h => by
          rw [up_at, if_neg (by decide), up_self, up_at, if_neg (by decide), up_self]
          refine ⟨rfl, ?_⟩
          unfold numB
          omega)
        exact ⟨c', SC', SM', r1, r2, by omega, r4, r5, r6, only_t (only_t (only_u (by decide)) (only_u (by decide))) r7, only_t (only_t (only_u (by decide)) (only_u (by decide))) r8, r9, fun _ _ => by omega⟩
    · rw [if_neg (by rw [decide_eq_true_eq]; exact b1), if_neg (by rw [decide_eq_true_eq]; omega)]
      exact ⟨c, SC, SM, rfl, rfl, by omega, by omega, c4, m7, only_r, only_r, hv, fun _ h => absurd h b1⟩
/-! signs -/
def sgF (v : Int) : Nat → Nat → Int → Int
  | 0, _, cur => cur
  | m + 1, l, cur => sgF v m (l + 1) (if v = chA 1 l then 30 + (l : Int) else cur)
theorem sg_j {U : Nat → Int} {n q : Nat} (hn : n ≤ 900) (hq : q < n) : ∀ (m l fm : Nat) (SM : SS), m + l = 12 → m < fm → SM 133 = U → SM 130 8 = n → SM 130 6 = q →
    ∃ SM', fX12_next_L254 fm l SM = some SM' ∧ SM' 130 9 = sgF (U q) m l (SM 130 9) ∧ only 130 [9] SM SM' := by
  intro m
  induction m with
  | zero =>
    intro l fm SM hm hf mU m8 m6
    obtain ⟨fm, rfl⟩ := suc_of hf
    unfold fX12_next_L254
    rw [if_pos (by omega)]
    exact ⟨SM, rfl, rfl, only_r⟩
  | succ m ih =>
    intro l fm SM hm hf mU m8 m6
    obtain ⟨fm, rfl⟩ := suc_of hf
    unfold fX12_next_L254
    rw [if_neg (by omega), m6, see_in m8 mU hq hn, bnd_s, rdX_ok (by omega) (by show (l : Int) < (12 : Nat); omega), Int.toNat_natCast, lt_ok, show w32 (30 + (l : Int)) = 30 + (l : Int) by rw [w32_eq (by omega) (by omega)]]
    by_cases e : U q = chA 1 l
    · rw [if_pos e, bnd_s, lt_ok, w32_k (by omega)]
      obtain ⟨SM', r1, r2, r3⟩ := ih (l + 1) fm (up SM 130 9 (30 + (l : Int))) (by omega) (by omega) ((up_row (by decide)).trans mU) (by rw [up_at, if_neg (by decide)]; exact m8) (by rw [up_at, if_neg (by decide)]; exact m6)
      refine ⟨SM', r1, ?_, only_t (only_u (by decide)) r3⟩
      rw [r2, up_self]
      show _ = sgF (U q) m (l + 1) (if U q = chA 1 l then 30 + (l : Int) else SM 130 9)
      rw [if_pos e]
    · rw [if_neg e, bnd_s, lt_ok, w32_k (by omega)]
      obtain ⟨SM', r1, r2, r3⟩ := ih (l + 1) fm SM (by omega) (by omega) mU m8 m6
      refine ⟨SM', r1, ?_, r3⟩
      rw [r2]
      show _ = sgF (U q) m (l + 1) (if U q = chA 1 l then 30 + (l : Int) else SM 130 9)
      rw [if_neg e]
def sgOk (v : Nat) : Bool := decide ((ixX 1 (jc v) < 0 ∧ sgF v 12 0 25 = 25) ∨ (0 ≤ ixX 1 (jc v) ∧ v ≠ 0 ∧ ((v = 59 ∧ sgF v 12 0 25 = 30) ∨ (v = 58 ∧ sgF v 12 0 25 = 31) ∨ (v = 43 ∧ sgF v 12 0 25 = 32) ∨ (v = 45 ∧ sgF v 12 0 25 = 33) ∨ (v = 42 ∧ sgF v 12 0 25 = 34) ∨ (v = 40 ∧ sgF v 12 0 25 = 35) ∨ (v = 41 ∧ sgF v 12 0 25 = 36) ∨ (v = 91 ∧ sgF v 12 0 25 = 37) ∨ (v = 93 ∧ sgF v 12 0 25 = 38) ∨ (v = 61 ∧ sgF v 12 0 25 = 39) ∨ (v = 60 ∧ sgF v 12 0 25 = 40) ∨ (v = 62 ∧ sgF v 12 0 25 = 41))))
theorem sg_all : (List.range 128).all sgOk = true := by decide +kernel
theorem sg_hi : (List.range 129).all (fun k => decide (sgF (((if k = 128 then 0 else k + 128 : Nat) : Int)) 12 0 25 = 25)) = true := by decide +kernel
theorem sg_rel {t u : Int} (hu : u = t % 256) (h0 : -128 ≤ t) (h1 : t ≤ 127) : (t ≤ 0 ∧ sgF u 12 0 25 = 25) ∨ (0 < t ∧ ixX 1 (jc t) < 0 ∧ sgF u 12 0 25 = 25) ∨ (0 < t ∧ 0 ≤ ixX 1 (jc t) ∧ tokRel t (sgF u 12 0 25)) := by
  by_cases h : 0 < t
  · obtain ⟨v, rfl⟩ : ∃ v : Nat, t = v := ⟨t.toNat, by omega⟩
    have e : u = (v : Int) := by omega
    subst e
    have a := of_decide_eq_true (List.all_eq_true.mp sg_all v (List.mem_range.mpr (by omega)))
    rcases a with a | ⟨a1, a2, a3⟩
    · exact Or.inr (Or.inl ⟨h, a⟩)
    · refine Or.inr (Or.inr ⟨h, a1, ?_⟩)
      rcases a3 with ⟨rfl, a⟩ | ⟨rfl, a⟩ | ⟨rfl, a⟩ | ⟨rfl, a⟩ | ⟨rfl, a⟩ | ⟨rfl, a⟩ | ⟨rfl, a⟩ | ⟨rfl, a⟩ | ⟨rfl, a⟩ | ⟨rfl, a⟩ | ⟨rfl, a⟩ | ⟨rfl, a⟩
      · rw [a]; exact tr_30
      · rw [a]; exact tr_31
      · rw [a]; exact tr_32
      · rw [a]; exact tr_33
      · rw [a]; exact tr_34
      · rw [a]; exact tr_35
      · rw [a]; exact tr_36
      · rw [a]; exact tr_37
      · rw [a]; exact tr_38
      · rw [a]; exact tr_39
      · rw [a]; exact tr_40
      · rw [a]; exact tr_41
  · refine Or.inl ⟨by omega, ?_⟩
    by_cases z : t = 0
    · have e : u = 0 := by omega
      subst e
      exact of_decide_eq_true (List.all_eq_true.mp sg_hi 128 (List.mem_range.mpr (by omega)))
    · obtain ⟨k, hk⟩ : ∃ k : Nat, u = ((k + 128 : Nat) : Int) := ⟨(u - 128).toNat, by omega⟩
      have a := of_decide_eq_true (List.all_eq_true.mp sg_hi k (List.mem_range.mpr (by omega)))
      rw [if_neg (by omega)] at a
      rw [hk]; exact a
def failC (f : Int) (S : SS) : SS := up (up (up S 19 9 f) 19 10 (S 19 6)) 19 5 1
theorem fail_0 {S : SS} {f : Int} (h : S 19 9 = 0) : fX3_fail f S = some (failC f S) := by
  unfold fX3_fail failC
  rw [if_pos h, lt_ok, lt_ok, lt_ok, up_at, if_neg (show ¬ (6 : Nat) = 9 by decide)]
theorem fail_n {S : SS} {f : Int} (h : S 19 9 ≠ 0) : fX3_fail f S = some S := by
  unfold fX3_fail
  rw [if_neg h]
theorem failC_9 {S : SS} {f : Int} : failC f S 19 9 = f := by unfold failC; rw [up_at, if_neg (by decide), up_at, if_neg (by decide), up_self]
theorem failC_10 {S : SS} {f : Int} : failC f S 19 10 = S 19 6 := by unfold failC; rw [up_at, if_neg (by decide), up_self]
theorem failC_5 {S : SS} {f : Int} : failC f S 19 5 = 1 := by unfold failC; rw [up_self]
theorem failC_o {S : SS} {f : Int} : only 19 [4, 5, 6, 7, 9, 10] S (failC f S) := only_t (only_t (only_u (by decide)) (only_u (by decide))) (only_u (by decide))
theorem on1 {a : Nat} {js : List Nat} {S S' : SS} (h : only a js S S') {j : Nat} {v : Int} (hj : j ∉ js) (e : S a j = v) : S' a j = v := (h.2 j hj).trans e
theorem lex_ok {T U : Nat → Int} {n : Nat} (ht : tp T U n) {SC SM : SS} {p : Nat} (hp : p ≤ n) (c9 : SC 19 9 = 0) (cT : SC 20 = T) (c3 : SC 19 3 = n) (c4 : SC 19 4 = p) (mU : SM 133 = U) (m8 : SM 130 8 = n) (m7 : SM 130 7 = p) :
    ∃ (q e : Nat) (SC' SM' : SS), fX3_advance SC = some SC' ∧ fX12_next SM = some SM' ∧ only 19 [4, 5, 6, 7, 9, 10] SC SC' ∧ only 130 [6, 7, 9, 10] SM SM' ∧ p ≤ q ∧ q ≤ n ∧ SM' 130 6 = q ∧ (SC' 19 9 = 0 → SC' 19 10 = SC 19 10) ∧
      ((SC' 19 9 = 0 ∧ SC' 19 6 = q ∧ SC' 19 4 = e ∧ SM' 130 7 = e ∧ tokRel (SC' 19 5) (SM' 130 9) ∧ (SM' 130 9 = 23 → SC' 19 7 = SM' 130 10 ∧ 0 ≤ SM' 130 10 ∧ SM' 130 10 ≤ 999) ∧ (SM' 130 9 = 24 ∨ (q < e ∧ e ≤ n)))
      ∨ (SC' 19 9 = 1 ∧ SC' 19 10 = q ∧ SC' 19 5 = 1 ∧ SM' 130 9 = 25)) := by
  have hn := ht.1
  obtain ⟨a, ha⟩ : ∃ a, a = fX3_advance SC := ⟨_, rfl⟩
  obtain ⟨b, hb⟩ : ∃ b, b = fX12_next SM := ⟨_, rfl⟩
  rw [← ha, ← hb]
  unfold fX3_advance at ha
  unfold fX12_next at hb
  obtain ⟨q, C1, M1, k1, k2, k3, k4, k5, k6, k7, k8⟩ := skip_j ht (n - p) p FU FU SC (up SM 130 6 (p : Int)) (by omega) (by unfold FU; omega) (by unfold FU; omega) cT c3 c4 ((up_row (by decide)).trans mU) (by rw [up_at, if_neg (by decide)]; exact m8) up_self
  obtain ⟨C2, hC⟩ : ∃ C2, C2 = up C1 19 6 (q : Int) := ⟨_, rfl⟩
  obtain ⟨M2, hM⟩ : ∃ M2, M2 = up M1 130 7 (q : Int) := ⟨_, rfl⟩
  have D : only 19 [4, 6] SC C2 := by rw [hC]; exact only_t (only_m k7 (by decide)) (only_u (by decide))
  have E : only 130 [6, 7] SM M2 := by rw [hM]; exact only_t (only_t (only_u (by decide)) (only_m k8 (by decide))) (only_u (by decide))
  have d4 : C2 19 4 = q := by rw [hC, up_at, if_neg (by decide)]; exact k5
  have d6 : C2 19 6 = q := by rw [hC, up_self]
  have d3 : C2 19 3 = n := on1 D (by decide) c3
  have d9 : C2 19 9 = 0 := on1 D (by decide) c9
  have dT : C2 20 = T := (D.1 20 (by decide)).trans cT
  have e6 : M2 130 6 = q := by rw [hM, up_at, if_neg (by decide)]; exact k6
  have e7 : M2 130 7 = q := by rw [hM, up_self]
  have e8 : M2 130 8 = n := on1 E (by decide) m8
  have eU : M2 133 = U := (E.1 133 (by decide)).trans mU
  rw [if_pos c9, k1, bnd_s, lt_ok, k5, ← hC, d4, d3] at ha
  rw [lt_ok, m7, k2, bnd_s, lt_ok, k6, ← hM, e6, e8] at hb
  clear hC hM k1 k2 k5 k6 k7 k8
  have D' : only 19 [4, 5, 6, 7, 9, 10] SC C2 := only_m D (by decide)
  have E' : only 130 [6, 7, 9, 10] SM M2 := only_m E (by decide)
  by_cases hq : q = n
  · rw [if_neg (by omega), lt_ok] at ha
    rw [if_neg (by omega), lt_ok] at hb
    refine ⟨q, q, _, _, ha, hb, only_t D' (only_u (by decide)), only_t E' (only_u (by decide)), k3, k4, ?_, fun _ => by rw [up_at, if_neg (by decide)]; exact D.2 10 (by decide), Or.inl ⟨?_, ?_, ?_, ?_, ?_, ?_, ?_⟩⟩
    · rw [up_at, if_neg (by decide)]; exact e6
    · rw [up_at, if_neg (by decide)]; exact d9
    · rw [up_at, if_neg (by decide)]; exact d6
    · rw [up_at, if_neg (by decide)]; exact d4
    · rw [up_at, if_neg (by decide)]; exact e7
    · rw [up_self, up_self]; exact Or.inl ⟨rfl, rfl⟩
    · rw [up_self]; intro h; exact absurd h (by decide)
    · rw [up_self]; exact Or.inl rfl
  · have hq' : q < n := by omega
    obtain ⟨t1, t2, t3⟩ := ht.2 q hq'
    rw [if_pos (show (q : Int) < n by omega), rdA_ok (by omega) (by omega), Int.toNat_natCast, dT, digC, bnd_s] at ha
    rw [if_pos (show (q : Int) < n by omega), see_in e8 eU hq' hn, bnd_s, letM, bnd_s] at hb
    by_cases g1 : 48 ≤ T q ∧ T q ≤ 57
    · rw [if_pos (decide_eq_true g1), lt_ok] at ha
      rw [if_neg (by rw [decide_eq_true_eq]; omega), bnd_s, digM, bnd_s, if_pos (decide_eq_true (show 48 ≤ U q ∧ U q ≤ 57 by omega)), lt_ok] at hb
      obtain ⟨c, C3, M3, k1, k2, k3', k4', k5, k6, k7, k8, k9, k10⟩ := num_j (q := q) ht (n - q) 0 FU FU (up C2 19 7 0) (up M2 130 10 0) (by omega) (by unfold FU; omega) (by unfold FU; omega) ((up_row (by decide)).trans dT) (by rw [up_at, if_neg (by decide)]; exact d3) (by rw [up_at, if_neg (by decide)]; exact d4) ((up_row (by decide)).trans eU) (by rw [up_at, if_neg (by decide)]; exact e8) (by rw [up_at, if_neg (by decide)]; exact e6) (by rw [up_at, if_neg (by decide)]; exact e7) (fun _ => by rw [up_self, up_self]; exact ⟨rfl, by unfold numB; omega⟩)
      have hc : 0 < c := k10 (by omega) g1
      have f6 : C3 19 6 = q := on1 k7 (by decide) (by rw [up_at, if_neg (by decide)]; exact d6)
      have f9 : C3 19 9 = 0 := on1 k7 (by decide) (by rw [up_at, if_neg (by decide)]; exact d9)
      have g6 : M3 130 6 = q := on1 k8 (by decide) (by rw [up_at, if_neg (by decide)]; exact e6)
      have D2 : only 19 [4, 5, 6, 7, 9, 10] SC C3 := only_t D' (only_t (only_u (by decide)) (only_m k7 (by decide)))
      have E2 : only 130 [6, 7, 9, 10] SM M3 := only_t E' (only_t (only_u (by decide)) (only_m k8 (by decide)))
      rw [k1, bnd_s, lt_ok, up_at, if_neg (show ¬ (4 : Nat) = 5 by decide), k5, up_at, if_neg (show ¬ (6 : Nat) = 5 by decide), f6, show w32 (((q + c : Nat) : Int) - q) = c by rw [w32_eq (by omega) (by omega)]; omega] at ha
      rw [k2, bnd_s, k6, g6, show w32 (((q + c : Nat) : Int) - q) = c by rw [w32_eq (by omega) (by omega)]; omega] at hb
      by_cases h3 : (c : Int) ≤ 3
      · rw [if_pos h3] at ha
        rw [if_pos h3, bnd_s, lt_ok] at hb
        obtain ⟨v1, v2⟩ := k9 (by omega)
        refine ⟨q, q + c, _, _, ha, hb, only_t D2 (only_u (by decide)), only_t E2 (only_u (by decide)), k3, k4, ?_, fun _ => by rw [up_at, if_neg (by decide)]; exact (k7.2 10 (by decide)).trans (by rw [up_at, if_neg (by decide)]; exact D.2 10 (by decide)), Or.inl ⟨?_, ?_, ?_, ?_, ?_, ?_, ?_⟩⟩
        · rw [up_at, if_neg (by decide)]; exact g6
        · rw [up_at, if_neg (by decide)]; exact f9
        · rw [up_at, if_neg (by decide)]; exact f6
        · rw [up_at, if_neg (by decide)]; exact k5
        · rw [up_at, if_neg (by decide)]; exact k6
        · rw [up_self, up_self]; exact Or.inr (Or.inl ⟨rfl, rfl⟩)
        · intro _
          rw [up_at, if_neg (by decide), up_at, if_neg (by decide)]
          unfold numB at v2
          exact ⟨v1, by omega, by omega⟩
        · exact Or.inr ⟨by omega, k4'⟩
      · rw [if_neg h3, fail_0 (by rw [up_at, if_neg (by decide)]; exact f9), bnd_s] at ha
        rw [if_neg h3, bnd_s, lt_ok] at hb
        refine ⟨q, q, _, _, ha, hb, only_t (only_t D2 (only_u (by decide))) failC_o, only_t E2 (only_u (by decide)), k3, k4, ?_, fun h => absurd (failC_9.symm.trans h) (by decide), Or.inr ⟨failC_9, ?_, failC_5, up_self⟩⟩
        · rw [up_at, if_neg (by decide)]; exact g6
        · rw [failC_10, up_at, if_neg (by decide)]; exact f6
    · rw [if_neg (by rw [decide_eq_true_eq]; exact g1), letC, bnd_s] at ha
      by_cases g2 : 97 ≤ T q ∧ T q ≤ 122
      · rw [if_pos (decide_eq_true g2)] at ha
        rw [if_pos (decide_eq_true (show 97 ≤ U q ∧ U q ≤ 122 by omega))] at hb
        obtain ⟨e, C3, M3, k1, k2, k3', k4', k5, k6, k7, k8, k9, k10⟩ := let_j ht (n - q) q FU FU C2 M2 (by omega) (by unfold FU; omega) (by unfold FU; omega) dT d3 d4 eU e8 e7
        have hc : q < e := k10 hq' g2
        obtain ⟨L, rfl⟩ : ∃ L, e = q + L := ⟨e - q, by omega⟩
        have f6 : C3 19 6 = q := on1 k7 (by decide) d6
        have f9 : C3 19 9 = 0 := on1 k7 (by decide) d9
        have g6 : M3 130 6 = q := on1 k8 (by decide) e6
        have fT : C3 20 = T := (k7.1 20 (by decide)).trans dT
        have gU : M3 133 = U := (k8.1 133 (by decide)).trans eU
        have D2 : only 19 [4, 5, 6, 7, 9, 10] SC C3 := only_t D' (only_m k7 (by decide))
        have E2 : only 130 [6, 7, 9, 10] SM M3 := only_t E' (only_m k8 (by decide))
        rw [k1, bnd_s, f6, k5, wordFrom_ok fT (by omega), bnd_s, lt_ok] at ha
        rw [k2, bnd_s, keyAt_ok gU g6 k6 (by omega), bnd_s, lt_ok] at hb
        refine ⟨q, q + L, _, _, ha, hb, only_t D2 (only_u (by decide)), only_t E2 (only_u (by decide)), k3, k4, ?_, fun _ => by rw [up_at, if_neg (by decide)]; exact (k7.2 10 (by decide)).trans (D.2 10 (by decide)), Or.inl ⟨?_, ?_, ?_, ?_, ?_, ?_, ?_⟩⟩
        · rw [up_at, if_neg (by decide)]; exact g6
        · rw [up_at, if_neg (by decide)]; exact f9
        · rw [up_at, if_neg (by decide)]; exact f6
        · rw [up_at, if_neg (by decide)]; exact k5
        · rw [up_at, if_neg (by decide)]; exact k6
        · rw [up_self, up_self, rowF_e L q (fun k h0 h1 => k9 k h0 h1)]; exact words_rel _
        · rw [up_self]; intro h; exact absurd h (kcv_b _)
        · exact Or.inr ⟨hc, k4'⟩
      · rw [if_neg (by rw [decide_eq_true_eq]; exact g2)] at ha
        rw [if_neg (by rw [decide_eq_true_eq]; omega), bnd_s, digM, bnd_s, if_neg (by rw [decide_eq_true_eq]; omega), lt_ok, e7, w32_k (by omega), lt_ok] at hb
        obtain ⟨M3, k2, k6, k8⟩ := sg_j (U := U) (q := q) hn hq' 12 0 FU (up (up M2 130 7 ((q + 1 : Nat) : Int)) 130 9 25) rfl (by unfold FU; omega) (by rw [up_row (by decide), up_row (by decide)]; exact eU) (by rw [up_at, if_neg (by decide), up_at, if_neg (by decide)]; exact e8) (by rw [up_at, if_neg (by decide), up_at, if_neg (by decide)]; exact e6)
        have k2' : fX12_next_L254 FU 0 (up (up M2 130 7 ((q + 1 : Nat) : Int)) 130 9 25) = some M3 := k2
        rw [k2', bnd_s] at hb
        rw [up_self] at k6
        have g6 : M3 130 6 = q := on1 k8 (by decide) (by rw [up_at, if_neg (by decide), up_at, if_neg (by decide)]; exact e6)
        have g7 : M3 130 7 = ((q + 1 : Nat) : Int) := on1 k8 (by decide) (by rw [up_at, if_neg (by decide), up_self])
        have E2 : only 130 [6, 7, 9, 10] SM M3 := only_t E' (only_t (only_t (only_u (by decide)) (only_u (by decide))) (only_m k8 (by decide)))
        rcases sg_rel t1 t2 t3 with ⟨s1, s2⟩ | ⟨s1, s2, s3⟩ | ⟨s1, s2, s3⟩
        · rw [if_pos s1, fail_0 d9, bnd_s] at ha
          exact ⟨q, q, _, _, ha, hb, only_t D' failC_o, E2, k3, k4, g6, fun h => absurd (failC_9.symm.trans h) (by decide), Or.inr ⟨failC_9, failC_10.trans d6, failC_5, k6.trans s2⟩⟩
        · rw [if_neg (by omega), lt_ok, if_pos s2, fail_0 d9, bnd_s] at ha
          exact ⟨q, q, _, _, ha, hb, only_t D' failC_o, E2, k3, k4, g6, fun h => absurd (failC_9.symm.trans h) (by decide), Or.inr ⟨failC_9, failC_10.trans d6, failC_5, k6.trans s3⟩⟩
        · rw [if_neg (by omega), lt_ok, if_neg (by omega), lt_ok, lt_ok, up_at, if_neg (show ¬ (4 : Nat) = 5 by decide), d4, w32_k (by omega)] at ha
          refine ⟨q, q + 1, _, _, ha, hb, only_t D' (only_t (only_u (by decide)) (only_u (by decide))), E2, k3, k4, g6, fun _ => by rw [up_at, if_neg (by decide), up_at, if_neg (by decide)]; exact D.2 10 (by decide), Or.inl ⟨?_, ?_, up_self, g7, ?_, ?_, ?_⟩⟩
          · rw [up_at, if_neg (by decide), up_at, if_neg (by decide)]; exact d9
          · rw [up_at, if_neg (by decide), up_at, if_neg (by decide)]; exact d6
          · rw [up_at, if_neg (by decide), up_self, k6]; exact s3
          · intro h
            rw [k6] at h
            rw [h] at s3
            exact absurd ((pr_23.1 _ _ s3).mpr rfl) (by omega)
          · exact Or.inr ⟨by omega, by omega⟩
