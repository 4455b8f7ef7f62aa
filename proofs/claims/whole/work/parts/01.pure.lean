/-! the pure picture: a cell's digit, the code behind it, the ten codes -/
/-- the digit that a code stands for, -1 if it stands for none -/
def bq_dg (x : Int32) : Int32 := if x = 33 then 0 else if x = 34 then 1 else if x = 36 then 2 else if x = 40 then 3 else if x = 48 then 4 else if x = 65 then 5 else if x = 66 then 6 else if x = 68 then 7 else if x = 72 then 8 else if x = 80 then 9 else -1
/-- the code of the next digit; of nine, and of all else, the code of zero -/
def bq_nx (x : Int32) : Int32 := if x = 33 then 34 else if x = 34 then 36 else if x = 36 then 40 else if x = 40 then 48 else if x = 48 then 65 else if x = 65 then 66 else if x = 66 then 68 else if x = 68 then 72 else if x = 72 then 80 else 33
/-- one of the ten codes -/
def bq_code (x : Int32) : Prop := x = 33 ∨ x = 34 ∨ x = 36 ∨ x = 40 ∨ x = 48 ∨ x = 65 ∨ x = 66 ∨ x = 68 ∨ x = 72 ∨ x = 80
theorem bq_or (x : Int32) : bq_code x ∨ bq_dg x = -1 := by
  unfold bq_dg bq_code
  by_cases h0 : x = 33
  · exact .inl (.inl h0)
  by_cases h1 : x = 34
  · exact .inl (.inr (.inl h1))
  by_cases h2 : x = 36
  · exact .inl (.inr (.inr (.inl h2)))
  by_cases h3 : x = 40
  · exact .inl (.inr (.inr (.inr (.inl h3))))
  by_cases h4 : x = 48
  · exact .inl (.inr (.inr (.inr (.inr (.inl h4)))))
  by_cases h5 : x = 65
  · exact .inl (.inr (.inr (.inr (.inr (.inr (.inl h5))))))
  by_cases h6 : x = 66
  · exact .inl (.inr (.inr (.inr (.inr (.inr (.inr (.inl h6)))))))
  by_cases h7 : x = 68
  · exact .inl (.inr (.inr (.inr (.inr (.inr (.inr (.inr (.inl h7))))))))
  by_cases h8 : x = 72
  · exact .inl (.inr (.inr (.inr (.inr (.inr (.inr (.inr (.inr (.inl h8)))))))))
  by_cases h9 : x = 80
  · exact .inl (.inr (.inr (.inr (.inr (.inr (.inr (.inr (.inr (.inr (h9))))))))))
  exact .inr (by rw [if_neg h0, if_neg h1, if_neg h2, if_neg h3, if_neg h4, if_neg h5, if_neg h6, if_neg h7, if_neg h8, if_neg h9])
theorem bq_lt0 (x : Int32) : bq_dg x < 0 ↔ bq_dg x = -1 := by
  rcases bq_or x with (rfl|rfl|rfl|rfl|rfl|rfl|rfl|rfl|rfl|rfl) | h
  any_goals decide +kernel
  rw [h]; decide +kernel
theorem bq_9 (x : Int32) : bq_dg x = 9 ↔ x = 80 := by
  rcases bq_or x with (rfl|rfl|rfl|rfl|rfl|rfl|rfl|rfl|rfl|rfl) | h
  any_goals decide +kernel
  exact ⟨fun z => absurd (h.symm.trans z) (by decide +kernel), fun z => absurd ((congrArg bq_dg z).symm.trans h) (by decide +kernel)⟩
/-- what a cell holds: seven bits -/
def bq_b (x : Int32) : Prop := ∃ n : Nat, n < 128 ∧ x = nI n
theorem bq_b0 : bq_b 0 := ⟨0, by decide, nI_0.symm⟩
theorem bq_b33 : bq_b 33 := ⟨33, by decide, by decide +kernel⟩
theorem bq_bnx {x : Int32} (h : bq_code x) : bq_b (bq_nx x) := by
  rcases h with rfl|rfl|rfl|rfl|rfl|rfl|rfl|rfl|rfl|rfl
  · exact ⟨34, by decide +kernel, by decide +kernel⟩
  · exact ⟨36, by decide +kernel, by decide +kernel⟩
  · exact ⟨40, by decide +kernel, by decide +kernel⟩
  · exact ⟨48, by decide +kernel, by decide +kernel⟩
  · exact ⟨65, by decide +kernel, by decide +kernel⟩
  · exact ⟨66, by decide +kernel, by decide +kernel⟩
  · exact ⟨68, by decide +kernel, by decide +kernel⟩
  · exact ⟨72, by decide +kernel, by decide +kernel⟩
  · exact ⟨80, by decide +kernel, by decide +kernel⟩
  · exact ⟨33, by decide +kernel, by decide +kernel⟩
theorem bq_i8 : ∀ n, n < 128 → (nI n).toInt8.toInt32 = nI n := by decide +kernel
theorem bq_nar {x : Int32} (h : bq_b x) : vp_nar .byte x = x := by
  obtain ⟨n, hn, rfl⟩ := h
  rw [vp_nar_byte, bq_i8 n hn]
theorem bq_xor : ∀ n, n < 128 → ∀ b, b < 7 → nI n ^^^ ((1 : Int32) <<< (nI b &&& 31)) = nI (n ^^^ 2 ^ b) ∧ n ^^^ 2 ^ b < 128 ∧ ((1 : Int32) <<< (nI b &&& 31)) = nI (2 ^ b) ∧ 2 ^ b < 128 := by decide +kernel
/-- the lowest cell of the four that has no digit, -1 if each has one -/
def bq_lo (a : Nat → Int32) : Int32 := if bq_dg (a 0) = -1 then 0 else if bq_dg (a 1) = -1 then 1 else if bq_dg (a 2) = -1 then 2 else if bq_dg (a 3) = -1 then 3 else -1
/-- the number that the four cells stand for -/
def bq_num (a : Nat → Int32) : Int32 := (((0 * 10 + bq_dg (a 3)) * 10 + bq_dg (a 2)) * 10 + bq_dg (a 1)) * 10 + bq_dg (a 0)
theorem bq_num' (a : Nat → Int32) : bq_dg (a 3) * 1000 + bq_dg (a 2) * 100 + bq_dg (a 1) * 10 + bq_dg (a 0) = bq_num a := by
  unfold bq_num
  grind
theorem bq_lo_neg {a : Nat → Int32} (h : ¬ 0 ≤ bq_lo a) : bq_code (a 0) ∧ bq_code (a 1) ∧ bq_code (a 2) ∧ bq_code (a 3) := by
  unfold bq_lo at h
  by_cases h0 : bq_dg (a 0) = -1
  · exact absurd (by rw [if_pos h0]; decide +kernel) h
  by_cases h1 : bq_dg (a 1) = -1
  · exact absurd (by rw [if_neg h0, if_pos h1]; decide +kernel) h
  by_cases h2 : bq_dg (a 2) = -1
  · exact absurd (by rw [if_neg h0, if_neg h1, if_pos h2]; decide +kernel) h
  by_cases h3 : bq_dg (a 3) = -1
  · exact absurd (by rw [if_neg h0, if_neg h1, if_neg h2, if_pos h3]; decide +kernel) h
  exact ⟨(bq_or _).resolve_right h0, (bq_or _).resolve_right h1, (bq_or _).resolve_right h2, (bq_or _).resolve_right h3⟩
