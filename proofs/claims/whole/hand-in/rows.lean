section
/-! the pure picture: a cell's digit, the code behind it, the ten codes -/
/-- the digit that a code stands for, -1 if it stands for none -/
def bq_dg (x : Int32) : Int32 := if x = 33 then 0 else if x = 34 then 1 else if x = 36 then 2 else if x = 40 then 3 else if x = 48 then 4 else if x = 65 then 5 else if x = 66 then 6 else if x = 68 then 7 else if x = 72 then 8 else if x = 80 then 9 else -1
/-- the code of the next digit; of nine, and of all else, the code of zero -/
def bq_nx (x : Int32) : Int32 := if x = 33 then 34 else if x = 34 then 36 else if x = 36 then 40 else if x = 40 then 48 else if x = 48 then 65 else if x = 65 then 66 else if x = 66 then 68 else if x = 68 then 72 else if x = 72 then 80 else 33
/-- one of the ten codes -/
def bq_code (x : Int32) : Prop := x = 33 ∨ x = 34 ∨ x = 36 ∨ x = 40 ∨ x = 48 ∨ x = 65 ∨ x = 66 ∨ x = 68 ∨ x = 72 ∨ x = 80
theorem bq_or (x : Int32) : bq_code x ∨ bq_dg x = -1 := by
  unfold bq_dg bq_code
  by_cases h0 : x = 33
  · exact .inl (.inl h0)
  by_cases h1 : x = 34
  · exact .inl (.inr (.inl h1))
  by_cases h2 : x = 36
  · exact .inl (.inr (.inr (.inl h2)))
  by_cases h3 : x = 40
  · exact .inl (.inr (.inr (.inr (.inl h3))))
  by_cases h4 : x = 48
  · exact .inl (.inr (.inr (.inr (.inr (.inl h4)))))
  by_cases h5 : x = 65
  · exact .inl (.inr (.inr (.inr (.inr (.inr (.inl h5))))))
  by_cases h6 : x = 66
  · exact .inl (.inr (.inr (.inr (.inr (.inr (.inr (.inl h6)))))))
  by_cases h7 : x = 68
  · exact .inl (.inr (.inr (.inr (.inr (.inr (.inr (.inr (.inl h7))))))))
  by_cases h8 : x = 72
  · exact .inl (.inr (.inr (.inr (.inr (.inr (.inr (.inr (.inr (.inl h8)))))))))
  by_cases h9 : x = 80
  · exact .inl (.inr (.inr (.inr (.inr (.inr (.inr (.inr (.inr (.inr (h9))))))))))
  exact .inr (by rw [if_neg h0, if_neg h1, if_neg h2, if_neg h3, if_neg h4, if_neg h5, if_neg h6, if_neg h7, if_neg h8, if_neg h9])
theorem bq_lt0 (x : Int32) : bq_dg x < 0 ↔ bq_dg x = -1 := by
  rcases bq_or x with (rfl|rfl|rfl|rfl|rfl|rfl|rfl|rfl|rfl|rfl) | h
  any_goals decide +kernel
  rw [h]; decide +kernel
theorem bq_9 (x : Int32) : bq_dg x = 9 ↔ x = 80 := by
  rcases bq_or x with (rfl|rfl|rfl|rfl|rfl|rfl|rfl|rfl|rfl|rfl) | h
  any_goals decide +kernel
  exact ⟨fun z => absurd (h.symm.trans z) (by decide +kernel), fun z => absurd ((congrArg bq_dg z).symm.trans h) (by decide +kernel)⟩
/-- what a cell holds: seven bits -/
def bq_b (x : Int32) : Prop := ∃ n : Nat, n < 128 ∧ x = nI n
theorem bq_b0 : bq_b 0 := ⟨0, by decide, nI_0.symm⟩
theorem bq_b33 : bq_b 33 := ⟨33, by decide, by decide +kernel⟩
theorem bq_bnx {x : Int32} (h : bq_code x) : bq_b (bq_nx x) := by
  rcases h with rfl|rfl|rfl|rfl|rfl|rfl|rfl|rfl|rfl|rfl
  · exact ⟨34, by decide +kernel, by decide +kernel⟩
  · exact ⟨36, by decide +kernel, by decide +kernel⟩
  · exact ⟨40, by decide +kernel, by decide +kernel⟩
  · exact ⟨48, by decide +kernel, by decide +kernel⟩
  · exact ⟨65, by decide +kernel, by decide +kernel⟩
  · exact ⟨66, by decide +kernel, by decide +kernel⟩
  · exact ⟨68, by decide +kernel, by decide +kernel⟩
  · exact ⟨72, by decide +kernel, by decide +kernel⟩
  · exact ⟨80, by decide +kernel, by decide +kernel⟩
  · exact ⟨33, by decide +kernel, by decide +kernel⟩
theorem bq_i8 : ∀ n, n < 128 → (nI n).toInt8.toInt32 = nI n := by decide +kernel
theorem bq_nar {x : Int32} (h : bq_b x) : vp_nar .byte x = x := by
  obtain ⟨n, hn, rfl⟩ := h
  rw [vp_nar_byte, bq_i8 n hn]
theorem bq_xor : ∀ n, n < 128 → ∀ b, b < 7 → nI n ^^^ ((1 : Int32) <<< (nI b &&& 31)) = nI (n ^^^ 2 ^ b) ∧ n ^^^ 2 ^ b < 128 ∧ ((1 : Int32) <<< (nI b &&& 31)) = nI (2 ^ b) ∧ 2 ^ b < 128 := by decide +kernel
/-- the lowest cell of the four that has no digit, -1 if each has one -/
def bq_lo (a : Nat → Int32) : Int32 := if bq_dg (a 0) = -1 then 0 else if bq_dg (a 1) = -1 then 1 else if bq_dg (a 2) = -1 then 2 else if bq_dg (a 3) = -1 then 3 else -1
/-- the number that the four cells stand for -/
def bq_num (a : Nat → Int32) : Int32 := (((0 * 10 + bq_dg (a 3)) * 10 + bq_dg (a 2)) * 10 + bq_dg (a 1)) * 10 + bq_dg (a 0)
theorem bq_num' (a : Nat → Int32) : bq_dg (a 3) * 1000 + bq_dg (a 2) * 100 + bq_dg (a 1) * 10 + bq_dg (a 0) = bq_num a := by
  unfold bq_num
  grind
theorem bq_lo_neg {a : Nat → Int32} (h : ¬ 0 ≤ bq_lo a) : bq_code (a 0) ∧ bq_code (a 1) ∧ bq_code (a 2) ∧ bq_code (a 3) := by
  unfold bq_lo at h
  by_cases h0 : bq_dg (a 0) = -1
  · exact absurd (by rw [if_pos h0]; decide +kernel) h
  by_cases h1 : bq_dg (a 1) = -1
  · exact absurd (by rw [if_neg h0, if_pos h1]; decide +kernel) h
  by_cases h2 : bq_dg (a 2) = -1
  · exact absurd (by rw [if_neg h0, if_neg h1, if_pos h2]; decide +kernel) h
  by_cases h3 : bq_dg (a 3) = -1
  · exact absurd (by rw [if_neg h0, if_neg h1, if_neg h2, if_pos h3]; decide +kernel) h
  exact ⟨(bq_or _).resolve_right h0, (bq_or _).resolve_right h1, (bq_or _).resolve_right h2, (bq_or _).resolve_right h3⟩
end
section
/-! each method's walk against the pure picture, with a general post -/
theorem bq_digitX {post : Int32 → Prop} {x : Int32} (h : post (bq_dg x)) : wpX_digitOf post x := by
  unfold bq_dg at h
  unfold wpX_digitOf
  refine br_c (fun e => by rw [if_pos e] at h; exact h) fun h0 => ?_
  rw [if_neg h0] at h
  refine br_c (fun e => by rw [if_pos e] at h; exact h) fun h1 => ?_
  rw [if_neg h1] at h
  refine br_c (fun e => by rw [if_pos e] at h; exact h) fun h2 => ?_
  rw [if_neg h2] at h
  refine br_c (fun e => by rw [if_pos e] at h; exact h) fun h3 => ?_
  rw [if_neg h3] at h
  refine br_c (fun e => by rw [if_pos e] at h; exact h) fun h4 => ?_
  rw [if_neg h4] at h
  refine br_c (fun e => by rw [if_pos e] at h; exact h) fun h5 => ?_
  rw [if_neg h5] at h
  refine br_c (fun e => by rw [if_pos e] at h; exact h) fun h6 => ?_
  rw [if_neg h6] at h
  refine br_c (fun e => by rw [if_pos e] at h; exact h) fun h7 => ?_
  rw [if_neg h7] at h
  refine br_c (fun e => by rw [if_pos e] at h; exact h) fun h8 => ?_
  rw [if_neg h8] at h
  exact br_c (fun e => by rw [if_pos e] at h; exact h) fun h9 => by rw [if_neg h9] at h; exact h
theorem bq_codeX {post : Int32 → Prop} {x : Int32} (h : post (bq_nx x)) : wpX_codeAfter post x := by
  unfold bq_nx at h
  unfold wpX_codeAfter
  refine br_c (fun e => by rw [if_pos e] at h; exact h) fun h0 => ?_
  rw [if_neg h0] at h
  refine br_c (fun e => by rw [if_pos e] at h; exact h) fun h1 => ?_
  rw [if_neg h1] at h
  refine br_c (fun e => by rw [if_pos e] at h; exact h) fun h2 => ?_
  rw [if_neg h2] at h
  refine br_c (fun e => by rw [if_pos e] at h; exact h) fun h3 => ?_
  rw [if_neg h3] at h
  refine br_c (fun e => by rw [if_pos e] at h; exact h) fun h4 => ?_
  rw [if_neg h4] at h
  refine br_c (fun e => by rw [if_pos e] at h; exact h) fun h5 => ?_
  rw [if_neg h5] at h
  refine br_c (fun e => by rw [if_pos e] at h; exact h) fun h6 => ?_
  rw [if_neg h6] at h
  refine br_c (fun e => by rw [if_pos e] at h; exact h) fun h7 => ?_
  rw [if_neg h7] at h
  exact br_c (fun e => by rw [if_pos e] at h; exact h) fun h8 => by rw [if_neg h8] at h; exact h
theorem bq_digitY {post : Int32 → Prop} {a : Nat → Int32} {i : Int32} (j : Nat) (hi : vp_in i 4) (hj : i.toNatClampNeg = j) (h : post (bq_dg (a j))) : wpY_digit post a i := by
  refine ⟨hi, fun x e => ?_⟩
  rw [hj] at e
  rw [e]
  exact (bq_digitX (post := post) (x := a j) h : wpX_digitOf post (a j))
theorem bq_in0 : vp_in 0 4 := vp_in_nI (n := 0) (by omega) (by omega)
theorem bq_in1 : vp_in 1 4 := vp_in_nI (n := 1) (by omega) (by omega)
theorem bq_in2 : vp_in 2 4 := vp_in_nI (n := 2) (by omega) (by omega)
theorem bq_in3 : vp_in 3 4 := vp_in_nI (n := 3) (by omega) (by omega)
theorem bq_c0 : (0 : Int32).toNatClampNeg = 0 := by decide +kernel
theorem bq_c1 : (1 : Int32).toNatClampNeg = 1 := by decide +kernel
theorem bq_c2 : (2 : Int32).toNatClampNeg = 2 := by decide +kernel
theorem bq_c3 : (3 : Int32).toNatClampNeg = 3 := by decide +kernel
theorem bq_low_s {post : Int32 → Prop} {a : Nat → Int32} {n : Nat} (j : Nat) (hj : j < 4) (h1 : bq_dg (a j) = -1 → post (nI j)) (h2 : ¬ bq_dg (a j) = -1 → wX_lowestInvalidCell_2 post a n (nI (j + 1))) : wX_lowestInvalidCell_2 post a (n + 1) (nI j) := by
  have h4 : ¬ (4 : Int32) ≤ nI j := nI_ge (b := 4) hj (by omega)
  refine br_f h4 ⟨vp_in_nI hj (by omega), bq_digitX ?_⟩
  rw [nI_clamp (n := j) (by omega)]
  exact br_c h1 fun z => nm_r (nI_1 j) (h2 z)
theorem bq_le4 : (4 : Int32) ≤ nI 4 := by decide +kernel
theorem bq_lowX {post : Int32 → Prop} {a : Nat → Int32} (h : post (bq_lo a)) : wpX_lowestInvalidCell post a := by
  unfold bq_lo at h
  refine ⟨5, bq_low_s 0 (by omega) (fun e => by rw [if_pos e] at h; exact h) fun e0 => ?_⟩
  rw [if_neg e0] at h
  refine bq_low_s 1 (by omega) (fun e => by rw [if_pos e] at h; exact h) fun e1 => ?_
  rw [if_neg e1] at h
  refine bq_low_s 2 (by omega) (fun e => by rw [if_pos e] at h; exact h) fun e2 => ?_
  rw [if_neg e2] at h
  refine bq_low_s 3 (by omega) (fun e => by rw [if_pos e] at h; exact h) fun e3 => ?_
  rw [if_neg e3] at h
  exact br_t bq_le4 h
theorem bq_sg {x : Int32} {A B : Prop} (f : ¬ bq_dg x = -1 → A) (g : bq_dg x = -1 → B) : (0 ≤ bq_dg x → A) ∧ (¬ 0 ≤ bq_dg x → B) := by
  by_cases e : bq_dg x = -1
  · exact br_f (Int32.not_le.mpr ((bq_lt0 x).mpr e)) (g e)
  · exact br_t (Int32.not_lt.mp fun z => e ((bq_lt0 x).mp z)) (f e)
theorem bq_faultyY {post : Int32 → Prop} {a : Nat → Int32} (h : post (bq_lo a)) : wpY_faulty post a := by
  unfold bq_lo at h
  unfold wpY_faulty
  refine bq_digitY 0 bq_in0 bq_c0 (bq_sg (fun e0 => ?_) (fun e => by rw [if_pos e] at h; exact h))
  rw [if_neg e0] at h
  refine bq_digitY 1 bq_in1 bq_c1 (bq_sg (fun e1 => ?_) (fun e => by rw [if_pos e] at h; exact h))
  rw [if_neg e1] at h
  refine bq_digitY 2 bq_in2 bq_c2 (bq_sg (fun e2 => ?_) (fun e => by rw [if_pos e] at h; exact h))
  rw [if_neg e2] at h
  refine bq_digitY 3 bq_in3 bq_c3 (bq_sg (fun e3 => ?_) (fun e => by rw [if_pos e] at h; exact h))
  rw [if_neg e3] at h
  exact h
theorem bq_i8' {x : Int32} (h : bq_b x) : x.toInt8.toInt32 = x := by
  obtain ⟨n, hn, rfl⟩ := h
  exact bq_i8 n hn
theorem bq_bu {a : Nat → Int32} {j : Nat} {w : Int32} (ha : ∀ i, bq_b (a i)) (hw : bq_b w) (i : Nat) : bq_b (upd a j w i) := by
  by_cases e : i = j
  · rw [show upd a j w i = w from if_pos e]; exact hw
  · rw [show upd a j w i = a i from if_neg e]; exact ha i
theorem bq_b40 {post : Int32 → SX → Prop} {J : Int32 → Int32 → Int32 → (Nat → Int32) → Prop} {z w : Int32} {a : Nat → Int32} {j : Nat} (hj : j < 4) (hw : bq_nx (a j) = w) (hb : bq_b w) (h : J (nI (j + 1)) z (nI (j + 1)) (upd a j w)) : wX_bump_40 post J (nI j) (nI j) z a := by
  have hi : vp_in (nI j) 4 := vp_in_nI hj (by omega)
  refine ⟨hi, bq_codeX ⟨hi, nm_r (e' := upd a j w) ?_ (nm_r (nI_1 j) (nm_r (nI_1 j) h))⟩⟩
  rw [nI_clamp (n := j) (by omega), hw, bq_i8' hb, bq_nar hb]
theorem bq_st1 {x : Int32} (h : bq_code x) (l : bq_dg x + 1 < 5) : vp_nar .byte ((((1 : Int32) <<< (((bq_dg x + 1) - (bq_dg x + 1) / 5 * 5) &&& 31)) ||| 32).toInt8.toInt32) = bq_nx x := by
  rw [vp_nar_byte]
  rcases h with rfl|rfl|rfl|rfl|rfl|rfl|rfl|rfl|rfl|rfl
  all_goals first | decide +kernel | exact absurd l (by decide +kernel)
theorem bq_st2 {x : Int32} (h : bq_code x) (z : ¬ x = 80) (l : ¬ bq_dg x + 1 < 5) : vp_nar .byte ((((1 : Int32) <<< (((bq_dg x + 1) - (bq_dg x + 1) / 5 * 5) &&& 31)) ||| 64).toInt8.toInt32) = bq_nx x := by
  rw [vp_nar_byte]
  rcases h with rfl|rfl|rfl|rfl|rfl|rfl|rfl|rfl|rfl|rfl
  all_goals first | decide +kernel | exact absurd (by decide +kernel) l | exact absurd rfl z
/-- bump's two loops in lockstep: from cell j on, the cells behind it being codes, both end with one answer and one array -/
theorem bq_bump (d : Nat) : ∀ (j : Nat) (a : Nat → Int32), j + d = 4 → (∀ i, bq_b (a i)) → (∀ i, j ≤ i → i < 4 → bq_code (a i)) → ∃ (r : Int32) (a' : Nat → Int32), (∀ i, bq_b (a' i)) ∧ (∀ post : Int32 → SX → Prop, post r a' → wX_bump_15 post (d + 1) (nI j) 1 (nI j) a) ∧ (∀ post : Int32 → SY → Prop, post r a' → wY_bump_11 post (d + 1) (nI j) a) := by
  induction d with
  | zero =>
    intro j a hj hb hc
    obtain rfl : j = 4 := by omega
    exact ⟨nI 4, a, hb, fun _ hp => br_t bq_le4 hp, fun _ hp => br_t bq_le4 hp⟩
  | succ d ih =>
    intro j a hj hb hc
    have h4 : ¬ (4 : Int32) ≤ nI j := nI_ge (b := 4) (by omega) (by omega)
    have hi : vp_in (nI j) 4 := vp_in_nI (by omega) (by omega)
    have cl : (nI j).toNatClampNeg = j := nI_clamp (by omega)
    have cj : bq_code (a j) := hc j (Nat.le_refl j) (by omega)
    by_cases z : a j = 80
    · obtain ⟨r, a', hb', hX, hY⟩ := ih (j + 1) (upd a j 33) (by omega) (bq_bu hb bq_b33) (fun i h1 h2 => by
        rw [show upd a j 33 i = a i from if_neg (by omega)]
        exact hc i (by omega) h2)
      have e : bq_nx (a j) = 33 := by rw [z]; decide +kernel
      refine ⟨r, a', hb', fun post hp => br_f h4 (br_f (by decide +kernel) ⟨hi, br_t (by rw [cl]; exact z) (bq_b40 (by omega) e bq_b33 (hX post hp))⟩), fun post hp => br_f h4 (bq_digitY j hi cl (br_t ((bq_9 _).mpr z) ⟨hi, nm_r (e' := upd a j 33) ?_ (nm_r (nI_1 j) (hY post hp))⟩))⟩
      rw [cl, bq_nar bq_b33]
    · refine ⟨nI (j + 1), upd a j (bq_nx (a j)), bq_bu hb (bq_bnx cj), fun post hp => br_f h4 (br_f (by decide +kernel) ⟨hi, br_f (by rw [cl]; exact z) (bq_b40 (by omega) rfl (bq_bnx cj) (br_c (fun _ => hp) (fun _ => br_t rfl hp)))⟩), fun post hp => br_f h4 (bq_digitY j hi cl (br_f (fun t => z ((bq_9 _).mp t)) (nm_e ⟨by decide +kernel, br_c (fun l => ⟨hi, nm_r (e' := upd a j (bq_nx (a j))) ?_ ?_⟩) (fun l => ⟨hi, nm_r (e' := upd a j (bq_nx (a j))) ?_ ?_⟩)⟩)))⟩
      · rw [cl, bq_st1 cj l]
      · rw [nI_1]; exact hp
      · rw [cl, bq_st2 cj z l]
      · rw [nI_1]; exact hp
theorem bq_val_s {post : Int32 → Prop} {a : Nat → Int32} {n : Nat} {x i' : Int32} (j : Nat) (hj : j < 4) (hi' : nI j + (-1) = i') (h : wX_value_13 post a n (x * 10 + bq_dg (a j)) i') : wX_value_13 post a (n + 1) x (nI j) := by
  refine br_f (nI_pos (by omega)) ⟨vp_in_nI hj (by omega), bq_digitX ?_⟩
  rw [nI_clamp (n := j) (by omega)]
  exact nm_e (nm_r hi' h)
theorem bq_valX {post : Int32 → Prop} {a : Nat → Int32} (h : post (bq_num a)) : wX_value_13 post a 5 0 3 :=
  bq_val_s 3 (by omega) (by decide +kernel : nI 3 + (-1) = nI 2) (bq_val_s 2 (by omega) (by decide +kernel : nI 2 + (-1) = nI 1) (bq_val_s 1 (by omega) (by decide +kernel : nI 1 + (-1) = nI 0) (bq_val_s 0 (by omega) (by decide +kernel : nI 0 + (-1) = -1) (br_t (by decide +kernel) h))))
theorem bq_init_s {post : SX → Prop} {n : Nat} {a : Nat → Int32} (j : Nat) (hj : j < 4) (h : wX_init_13 post n (nI (j + 1)) (upd a j 33)) : wX_init_13 post (n + 1) (nI j) a := by
  refine br_f (nI_ge (b := 4) hj (by omega)) ⟨vp_in_nI hj (by omega), nm_r (e' := upd a j 33) ?_ (nm_r (nI_1 j) h)⟩
  rw [nI_clamp (n := j) (by omega), bq_nar bq_b33]
/-- the four cells at the start -/
def bq_a0 : Nat → Int32 := upd (upd (upd (upd (fun _ => 0) 0 33) 1 33) 2 33) 3 33
theorem bq_initX {post : SX → Prop} (h : post bq_a0) : wpX_init post :=
  ⟨5, bq_init_s 0 (by omega) (bq_init_s 1 (by omega) (bq_init_s 2 (by omega) (bq_init_s 3 (by omega) (br_t bq_le4 h))))⟩
theorem bq_initY {post : SY → Prop} (h : post bq_a0) : wpY_init post := by
  unfold wpY_init
  intro a1 e1 a2 e2 a3 e3 a4 e4
  rw [bq_nar bq_b33] at e1 e2 e3 e4
  subst e1
  subst e2
  subst e3
  subst e4
  exact h
theorem bq_a0b (i : Nat) : bq_b (bq_a0 i) := bq_bu (bq_bu (bq_bu (bq_bu (fun _ => bq_b0) bq_b33) bq_b33) bq_b33) bq_b33 i
end
section
/-- the two counters hold the same cells, seven bits each -/
def i_Rel (_ : Nat) (u : SX) (v : SY) : Prop := u = v ∧ ∀ i, bq_b (u i)
theorem i_up {k : Nat} {u : SX} {v : SY} (h : i_Rel k u v) : i_Rel (k + 3) u v := h
theorem i_vc0 : wpX_init (fun u => wpY_init (fun v => i_Rel 0 u v)) := bq_initX (bq_initY ⟨rfl, bq_a0b⟩)
theorem i_vc_bump {k : Nat} {u : SX} {v : SY} (I : i_Rel k u v) (hk : k + 3 ≤ 1536) : wpX_bump (fun r u' => wpY_bump (fun r' v' => r' = r ∧ i_Rel (k + 3) u' v') v) u := by
  obtain ⟨e, hb⟩ := I
  cases e
  unfold wpX_bump wpY_bump
  refine bq_lowX ?_
  by_cases l : bq_lo u < 0
  · obtain ⟨c0, c1, c2, c3⟩ := bq_lo_neg (Int32.not_le.mpr l)
    obtain ⟨r, a', hb', hX, hY⟩ := bq_bump 4 0 u rfl hb (fun i _ hi => by
      rcases (by omega : i = 0 ∨ i = 1 ∨ i = 2 ∨ i = 3) with rfl | rfl | rfl | rfl
      · exact c0
      · exact c1
      · exact c2
      · exact c3)
    refine br_t l ⟨5, hX _ ?_⟩
    refine bq_faultyY ?_
    exact br_t l ⟨5, hY _ ⟨rfl, rfl, hb'⟩⟩
  · refine br_f l ?_
    refine bq_faultyY ?_
    exact br_f l ⟨rfl, rfl, hb⟩
theorem i_vc_strike {k : Nat} {u : SX} {v : SY} (I : i_Rel k u v) (hk : k + 3 ≤ 1536) (v1 : Int32) (v2 : Int32) : wpX_strike (fun r u' => wpY_strike (fun r' v' => r' = r ∧ i_Rel (k + 3) u' v') v v1 v2) u v1 v2 := by
  obtain ⟨e, hb⟩ := I
  cases e
  by_cases h0 : v1 < 0
  · exact br_t h0 (br_t h0 ⟨rfl, rfl, hb⟩)
  obtain ⟨j, hj, rfl⟩ := nI_of h0
  by_cases h4 : j < 4
  · have l4 : nI j < 4 := nI_lt (b := 4) h4 (by omega)
    have l3 : nI j ≤ 3 := nI_le (b := 3) (by omega) (by omega)
    refine br_f h0 (br_t l4 ?_)
    by_cases g0 : v2 < 0
    · exact br_t g0 (br_f h0 (br_t l3 (br_t g0 ⟨rfl, rfl, hb⟩)))
    obtain ⟨b, hbb, rfl⟩ := nI_of g0
    by_cases g7 : b < 7
    · have l7 : nI b < 7 := nI_lt (b := 7) g7 (by omega)
      have l6 : nI b ≤ 6 := nI_le (b := 6) (by omega) (by omega)
      obtain ⟨n, hn, en⟩ := hb j
      obtain ⟨x1, x2, x3, x4⟩ := bq_xor n hn b g7
      have hi : vp_in (nI j) 4 := vp_in_nI h4 (by omega)
      have cl : (nI j).toNatClampNeg = j := nI_clamp hj
      have hm : bq_b (nI (n ^^^ 2 ^ b)) := ⟨_, x2, rfl⟩
      have y : ((u (nI j).toNatClampNeg) ^^^ (((1 : Int32) <<< (nI b &&& 31)).toInt8.toInt32)).toInt8.toInt32 = nI (n ^^^ 2 ^ b) := by
        rw [cl, en, x3, bq_i8 _ x4, ← x3, x1, bq_i8 _ x2]
      refine br_f g0 (br_t l7 ⟨hi, nm_r (e' := nI (n ^^^ 2 ^ b)) ?_ ⟨hi, nm_r (e' := upd u j (nI (n ^^^ 2 ^ b))) ?_ ?_⟩⟩)
      · rw [cl, en, x1]
      · rw [cl, bq_i8 _ x2, bq_nar hm]
      · refine br_f h0 (br_t l3 (br_f g0 (br_t l6 ⟨hi, hi, nm_r (e' := upd u j (nI (n ^^^ 2 ^ b))) ?_ ⟨y, rfl, bq_bu hb hm⟩⟩)))
        rw [y, cl, bq_nar hm]
    · have l7 : ¬ nI b < 7 := nI_nlt (b := 7) (by omega) hbb
      have l6 : ¬ nI b ≤ 6 := nI_ge (a := 6) (by omega) hbb
      exact br_f g0 (br_f l7 (br_f h0 (br_t l3 (br_f g0 (br_f l6 ⟨rfl, rfl, hb⟩)))))
  · have l4 : ¬ nI j < 4 := nI_nlt (b := 4) (by omega) hj
    have l3 : ¬ nI j ≤ 3 := nI_ge (a := 3) (by omega) hj
    exact br_f h0 (br_f l4 (br_f h0 (br_f l3 ⟨rfl, rfl, hb⟩)))
theorem i_vc_value {k : Nat} {u : SX} {v : SY} (I : i_Rel k u v) (hk : k + 3 ≤ 1536) : wpX_value (fun r => wpY_value (fun r' => r' = r ∧ i_Rel (k + 3) u v) v) u := by
  obtain ⟨e, hb⟩ := I
  cases e
  unfold wpX_value wpY_value
  refine bq_lowX ?_
  by_cases l : bq_lo u < 0
  · refine br_t l ⟨5, bq_valX ?_⟩
    refine bq_faultyY ?_
    exact br_t l (bq_digitY 3 bq_in3 bq_c3 (bq_digitY 2 bq_in2 bq_c2 (bq_digitY 1 bq_in1 bq_c1 (bq_digitY 0 bq_in0 bq_c0 ⟨bq_num' u, rfl, hb⟩))))
  · refine br_f l ?_
    refine bq_faultyY ?_
    exact br_f l ⟨rfl, rfl, hb⟩
theorem i_vc_faulty {k : Nat} {u : SX} {v : SY} (I : i_Rel k u v) (hk : k + 3 ≤ 1536) : wpX_faulty (fun r => wpY_faulty (fun r' => r' = r ∧ i_Rel (k + 3) u v) v) u := by
  obtain ⟨e, hb⟩ := I
  cases e
  unfold wpX_faulty
  refine bq_lowX ?_
  refine bq_faultyY ?_
  exact ⟨rfl, rfl, hb⟩
end
