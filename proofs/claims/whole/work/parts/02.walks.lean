/-! each method's walk against the pure picture, with a general post -/
theorem bq_digitX {post : Int32 → Prop} {x : Int32} (h : post (bq_dg x)) : wpX_digitOf post x := by
  unfold bq_dg at h
  unfold wpX_digitOf
  refine br_c (fun e => by rw [if_pos e] at h; exact h) fun h0 => ?_
  rw [if_neg h0] at h
  refine br_c (fun e => by rw [if_pos e] at h; exact h) fun h1 => ?_
  rw [if_neg h1] at h
  refine br_c (fun e => by rw [if_pos e] at h; exact h) fun h2 => ?_
  rw [if_neg h2] at h
  refine br_c (fun e => by rw [if_pos e] at h; exact h) fun h3 => ?_
  rw [if_neg h3] at h
  refine br_c (fun e => by rw [if_pos e] at h; exact h) fun h4 => ?_
  rw [if_neg h4] at h
  refine br_c (fun e => by rw [if_pos e] at h; exact h) fun h5 => ?_
  rw [if_neg h5] at h
  refine br_c (fun e => by rw [if_pos e] at h; exact h) fun h6 => ?_
  rw [if_neg h6] at h
  refine br_c (fun e => by rw [if_pos e] at h; exact h) fun h7 => ?_
  rw [if_neg h7] at h
  refine br_c (fun e => by rw [if_pos e] at h; exact h) fun h8 => ?_
  rw [if_neg h8] at h
  exact br_c (fun e => by rw [if_pos e] at h; exact h) fun h9 => by rw [if_neg h9] at h; exact h
theorem bq_codeX {post : Int32 → Prop} {x : Int32} (h : post (bq_nx x)) : wpX_codeAfter post x := by
  unfold bq_nx at h
  unfold wpX_codeAfter
  refine br_c (fun e => by rw [if_pos e] at h; exact h) fun h0 => ?_
  rw [if_neg h0] at h
  refine br_c (fun e => by rw [if_pos e] at h; exact h) fun h1 => ?_
  rw [if_neg h1] at h
  refine br_c (fun e => by rw [if_pos e] at h; exact h) fun h2 => ?_
  rw [if_neg h2] at h
  refine br_c (fun e => by rw [if_pos e] at h; exact h) fun h3 => ?_
  rw [if_neg h3] at h
  refine br_c (fun e => by rw [if_pos e] at h; exact h) fun h4 => ?_
  rw [if_neg h4] at h
  refine br_c (fun e => by rw [if_pos e] at h; exact h) fun h5 => ?_
  rw [if_neg h5] at h
  refine br_c (fun e => by rw [if_pos e] at h; exact h) fun h6 => ?_
  rw [if_neg h6] at h
  refine br_c (fun e => by rw [if_pos e] at h; exact h) fun h7 => ?_
  rw [if_neg h7] at h
  exact br_c (fun e => by rw [if_pos e] at h; exact h) fun h8 => by rw [if_neg h8] at h; exact h
theorem bq_digitY {post : Int32 → Prop} {a : Nat → Int32} {i : Int32} (j : Nat) (hi : vp_in i 4) (hj : i.toNatClampNeg = j) (h : post (bq_dg (a j))) : wpY_digit post a i := by
  refine ⟨hi, fun x e => ?_⟩
  rw [hj] at e
  rw [e]
  exact (bq_digitX (post := post) (x := a j) h : wpX_digitOf post (a j))
theorem bq_in0 : vp_in 0 4 := vp_in_nI (n := 0) (by omega) (by omega)
theorem bq_in1 : vp_in 1 4 := vp_in_nI (n := 1) (by omega) (by omega)
theorem bq_in2 : vp_in 2 4 := vp_in_nI (n := 2) (by omega) (by omega)
theorem bq_in3 : vp_in 3 4 := vp_in_nI (n := 3) (by omega) (by omega)
theorem bq_c0 : (0 : Int32).toNatClampNeg = 0 := by decide +kernel
theorem bq_c1 : (1 : Int32).toNatClampNeg = 1 := by decide +kernel
theorem bq_c2 : (2 : Int32).toNatClampNeg = 2 := by decide +kernel
theorem bq_c3 : (3 : Int32).toNatClampNeg = 3 := by decide +kernel
theorem bq_low_s {post : Int32 → Prop} {a : Nat → Int32} {n : Nat} (j : Nat) (hj : j < 4) (h1 : bq_dg (a j) = -1 → post (nI j)) (h2 : ¬ bq_dg (a j) = -1 → wX_lowestInvalidCell_2 post a n (nI (j + 1))) : wX_lowestInvalidCell_2 post a (n + 1) (nI j) := by
  have h4 : ¬ (4 : Int32) ≤ nI j := nI_ge (b := 4) hj (by omega)
  refine br_f h4 ⟨vp_in_nI hj (by omega), bq_digitX ?_⟩
  rw [nI_clamp (n := j) (by omega)]
  exact br_c h1 fun z => nm_r (nI_1 j) (h2 z)
theorem bq_le4 : (4 : Int32) ≤ nI 4 := by decide +kernel
theorem bq_lowX {post : Int32 → Prop} {a : Nat → Int32} (h : post (bq_lo a)) : wpX_lowestInvalidCell post a := by
  unfold bq_lo at h
  refine ⟨5, bq_low_s 0 (by omega) (fun e => by rw [if_pos e] at h; exact h) fun e0 => ?_⟩
  rw [if_neg e0] at h
  refine bq_low_s 1 (by omega) (fun e => by rw [if_pos e] at h; exact h) fun e1 => ?_
  rw [if_neg e1] at h
  refine bq_low_s 2 (by omega) (fun e => by rw [if_pos e] at h; exact h) fun e2 => ?_
  rw [if_neg e2] at h
  refine bq_low_s 3 (by omega) (fun e => by rw [if_pos e] at h; exact h) fun e3 => ?_
  rw [if_neg e3] at h
  exact br_t bq_le4 h
theorem bq_sg {x : Int32} {A B : Prop} (f : ¬ bq_dg x = -1 → A) (g : bq_dg x = -1 → B) : (0 ≤ bq_dg x → A) ∧ (¬ 0 ≤ bq_dg x → B) := by
  by_cases e : bq_dg x = -1
  · exact br_f (Int32.not_le.mpr ((bq_lt0 x).mpr e)) (g e)
  · exact br_t (Int32.not_lt.mp fun z => e ((bq_lt0 x).mp z)) (f e)
theorem bq_faultyY {post : Int32 → Prop} {a : Nat → Int32} (h : post (bq_lo a)) : wpY_faulty post a := by
  unfold bq_lo at h
  unfold wpY_faulty
  refine bq_digitY 0 bq_in0 bq_c0 (bq_sg (fun e0 => ?_) (fun e => by rw [if_pos e] at h; exact h))
  rw [if_neg e0] at h
  refine bq_digitY 1 bq_in1 bq_c1 (bq_sg (fun e1 => ?_) (fun e => by rw [if_pos e] at h; exact h))
  rw [if_neg e1] at h
  refine bq_digitY 2 bq_in2 bq_c2 (bq_sg (fun e2 => ?_) (fun e => by rw [if_pos e] at h; exact h))
  rw [if_neg e2] at h
  refine bq_digitY 3 bq_in3 bq_c3 (bq_sg (fun e3 => ?_) (fun e => by rw [if_pos e] at h; exact h))
  rw [if_neg e3] at h
  exact h
theorem bq_i8' {x : Int32} (h : bq_b x) : x.toInt8.toInt32 = x := by
  obtain ⟨n, hn, rfl⟩ := h
  exact bq_i8 n hn
theorem bq_bu {a : Nat → Int32} {j : Nat} {w : Int32} (ha : ∀ i, bq_b (a i)) (hw : bq_b w) (i : Nat) : bq_b (upd a j w i) := by
  by_cases e : i = j
  · rw [show upd a j w i = w from if_pos e]; exact hw
  · rw [show upd a j w i = a i from if_neg e]; exact ha i
theorem bq_b40 {post : Int32 → SX → Prop} {J : Int32 → Int32 → Int32 → (Nat → Int32) → Prop} {z w : Int32} {a : Nat → Int32} {j : Nat} (hj : j < 4) (hw : bq_nx (a j) = w) (hb : bq_b w) (h : J (nI (j + 1)) z (nI (j + 1)) (upd a j w)) : wX_bump_40 post J (nI j) (nI j) z a := by
  have hi : vp_in (nI j) 4 := vp_in_nI hj (by omega)
  refine ⟨hi, bq_codeX ⟨hi, nm_r (e' := upd a j w) ?_ (nm_r (nI_1 j) (nm_r (nI_1 j) h))⟩⟩
  rw [nI_clamp (n := j) (by omega), hw, bq_i8' hb, bq_nar hb]
theorem bq_st1 {x : Int32} (h : bq_code x) (l : bq_dg x + 1 < 5) : vp_nar .byte ((((1 : Int32) <<< (((bq_dg x + 1) - (bq_dg x + 1) / 5 * 5) &&& 31)) ||| 32).toInt8.toInt32) = bq_nx x := by
  rw [vp_nar_byte]
  rcases h with rfl|rfl|rfl|rfl|rfl|rfl|rfl|rfl|rfl|rfl
  all_goals first | decide +kernel | exact absurd l (by decide +kernel)
theorem bq_st2 {x : Int32} (h : bq_code x) (z : ¬ x = 80) (l : ¬ bq_dg x + 1 < 5) : vp_nar .byte ((((1 : Int32) <<< (((bq_dg x + 1) - (bq_dg x + 1) / 5 * 5) &&& 31)) ||| 64).toInt8.toInt32) = bq_nx x := by
  rw [vp_nar_byte]
  rcases h with rfl|rfl|rfl|rfl|rfl|rfl|rfl|rfl|rfl|rfl
  all_goals first | decide +kernel | exact absurd (by decide +kernel) l | exact absurd rfl z
/-- bump's two loops in lockstep: from cell j on, the cells behind it being codes, both end with one answer and one array -/
theorem bq_bump (d : Nat) : ∀ (j : Nat) (a : Nat → Int32), j + d = 4 → (∀ i, bq_b (a i)) → (∀ i, j ≤ i → i < 4 → bq_code (a i)) → ∃ (r : Int32) (a' : Nat → Int32), (∀ i, bq_b (a' i)) ∧ (∀ post : Int32 → SX → Prop, post r a' → wX_bump_15 post (d + 1) (nI j) 1 (nI j) a) ∧ (∀ post : Int32 → SY → Prop, post r a' → wY_bump_11 post (d + 1) (nI j) a) := by
  induction d with
  | zero =>
    intro j a hj hb hc
    obtain rfl : j = 4 := by omega
    exact ⟨nI 4, a, hb, fun _ hp => br_t bq_le4 hp, fun _ hp => br_t bq_le4 hp⟩
  | succ d ih =>
    intro j a hj hb hc
    have h4 : ¬ (4 : Int32) ≤ nI j := nI_ge (b := 4) (by omega) (by omega)
    have hi : vp_in (nI j) 4 := vp_in_nI (by omega) (by omega)
    have cl : (nI j).toNatClampNeg = j := nI_clamp (by omega)
    have cj : bq_code (a j) := hc j (Nat.le_refl j) (by omega)
    by_cases z : a j = 80
    · obtain ⟨r, a', hb', hX, hY⟩ := ih (j + 1) (upd a j 33) (by omega) (bq_bu hb bq_b33) (fun i h1 h2 => by
        rw [show upd a j 33 i = a i from if_neg (by omega)]
        exact hc i (by omega) h2)
      have e : bq_nx (a j) = 33 := by rw [z]; decide +kernel
      refine ⟨r, a', hb', fun post hp => br_f h4 (br_f (by decide +kernel) ⟨hi, br_t (by rw [cl]; exact z) (bq_b40 (by omega) e bq_b33 (hX post hp))⟩), fun post hp => br_f h4 (bq_digitY j hi cl (br_t ((bq_9 _).mpr z) ⟨hi, nm_r (e' := upd a j 33) ?_ (nm_r (nI_1 j) (hY post hp))⟩))⟩
      rw [cl, bq_nar bq_b33]
    · refine ⟨nI (j + 1), upd a j (bq_nx (a j)), bq_bu hb (bq_bnx cj), fun post hp => br_f h4 (br_f (by decide +kernel) ⟨hi, br_f (by rw [cl]; exact z) (bq_b40 (by omega) rfl (bq_bnx cj) (br_c (fun _ => hp) (fun _ => br_t rfl hp)))⟩), fun post hp => br_f h4 (bq_digitY j hi cl (br_f (fun t => z ((bq_9 _).mp t)) (nm_e ⟨by decide +kernel, br_c (fun l => ⟨hi, nm_r (e' := upd a j (bq_nx (a j))) ?_ ?_⟩) (fun l => ⟨hi, nm_r (e' := upd a j (bq_nx (a j))) ?_ ?_⟩)⟩)))⟩
      · rw [cl, bq_st1 cj l]
      · rw [nI_1]; exact hp
      · rw [cl, bq_st2 cj z l]
      · rw [nI_1]; exact hp
theorem bq_val_s {post : Int32 → Prop} {a : Nat → Int32} {n : Nat} {x i' : Int32} (j : Nat) (hj : j < 4) (hi' : nI j + (-1) = i') (h : wX_value_13 post a n (x * 10 + bq_dg (a j)) i') : wX_value_13 post a (n + 1) x (nI j) := by
  refine br_f (nI_pos (by omega)) ⟨vp_in_nI hj (by omega), bq_digitX ?_⟩
  rw [nI_clamp (n := j) (by omega)]
  exact nm_e (nm_r hi' h)
theorem bq_valX {post : Int32 → Prop} {a : Nat → Int32} (h : post (bq_num a)) : wX_value_13 post a 5 0 3 :=
  bq_val_s 3 (by omega) (by decide +kernel : nI 3 + (-1) = nI 2) (bq_val_s 2 (by omega) (by decide +kernel : nI 2 + (-1) = nI 1) (bq_val_s 1 (by omega) (by decide +kernel : nI 1 + (-1) = nI 0) (bq_val_s 0 (by omega) (by decide +kernel : nI 0 + (-1) = -1) (br_t (by decide +kernel) h))))
theorem bq_init_s {post : SX → Prop} {n : Nat} {a : Nat → Int32} (j : Nat) (hj : j < 4) (h : wX_init_13 post n (nI (j + 1)) (upd a j 33)) : wX_init_13 post (n + 1) (nI j) a := by
  refine br_f (nI_ge (b := 4) hj (by omega)) ⟨vp_in_nI hj (by omega), nm_r (e' := upd a j 33) ?_ (nm_r (nI_1 j) h)⟩
  rw [nI_clamp (n := j) (by omega), bq_nar bq_b33]
/-- the four cells at the start -/
def bq_a0 : Nat → Int32 := upd (upd (upd (upd (fun _ => 0) 0 33) 1 33) 2 33) 3 33
theorem bq_initX {post : SX → Prop} (h : post bq_a0) : wpX_init post :=
  ⟨5, bq_init_s 0 (by omega) (bq_init_s 1 (by omega) (bq_init_s 2 (by omega) (bq_init_s 3 (by omega) (br_t bq_le4 h))))⟩
theorem bq_initY {post : SY → Prop} (h : post bq_a0) : wpY_init post := by
  unfold wpY_init
  intro a1 e1 a2 e2 a3 e3 a4 e4
  rw [bq_nar bq_b33] at e1 e2 e3 e4
  subst e1
  subst e2
  subst e3
  subst e4
  exact h
theorem bq_a0b (i : Nat) : bq_b (bq_a0 i) := bq_bu (bq_bu (bq_bu (bq_bu (fun _ => bq_b0) bq_b33) bq_b33) bq_b33) bq_b33 i
