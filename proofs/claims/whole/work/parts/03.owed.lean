/-- the two counters hold the same cells, seven bits each -/
def i_Rel (_ : Nat) (u : SX) (v : SY) : Prop := u = v ∧ ∀ i, bq_b (u i)
theorem i_up {k : Nat} {u : SX} {v : SY} (h : i_Rel k u v) : i_Rel (k + 3) u v := h
theorem i_vc0 : wpX_init (fun u => wpY_init (fun v => i_Rel 0 u v)) := bq_initX (bq_initY ⟨rfl, bq_a0b⟩)
theorem i_vc_bump {k : Nat} {u : SX} {v : SY} (I : i_Rel k u v) (hk : k + 3 ≤ 1536) : wpX_bump (fun r u' => wpY_bump (fun r' v' => r' = r ∧ i_Rel (k + 3) u' v') v) u := by
  obtain ⟨e, hb⟩ := I
  cases e
  unfold wpX_bump wpY_bump
  refine bq_lowX ?_
  by_cases l : bq_lo u < 0
  · obtain ⟨c0, c1, c2, c3⟩ := bq_lo_neg (Int32.not_le.mpr l)
    obtain ⟨r, a', hb', hX, hY⟩ := bq_bump 4 0 u rfl hb (fun i _ hi => by
      rcases (by omega : i = 0 ∨ i = 1 ∨ i = 2 ∨ i = 3) with rfl | rfl | rfl | rfl
      · exact c0
      · exact c1
      · exact c2
      · exact c3)
    refine br_t l ⟨5, hX _ ?_⟩
    refine bq_faultyY ?_
    exact br_t l ⟨5, hY _ ⟨rfl, rfl, hb'⟩⟩
  · refine br_f l ?_
    refine bq_faultyY ?_
    exact br_f l ⟨rfl, rfl, hb⟩
theorem i_vc_strike {k : Nat} {u : SX} {v : SY} (I : i_Rel k u v) (hk : k + 3 ≤ 1536) (v1 : Int32) (v2 : Int32) : wpX_strike (fun r u' => wpY_strike (fun r' v' => r' = r ∧ i_Rel (k + 3) u' v') v v1 v2) u v1 v2 := by
  obtain ⟨e, hb⟩ := I
  cases e
  by_cases h0 : v1 < 0
  · exact br_t h0 (br_t h0 ⟨rfl, rfl, hb⟩)
  obtain ⟨j, hj, rfl⟩ := nI_of h0
  by_cases h4 : j < 4
  · have l4 : nI j < 4 := nI_lt (b := 4) h4 (by omega)
    have l3 : nI j ≤ 3 := nI_le (b := 3) (by omega) (by omega)
    refine br_f h0 (br_t l4 ?_)
    by_cases g0 : v2 < 0
    · exact br_t g0 (br_f h0 (br_t l3 (br_t g0 ⟨rfl, rfl, hb⟩)))
    obtain ⟨b, hbb, rfl⟩ := nI_of g0
    by_cases g7 : b < 7
    · have l7 : nI b < 7 := nI_lt (b := 7) g7 (by omega)
      have l6 : nI b ≤ 6 := nI_le (b := 6) (by omega) (by omega)
      obtain ⟨n, hn, en⟩ := hb j
      obtain ⟨x1, x2, x3, x4⟩ := bq_xor n hn b g7
      have hi : vp_in (nI j) 4 := vp_in_nI h4 (by omega)
      have cl : (nI j).toNatClampNeg = j := nI_clamp hj
      have hm : bq_b (nI (n ^^^ 2 ^ b)) := ⟨_, x2, rfl⟩
      have y : ((u (nI j).toNatClampNeg) ^^^ (((1 : Int32) <<< (nI b &&& 31)).toInt8.toInt32)).toInt8.toInt32 = nI (n ^^^ 2 ^ b) := by
        rw [cl, en, x3, bq_i8 _ x4, ← x3, x1, bq_i8 _ x2]
      refine br_f g0 (br_t l7 ⟨hi, nm_r (e' := nI (n ^^^ 2 ^ b)) ?_ ⟨hi, nm_r (e' := upd u j (nI (n ^^^ 2 ^ b))) ?_ ?_⟩⟩)
      · rw [cl, en, x1]
      · rw [cl, bq_i8 _ x2, bq_nar hm]
      · refine br_f h0 (br_t l3 (br_f g0 (br_t l6 ⟨hi, hi, nm_r (e' := upd u j (nI (n ^^^ 2 ^ b))) ?_ ⟨y, rfl, bq_bu hb hm⟩⟩)))
        rw [y, cl, bq_nar hm]
    · have l7 : ¬ nI b < 7 := nI_nlt (b := 7) (by omega) hbb
      have l6 : ¬ nI b ≤ 6 := nI_ge (a := 6) (by omega) hbb
      exact br_f g0 (br_f l7 (br_f h0 (br_t l3 (br_f g0 (br_f l6 ⟨rfl, rfl, hb⟩)))))
  · have l4 : ¬ nI j < 4 := nI_nlt (b := 4) (by omega) hj
    have l3 : ¬ nI j ≤ 3 := nI_ge (a := 3) (by omega) hj
    exact br_f h0 (br_f l4 (br_f h0 (br_f l3 ⟨rfl, rfl, hb⟩)))
theorem i_vc_value {k : Nat} {u : SX} {v : SY} (I : i_Rel k u v) (hk : k + 3 ≤ 1536) : wpX_value (fun r => wpY_value (fun r' => r' = r ∧ i_Rel (k + 3) u v) v) u := by
  obtain ⟨e, hb⟩ := I
  cases e
  unfold wpX_value wpY_value
  refine bq_lowX ?_
  by_cases l : bq_lo u < 0
  · refine br_t l ⟨5, bq_valX ?_⟩
    refine bq_faultyY ?_
    exact br_t l (bq_digitY 3 bq_in3 bq_c3 (bq_digitY 2 bq_in2 bq_c2 (bq_digitY 1 bq_in1 bq_c1 (bq_digitY 0 bq_in0 bq_c0 ⟨bq_num' u, rfl, hb⟩))))
  · refine br_f l ?_
    refine bq_faultyY ?_
    exact br_f l ⟨rfl, rfl, hb⟩
theorem i_vc_faulty {k : Nat} {u : SX} {v : SY} (I : i_Rel k u v) (hk : k + 3 ≤ 1536) : wpX_faulty (fun r => wpY_faulty (fun r' => r' = r ∧ i_Rel (k + 3) u v) v) u := by
  obtain ⟨e, hb⟩ := I
  cases e
  unfold wpX_faulty
  refine bq_lowX ?_
  refine bq_faultyY ?_
  exact ⟨rfl, rfl, hb⟩
