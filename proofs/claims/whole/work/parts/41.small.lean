/-! ===== wipe, undo, rider, leaver, stop, set, seen, forget, count ===== -/
theorem c_wipe {z : Nat → St} {y : Nat → Lt} {s : St} (H : Rel z y s) (x : Int32) : Ans (fX8_wipe z y x) (fX9_wipe s x) y := by
  unfold fX8_wipe fX9_wipe
  rcases rng x 2 (by decide) with h | ⟨κ, hκ, rfl⟩
  · rw [noText_out h, isText_out h, bd1_s, bd1_s, if_neg n10, if_pos z00]
    exact ⟨_, _, _, rfl, rfl, H⟩
  · rw [noText_in hκ, isText_in hκ, bd1_s, bd1_s, if_pos z00, if_neg n10, sel3 hκ]
    obtain ⟨a1, a2, n, a3, a4, a5, a6⟩ := TxP_of H.1 (show κ < 3 by omega)
    rw [rd_nI rfl (show κ < 3 by omega) (by decide), wr_nI rfl (show κ < 3 by omega) (by decide), a5]
    refine ⟨nI n, va_up (va_up z (κ + 1) (sS (z (κ + 1)) 0 3 0)) 0 (sS (z 0) 0 10 1), _, ?_, rfl, Rel_text H hκ _ _ ⟨a1, a2, 0, by omega, rfl, ?_, fun k hk => absurd hk (by omega)⟩ (fun κ' hκ' hne => TxP_same (TxP_of H.1 hκ') ?_ (fun k hk => rfl)) (fun c c1 c2 => by rw [sS_o c1])⟩
    · obtain rfl | rfl | rfl : κ = 0 ∨ κ = 1 ∨ κ = 2 := by omega
      · rw [if_pos rfl, stp_n, stp_n, stp_n, a4]; rfl
      · rw [if_neg (by decide), if_pos rfl, stp_n, stp_n, stp_n, a4]; rfl
      · rw [if_neg (by decide), if_neg (by decide), stp_n, stp_n, stp_n, a4]; rfl
    · rw [sS_s, upd_s]; rfl
    · rw [sS_s, upd_o hne]
theorem c_undo {z : Nat → St} {y : Nat → Lt} {s : St} (H : Rel z y s) (x : Int32) : Ans (fX8_undo z y x) (fX9_undo s x) y := by
  unfold fX8_undo fX9_undo
  rcases rng x 2 (by decide) with h | ⟨κ, hκ, rfl⟩
  · rw [noText_out h, isText_out h, bd1_s, bd1_s, if_neg n10, if_pos z00]
    exact ⟨_, _, _, rfl, rfl, H⟩
  · rw [noText_in hκ, isText_in hκ, bd1_s, bd1_s, if_pos z00, if_neg n10, sel3 hκ]
    obtain ⟨a1, a2, n, a3, a4, a5, a6⟩ := TxP_of H.1 (show κ < 3 by omega)
    have h31 := mxT_31 κ
    rw [rd_nI rfl (show κ < 3 by omega) (by decide), a5]
    by_cases c : n = 0
    · rw [if_pos (show nI n = 0 by rw [c]; rfl)]
      refine ⟨-3, z, s, ?_, rfl, H⟩
      rw [c] at a4
      obtain rfl | rfl | rfl : κ = 0 ∨ κ = 1 ∨ κ = 2 := by omega
      · rw [if_pos rfl, if_pos (show z 1 0 3 = 0 from a4)]
      · rw [if_neg (by decide), if_pos rfl, if_pos (show z 2 0 3 = 0 from a4)]
      · rw [if_neg (by decide), if_neg (by decide), if_pos (show z 3 0 3 = 0 from a4)]
    · obtain ⟨m, rfl⟩ : ∃ m, n = m + 1 := ⟨n - 1, by omega⟩
      have ne : ¬ nI (m + 1) = 0 := nI_ne0 (by omega) (by omega)
      rw [if_neg ne, rd_nI rfl (show κ < 3 by omega) (by decide), a5, nI_p, wr_nI rfl (show κ < 3 by omega) (by decide), rd_nI rfl (show κ < 3 by omega) (by decide), sS_s, upd_s]
      refine ⟨nI m, va_up (va_up z (κ + 1) (sS (z (κ + 1)) 0 3 (nI m))) 0 (sS (z 0) 0 10 1), _, ?_, rfl, Rel_text H hκ _ _ ⟨a1, a2, m, by omega, rfl, by rw [sS_s, upd_s], fun k hk => a6 k (by omega)⟩ (fun κ' hκ' hne => TxP_same (TxP_of H.1 hκ') ?_ (fun k hk => rfl)) (fun c c1 c2 => by rw [sS_o c1])⟩
      · obtain rfl | rfl | rfl : κ = 0 ∨ κ = 1 ∨ κ = 2 := by omega
        · have a4' : z 1 0 3 = nI (m + 1) := a4
          rw [if_pos rfl, a4', if_neg ne, nI_p, stp_n, stp_n]; rfl
        · have a4' : z 2 0 3 = nI (m + 1) := a4
          rw [if_neg (by decide), if_pos rfl, a4', if_neg ne, nI_p, stp_n, stp_n]; rfl
        · have a4' : z 3 0 3 = nI (m + 1) := a4
          rw [if_neg (by decide), if_neg (by decide), a4', if_neg ne, nI_p, stp_n, stp_n]; rfl
      · rw [sS_s, upd_o hne]
theorem nK {k : Nat} : (nI k = 0 → k = 0 ∨ 2 ^ 31 ≤ k) := fun z => by
  by_cases c : k < 2 ^ 31
  · left
    have := congrArg ix z
    rw [ix_nI c] at this
    exact this
  · right; omega
theorem c_rider {z : Nat → St} {y : Nat → Lt} {s : St} (H : Rel z y s) (x1 x2 : Int32) : Ans (fX8_rider z y x1 x2) (fX9_rider s x1 x2) y := by
  unfold fX8_rider fX9_rider
  obtain ⟨z', a1, a2, a3, -⟩ := f_freshen H
  have hk := H.1.1
  have n8 := nrS_8 hk
  rw [a1, bd1_s]
  rcases rng2 x1 (nrS s) (by omega) with h | ⟨q, hq, rfl⟩
  · obtain ⟨u, b1, b2, b3⟩ := isRider_out hk h
    rw [noRider_out n8 a3.1.1.1 h, bd1_s, if_neg n10, b1, bd2_s, if_pos z00]
    exact ⟨_, _, _, rfl, rfl, Rel_d b2 a2⟩
  · obtain ⟨u, b1, b2, b3⟩ := isRider_in hk hq
    obtain ⟨g1, g2, g3⟩ := a3.1.2.1 q hq
    obtain ⟨k1, k2, k3⟩ := b3.2.2.2.1 q hq
    rw [noRider_in n8 a3.1.1.1 hq, bd1_s, if_pos z00, b1, bd2_s, if_neg n10]
    rcases rng x2 2 (by decide) with h | ⟨k, hk2, rfl⟩
    · rw [show fX9_in x2 0 2 = some 0 from in_out h, bd1_s, if_pos z00]
      have n0 : ¬ x2 = 0 := by rintro rfl; revert h; decide
      have n1 : ¬ x2 = 1 := by rintro rfl; revert h; decide
      have n2 : ¬ x2 = 2 := by rintro rfl; revert h; decide
      rw [if_neg n0, if_neg n1, if_neg n2]
      exact ⟨_, _, _, rfl, rfl, Rel_d b2 a2⟩
    · rw [in_in (b := 2) hk2 (by decide) rfl, bd1_s, if_neg n10, rd_nI rfl (show q < 8 by omega) (by decide), rd_nI rfl (show q < 8 by omega) (by decide), rd_nI rfl (show q < 8 by omega) (by decide), sel3 hk2, g1, g2, g3]
      unfold fX9_riderOf
      rw [rd_nI rfl (show q < 9 by omega) (by decide), rd_nI rfl (show q < 9 by omega) (by decide), rd_nI rfl (show q < 9 by omega) (by decide), k1, k2, k3]
      obtain rfl | rfl | rfl : k = 0 ∨ k = 1 ∨ k = 2 := by omega
      · exact ⟨_, _, _, rfl, rfl, Rel_d b2 a2⟩
      · exact ⟨_, _, _, rfl, rfl, Rel_d b2 a2⟩
      · exact ⟨_, _, _, rfl, rfl, Rel_d b2 a2⟩
theorem c_leaver {z : Nat → St} {y : Nat → Lt} {s : St} (H : Rel z y s) (x1 x2 : Int32) : Ans (fX8_leaver z y x1 x2) (fX9_leaver s x1 x2) y := by
  unfold fX8_leaver fX9_leaver
  obtain ⟨z', a1, a2, a3, -⟩ := f_freshen H
  have hk := H.1.1
  have n8 := nlS_8 hk
  rw [a1, bd1_s]
  rcases rng2 x1 (nlS s) (by omega) with h | ⟨q, hq, rfl⟩
  · obtain ⟨u, b1, b2, b3⟩ := isLeaver_out hk h
    rw [noLeaver_out n8 a3.1.1.2.1 h, bd1_s, if_neg n10, b1, bd2_s, if_pos z00]
    exact ⟨_, _, _, rfl, rfl, Rel_d b2 a2⟩
  · obtain ⟨u, b1, b2, b3⟩ := isLeaver_in hk hq
    obtain ⟨g1, g2⟩ := a3.1.2.2.1 q hq
    obtain ⟨k1, k2⟩ := b3.2.2.2.2.1 q hq
    rw [noLeaver_in n8 a3.1.1.2.1 hq, bd1_s, if_pos z00, b1, bd2_s, if_neg n10]
    rcases rng x2 1 (by decide) with h | ⟨k, hk2, rfl⟩
    · rw [show fX9_in x2 0 1 = some 0 from in_out h, bd1_s, if_pos z00]
      have n0 : ¬ x2 = 0 := by rintro rfl; revert h; decide
      have n1 : ¬ x2 = 1 := by rintro rfl; revert h; decide
      rw [if_neg n0, if_neg n1]
      exact ⟨_, _, _, rfl, rfl, Rel_d b2 a2⟩
    · rw [in_in (b := 1) hk2 (by decide) rfl, bd1_s, if_neg n10, rd_nI rfl (show q < 8 by omega) (by decide), rd_nI rfl (show q < 8 by omega) (by decide), rd_nI rfl (show q < 9 by omega) (by decide), rd_nI rfl (show q < 9 by omega) (by decide), g1, g2, k1, k2]
      obtain rfl | rfl : k = 0 ∨ k = 1 := by omega
      · exact ⟨_, _, _, rfl, rfl, Rel_d b2 a2⟩
      · exact ⟨_, _, _, rfl, rfl, Rel_d b2 a2⟩
theorem c_stop {z : Nat → St} {y : Nat → Lt} {s : St} (H : Rel z y s) (x : Int32) : Ans (fX8_stop z y x) (fX9_stop s x) y := by
  unfold fX8_stop fX9_stop
  rcases rng x 19 (by decide) with h | ⟨i, hi, rfl⟩
  · rw [show fX9_in x 0 19 = some 0 from in_out h, bd1_s, if_pos z00]
    refine ⟨-2, z, s, ?_, rfl, H⟩
    by_cases c : x < 0
    · rw [if_pos c]
    · rw [if_neg c, if_neg (show ¬ x < 20 from lt_suc (N := 19) (by decide) (h.resolve_left c))]
  · rw [in_in (b := 19) hi (by decide) rfl, bd1_s, if_neg n10, if_neg (nI_pos (by omega)), if_pos (show nI i < 20 from nI_lt (b := 20) (by omega) (by decide))]
    obtain ⟨z', a1, a2, a3, -⟩ := f_freshen H
    obtain ⟨u, F, R, e⟩ := f_reads H.1.1
    have h20 := nsS_20 H.1.1
    unfold fX9_stopOf
    rw [a1, bd1_s, e, bd1_s, a3.1.1.2.2, R.2.2.1]
    by_cases c : nsS s ≤ i
    · have c' : nI (nsS s) ≤ nI i := nI_le c (by omega)
      rw [if_pos c', if_pos c', bd2_s]
      exact ⟨_, _, _, rfl, rfl, Rel_d F.dur a2⟩
    · have c' : ¬ nI (nsS s) ≤ nI i := nI_ge (by omega) (by omega)
      rw [if_neg c', if_neg c', rd_nI rfl (show i < 20 by omega) (by decide), rd_nI rfl (show i < 20 by omega) (by decide), bd2_s, a3.1.2.2.2.1 i (by omega), R.2.2.2.2.2 i (by omega)]
      exact ⟨_, _, _, rfl, rfl, Rel_d F.dur a2⟩
/-- a setting of both becomes another -/
theorem Rel_set {z : Nat → St} {y : Nat → Lt} {s : St} (H : Rel z y s) (h' s' : St) (hS : Sts h' s') (e : ∀ c, c ≠ 0 → s' c = s c) (e34 : s' 0 34 = s 0 34) (e43 : s' 0 43 = s 0 43) : Rel (va_up (va_up z 8 h') 0 (sS (z 0) 0 10 1)) y s' := by
  obtain ⟨h1, h2, h3, h4, h5, h6, h7, h8⟩ := H
  refine ⟨TxR_of (fun κ' hκ' => ?_), hS, ?_, fun q hq => ?_, ?_, h6, h7, Or.inl rfl⟩
  · rw [up_o (by omega), up_o (by omega)]
    exact TxP_same (TxP_of h1 hκ') (by rw [e 1 (by decide)]) (fun k hk => by rw [e 2 (by decide)])
  · unfold Sgt; rw [e34, e 36 (by decide), e 37 (by decide)]; exact h3
  · rw [up_o (by omega), up_o (by omega)]
    unfold Sh1; rw [e 39 (by decide), e 40 (by decide), e 41 (by decide), e 42 (by decide)]
    exact h4 q hq
  · rw [e43]; exact h5
theorem c_set {z : Nat → St} {y : Nat → Lt} {s : St} (H : Rel z y s) (x1 x2 : Int32) : Ans (fX8_set z y x1 x2) (fX9_set s x1 x2) y := by
  unfold fX8_set fX9_set
  obtain ⟨hf, s1, s2, s3, s4⟩ := H.2.1
  rcases rng x1 1 (by decide) with h | ⟨k, hk, rfl⟩
  · have n0 : ¬ x1 = 0 := by rintro rfl; revert h; decide
    have n1 : ¬ x1 = 1 := by rintro rfl; revert h; decide
    rw [show fX9_in x1 0 1 = some 0 from in_out h, bd1_s, if_pos z00, if_neg n0, if_neg n1]
    exact ⟨_, _, _, rfl, rfl, H⟩
  · rw [in_in (b := 1) hk (by decide) rfl, bd1_s, if_neg n10]
    obtain rfl | rfl : k = 0 ∨ k = 1 := by omega
    · have z0 : nI 0 = 0 := rfl
      have z1 : ¬ nI 0 = 1 := by decide
      rw [if_pos z0, if_pos z0]
      rcases rng x2 8 (by decide) with h | ⟨v, hv, rfl⟩
      · rw [show fX9_in x2 (nI 0) 8 = some 0 from in_out h, bd1_s, if_pos z00]
        refine ⟨-2, z, s, ?_, rfl, H⟩
        by_cases c : x2 < 0
        · rw [if_pos c, if_neg z1]
        · rw [if_neg c, if_pos (show 8 < x2 from h.resolve_left c), if_neg z1]
      · rw [show fX9_in (nI v) (nI 0) 8 = some 1 from in_in hv (by decide) rfl, bd1_s, if_neg n10, if_neg (nI_pos (by omega)), if_neg (show ¬ 8 < nI v from nI_nlt (b := v) (a := 8) hv (by decide)), stp_n, stp_n, stp_n, stp_n, stp_n, if_neg z1, stp_n, sS_id, s2, s3]
        exact ⟨_, _, _, rfl, rfl, Rel_set H _ _ ⟨v, hv, rfl, rfl, s4⟩ (fun c hc => by rw [sS_o hc]) rfl rfl⟩
    · have z0 : ¬ nI 1 = 0 := by decide
      have z1 : nI 1 = 1 := rfl
      rw [if_neg z0, if_neg z0, if_pos z1]
      have e1 : fX9_in x2 (nI 1) 60 = some (if x2 < 1 ∨ 60 < x2 then 0 else 1) := f_in x2 1 60
      rw [e1, bd1_s]
      by_cases c1 : x2 < 1
      · rw [if_pos c1, if_pos (Or.inl c1), if_pos z00]
        exact ⟨_, _, _, rfl, rfl, H⟩
      · rw [if_neg c1]
        by_cases c2 : 60 < x2
        · rw [if_pos c2, if_pos (Or.inr c2), if_pos z00]
          exact ⟨_, _, _, rfl, rfl, H⟩
        · rw [if_neg c2, if_neg (show ¬ (x2 < 1 ∨ 60 < x2) from fun z => z.elim c1 c2), if_neg n10, stp_n, stp_n, stp_n, stp_n, stp_n, if_pos z1, stp_n, sS_id, s4]
          exact ⟨_, _, _, rfl, rfl, Rel_set H _ _ ⟨hf, s1, s2, s3, rfl⟩ (fun c hc => by rw [sS_o hc]) rfl rfl⟩
/-- what was seen changes, in both -/
theorem Rel_seen {z : Nat → St} {y : Nat → Lt} {s : St} (H : Rel z y s) (v' s' : St) (hS : Sgt v' s') (e : ∀ c, c ≠ 0 → c ≠ 36 → c ≠ 37 → s' c = s c) (e11 : s' 0 11 = s 0 11) (e12 : s' 0 12 = s 0 12) (e43 : s' 0 43 = s 0 43) : Rel (va_up z 13 v') y s' := by
  obtain ⟨h1, h2, h3, h4, h5, h6, h7, h8⟩ := H
  have D : Dtx s s' := ⟨e 1 (by decide) (by decide) (by decide), e 2 (by decide) (by decide) (by decide), e11, e12⟩
  refine ⟨TxR_of (fun κ' hκ' => ?_), Sts_d D h2, hS, fun q hq => ?_, by rw [e43]; exact h5, h6, h7, ?_⟩
  · rw [up_o (by omega)]
    exact TxP_same (TxP_of h1 hκ') (by rw [D.1]) (fun k hk => by rw [D.2.1])
  · rw [up_o (by omega)]
    unfold Sh1; rw [e 39 (by decide) (by decide) (by decide), e 40 (by decide) (by decide) (by decide), e 41 (by decide) (by decide) (by decide), e 42 (by decide) (by decide) (by decide)]
    exact h4 q hq
  · rcases h8 with h8 | ⟨h8, h9⟩
    · exact Or.inl h8
    · exact Or.inr ⟨h8, Fsh_x D h9⟩
/-- seen: refused both ways alike, or added -/
theorem seen_cs {z : Nat → St} {y : Nat → Lt} {s : St} (H : Rel z y s) (x1 x2 : Int32) : (fX6_allowed (z 13) x1 x2 = some 0 ∧ fX9_seen s x1 x2 = some (-2, s)) ∨ (fX6_allowed (z 13) x1 x2 = some 1 ∧ fX6_add (z 13) x1 x2 = some (0, z 13) ∧ fX9_seen s x1 x2 = some (-4, s)) ∨ ∃ v' s' n, n < 8 ∧ fX6_allowed (z 13) x1 x2 = some 1 ∧ fX6_add (z 13) x1 x2 = some (1, v') ∧ v' 0 0 = nI (n + 1) ∧ fX9_seen s x1 x2 = some (nI (n + 1), s') ∧ Rel (va_up z 13 v') y s' ∧ s' 39 = s 39 ∧ s' 41 = s 41 ∧ s' 42 = s 42 := by
  obtain ⟨n, a1, a2, a3, a4⟩ := H.2.2.1
  unfold fX6_allowed fX9_seen
  rcases rng x1 255 (by decide) with h | ⟨T, hT, rfl⟩
  · rw [noStep_out h, isSteps_out h, bd1_s, bd1_s, if_neg n10, if_pos z00]
    exact Or.inl ⟨rfl, rfl⟩
  · rw [noStep_in hT, isSteps_in hT, bd1_s, bd1_s, if_pos z00, if_neg n10]
    rcases rng x2 999 (by decide) with h | ⟨W, hW, rfl⟩
    · rw [show fX9_in x2 0 999 = some 0 from in_out h, bd1_s, if_pos z00]
      refine Or.inl ⟨?_, rfl⟩
      by_cases c : x2 < 0
      · rw [if_pos c]
      · rw [if_neg c, if_pos (show 999 < x2 from h.resolve_left c)]
    · rw [in_in (b := 999) hW (by decide) rfl, bd1_s, if_neg n10, if_neg (nI_pos (by omega)), if_neg (show ¬ 999 < nI W from nI_nlt (b := W) (a := 999) hW (by decide)), a3]
      right
      unfold fX6_add
      rw [a2]
      by_cases c : n = 8
      · rw [c, if_neg (show ¬ nI 8 < 8 by decide), if_pos (show nI 8 = 8 from rfl)]
        exact Or.inl ⟨rfl, rfl, rfl⟩
      · rw [if_pos (show nI n < 8 from nI_lt (b := 8) (by omega) (by decide)), if_neg (show ¬ nI n = 8 by rw [show (8 : Int32) = nI 8 from rfl, nI_eq (by omega) (by omega)]; exact c)]
        right
        have e1 : sS (z 13) 2 n (nI T) 0 0 = nI n := a2
        have e2 : sS (sS (z 13) 2 n (nI T)) 3 n (nI W) 0 0 = nI n := a2
        have f1 : sS s 36 n (nI T) 0 34 = nI n := a3
        have f2 : sS (sS s 36 n (nI T)) 37 n (nI W) 0 34 = nI n := a3
        rw [wr_nI rfl (show n < 8 by omega) (by decide), e1, wr_nI rfl (show n < 8 by omega) (by decide), e2, nI_1, stp_n, wr_nI rfl (show n < 8 by omega) (by decide), f1, wr_nI rfl (show n < 8 by omega) (by decide), f2, nI_1, stp_n]
        refine ⟨_, _, n, by omega, rfl, rfl, rfl, rfl, Rel_seen H _ _ ⟨n + 1, by omega, rfl, rfl, fun k hk => ?_⟩ (fun c c0 c36 c37 => by rw [sS_o c0, sS_o c37, sS_o c36]) rfl rfl rfl, rfl, rfl, rfl⟩
        rw [sS_o (show (2 : Nat) ≠ 0 by decide), sS_o (show (2 : Nat) ≠ 3 by decide), sS_o (show (3 : Nat) ≠ 0 by decide), sS_o (show (36 : Nat) ≠ 0 by decide), sS_o (show (36 : Nat) ≠ 37 by decide), sS_o (show (37 : Nat) ≠ 0 by decide), sS_s, sS_s, sS_s, sS_s]
        by_cases d : k = n
        · rw [d, upd_s, upd_s, upd_s, upd_s]
          exact ⟨rfl, rfl, T, hT, rfl⟩
        · rw [upd_o d, upd_o d, upd_o d, upd_o d]
          exact a4 k (by omega)
theorem c_seen {z : Nat → St} {y : Nat → Lt} {s : St} (H : Rel z y s) (x1 x2 : Int32) : Ans (fX8_seen z y x1 x2) (fX9_seen s x1 x2) y := by
  unfold fX8_seen
  rcases seen_cs H x1 x2 with ⟨a, b⟩ | ⟨a, b, c⟩ | ⟨v', s', n, hn, a, b, c, d, e, -⟩
  · rw [a, bd1_s, if_pos z00, b]
    exact ⟨_, _, _, rfl, rfl, H⟩
  · rw [a, bd1_s, if_neg n10, b, bd2_s, stp_n, if_pos z00, up_self, c]
    exact ⟨_, _, _, rfl, rfl, H⟩
  · rw [a, bd1_s, if_neg n10, b, bd2_s, stp_n, if_neg n10, up_s, c, d]
    exact ⟨_, _, _, rfl, rfl, e⟩
theorem c_forget {z : Nat → St} {y : Nat → Lt} {s : St} (H : Rel z y s) : Ans (fX8_forget z y) (fX9_forget s) y := by
  unfold fX8_forget fX9_forget
  obtain ⟨n, a1, a2, a3, a4⟩ := H.2.2.1
  rw [stp_n, stp_n, stp_n, stp_n, a2, a3]
  exact ⟨_, _, _, rfl, rfl, Rel_seen H _ _ ⟨0, by omega, rfl, rfl, fun k hk => absurd hk (by omega)⟩ (fun c c0 _ _ => by rw [sS_o c0]) rfl rfl rfl⟩
theorem sum_of {h r t s : St} {nr nl hf j w fl : Nat} (e : fX9_runsTold s = some t) (H : Rid h r t nr nl hf j w fl) (x : Int32) : fX9_sumOf s x = some ((if x = 0 then t 0 2 else if x = 1 then t 0 6 else if x = 2 then t 0 9 else cnb (r 8 j) nr), t) := by
  unfold fX9_sumOf
  rw [e, bd1_s]
  exact f_sumOf_8 H x nr 0 300 (by omega) (by have := Rid_nr H; omega)
theorem c_count {z : Nat → St} {y : Nat → Lt} {s : St} (H : Rel z y s) (x : Int32) : Ans (fX8_count z y x) (fX9_count s x) y := by
  unfold fX8_count fX9_count
  rcases rng x 8 (by decide) with h | ⟨k, hk, rfl⟩
  · have n0 : ¬ x = 0 := by rintro rfl; revert h; decide
    have n1 : ¬ x = 1 := by rintro rfl; revert h; decide
    have n2 : ¬ x = 2 := by rintro rfl; revert h; decide
    have n3 : ¬ x = 3 := by rintro rfl; revert h; decide
    have n4 : ¬ x = 4 := by rintro rfl; revert h; decide
    have n5 : ¬ x = 5 := by rintro rfl; revert h; decide
    have n6 : ¬ x = 6 := by rintro rfl; revert h; decide
    have n7 : ¬ x = 7 := by rintro rfl; revert h; decide
    have n8 : ¬ x = 8 := by rintro rfl; revert h; decide
    refine ⟨-2, z, s, ?_, ?_, H⟩
    · by_cases c : x < 0
      · rw [if_pos c]
      · rw [if_neg c, if_neg (show ¬ x < 9 from lt_suc (N := 8) (by decide) (h.resolve_left c))]
    · rw [if_neg n0, if_neg n1, if_neg n2, if_neg n3, if_neg n4, if_neg n5, if_neg n6, if_neg n7, if_neg n8]
  · obtain ⟨z', t, hf, j, w, fl, a1, a2, a3, a4, a5, a6, a7⟩ := ask H
    rw [if_neg (nI_pos (by omega)), if_pos (show nI k < 9 from nI_lt (b := 9) (by omega) (by decide)), a1, bd1_s, sum_of a4 a5, q_many a5]
    have tx : ∀ κ, κ < 3 → z' (κ + 1) 0 3 = s 1 κ := fun κ hκ => by
      obtain ⟨b1, b2, n, b3, b4, b5, b6⟩ := TxP_of a2.1 hκ
      rw [b4, b5]
    obtain rfl | rfl | rfl | rfl | rfl | rfl | rfl | rfl | rfl : k = 0 ∨ k = 1 ∨ k = 2 ∨ k = 3 ∨ k = 4 ∨ k = 5 ∨ k = 6 ∨ k = 7 ∨ k = 8 := by omega
    · exact ⟨z' 8 0 2, z', t, rfl, by rw [show z' 8 0 2 = t 0 2 by rw [a3.1.1.1, a7.1]]; rfl, Rel_d a6 a2⟩
    · exact ⟨z' 8 0 3, z', t, rfl, by rw [show z' 8 0 3 = t 0 6 by rw [a3.1.1.2.1, a7.2.1]]; rfl, Rel_d a6 a2⟩
    · exact ⟨z' 8 0 4, z', t, rfl, by rw [show z' 8 0 4 = t 0 9 by rw [a3.1.1.2.2, a7.2.2.1]]; rfl, Rel_d a6 a2⟩
    · exact ⟨z' 1 0 3, z', s, rfl, by rw [tx 0 (by decide)]; rfl, a2⟩
    · exact ⟨z' 2 0 3, z', s, rfl, by rw [tx 1 (by decide)]; rfl, a2⟩
    · exact ⟨z' 3 0 3, z', s, rfl, by rw [tx 2 (by decide)]; rfl, a2⟩
    · exact ⟨_, z', t, rfl, rfl, Rel_d a6 a2⟩
    · obtain ⟨n, b1, b2, b3, b4⟩ := a2.2.2.1
      exact ⟨z' 13 0 0, z', s, rfl, by rw [b2, ← b3]; rfl, a2⟩
    · exact ⟨z' 0 0 9, z', s, rfl, by rw [a2.2.2.2.2.1]; rfl, a2⟩
