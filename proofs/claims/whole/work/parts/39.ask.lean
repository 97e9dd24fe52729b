/-! ===== calls that ask of the ride as told ===== -/
def Ans {α : Type} (A : Option (α × (Nat → St))) (B : Option (α × St)) (y : Nat → Lt) : Prop := ∃ v z' s', A = some (v, z') ∧ B = some (v, s') ∧ Rel z' y s'
theorem n10 : ¬ (1 : Int32) = 0 := by decide
theorem z00 : (0 : Int32) = 0 := rfl
theorem ask {z : Nat → St} {y : Nat → Lt} {s : St} (H : Rel z y s) : ∃ z' t hf j w fl, fX8_freshen z y = some z' ∧ Rel z' y s ∧ Fsh z' y s ∧ fX9_runsTold s = some t ∧ Rid (z' 8) (z' 9) t (nrS s) (nlS s) hf j w fl ∧ Dur s t ∧ Rdd t s := by
  obtain ⟨z', a1, a2, a3, -⟩ := f_freshen H
  obtain ⟨t, hf, j, w, fl, b1, b2, b3, b4⟩ := told_run a2 a3
  exact ⟨z', t, hf, j, w, fl, a1, a2, a3, b1, b2, b3, b4⟩
theorem lt_suc {x : Int32} {N : Nat} (hN : N + 1 < 2 ^ 31) (h : nI N < x) : ¬ x < nI (N + 1) := by
  by_cases c : x < 0
  · have h1 : (0 : Int32) ≤ nI N := nI_pos' (by omega)
    exact fun _ => absurd (Int32.lt_trans h c) (Int32.not_lt.mpr h1)
  · obtain ⟨T, h1, h2⟩ := nI_of c
    rw [h2] at h ⊢
    rw [nI_lt' (by omega) h1] at h
    rw [nI_lt' h1 (by omega)]
    omega
theorem Rid_16 {h r t : St} {nr nl hf j w fl : Nat} (H : Rid h r t nr nl hf j w fl) : t 0 16 = nI w ∧ w ≤ 242 ∧ j ≤ 44 := ⟨H.1.2.2.2.1.1, H.2.2.2.2.2.1, H.2.2.2.2.1⟩
theorem f_liftOf {s t : St} {w T : Nat} (e : fX9_runsTold s = some t) (h16 : t 0 16 = nI w) (hw : w ≤ 242) (hT : T ≤ 255) (x : Int32) : fX9_liftOf s (nI T) x = some (tel t w T x, t) := by
  unfold fX9_liftOf tel stp1
  rw [e, bd1_s, h16]
  by_cases c : w ≤ T
  · rw [if_pos (by rw [nI_le' (by omega) (by omega)]; exact c), stp_n, if_pos c]
    by_cases c0 : x = 0
    · rw [if_pos c0, if_pos c0, rd_nI rfl (show w < 256 by omega) (by decide)]
    · rw [if_neg c0, if_neg c0]
      by_cases c1 : x = 1
      · rw [if_pos c1, if_pos c1, rd_nI rfl (show w < 256 by omega) (by decide)]
      · rw [if_neg c1, if_neg c1]
        by_cases c2 : x = 2
        · rw [if_pos c2, if_pos c2, rd_nI rfl (show w < 256 by omega) (by decide)]
        · rw [if_neg c2, if_neg c2, rd_nI rfl (show w < 256 by omega) (by decide)]
  · rw [if_neg (by rw [nI_le' (by omega) (by omega)]; exact c), if_neg c]
    by_cases c0 : x = 0
    · rw [if_pos c0, if_pos c0, rd_nI rfl (show T < 256 by omega) (by decide)]
    · rw [if_neg c0, if_neg c0]
      by_cases c1 : x = 1
      · rw [if_pos c1, if_pos c1, rd_nI rfl (show T < 256 by omega) (by decide)]
      · rw [if_neg c1, if_neg c1]
        by_cases c2 : x = 2
        · rw [if_pos c2, if_pos c2, rd_nI rfl (show T < 256 by omega) (by decide)]
        · rw [if_neg c2, if_neg c2, rd_nI rfl (show T < 256 by omega) (by decide)]
theorem tell_of {h r t : St} {nr nl hf j w fl T : Nat} (H : Rid h r t nr nl hf j w fl) (hT : T < 1000) (x : Int32) : fX4_tell h r (nI T) x = some (tel t w T x) := q_tell4 H.1 H.2.1 H.2.2.1 H.2.2.2.2.2.2.2.2.1 H.2.2.2.2.1 hT x
theorem c_lift {z : Nat → St} {y : Nat → Lt} {s : St} (H : Rel z y s) (x1 x2 : Int32) : Ans (fX8_lift z y x1 x2) (fX9_lift s x1 x2) y := by
  unfold fX8_lift fX9_lift
  rcases rng x1 255 (by decide) with h | ⟨T, hT, rfl⟩
  · rw [noStep_out h, isSteps_out h, bd1_s, bd1_s, if_neg n10, if_pos z00]
    exact ⟨_, _, _, rfl, rfl, H⟩
  · rw [noStep_in hT, isSteps_in hT, bd1_s, bd1_s, if_pos z00, if_neg n10]
    rcases rng x2 3 (by decide) with h | ⟨k, hk, rfl⟩
    · rw [show fX9_in x2 0 3 = some 0 from in_out h, bd1_s, if_pos z00]
      refine ⟨-2, z, s, ?_, rfl, H⟩
      by_cases c : x2 < 0
      · rw [if_pos c]
      · rw [if_neg c, if_neg (show ¬ x2 < 4 from lt_suc (N := 3) (by decide) (h.resolve_left c))]
    · rw [in_in (b := 3) hk (by decide) rfl, bd1_s, if_neg n10, if_neg (nI_pos (by omega)), if_pos (show nI k < 4 from nI_lt (b := 4) (by omega) (by decide))]
      obtain ⟨z', t, hf, j, w, fl, a1, a2, a3, a4, a5, a6, a7⟩ := ask H
      obtain ⟨g1, g2, g3⟩ := Rid_16 a5
      rw [a1, bd1_s, tell_of a5 (by omega), bd1_s, f_liftOf a4 g1 g2 hT, bd2_s]
      exact ⟨_, _, _, rfl, rfl, Rel_d a6 a2⟩
theorem c_ends {z : Nat → St} {y : Nat → Lt} {s : St} (H : Rel z y s) : Ans (fX8_ends z y) (fX9_ends s) y := by
  unfold fX8_ends fX9_ends fX9_endsNow
  obtain ⟨z', t, hf, j, w, fl, a1, a2, a3, a4, a5, a6, a7⟩ := ask H
  rw [a1, bd1_s, q_ends a5.1 a5.2.1 a5.2.2.2.2.1, bd1_s, a4, bd1_s, bd2_s]
  exact ⟨_, _, _, rfl, rfl, Rel_d a6 a2⟩
theorem told_u {z : Nat → St} {y : Nat → Lt} {s u : St} (H : Rel z y s) (F : Fsh z y s) (D : Dur s u) : ∃ t hf j w fl, fX9_runsTold u = some t ∧ Rid (z 8) (z 9) t (nrS s) (nlS s) hf j w fl ∧ Dur s t ∧ Rdd t s := by
  obtain ⟨t, hf, j, w, fl, b1, b2, b3, b4⟩ := told_run (Rel_d D H) (Fsh_x D.tx F)
  obtain ⟨e1, e2, -⟩ := S_x D.tx
  rw [e1, e2] at b2
  rw [Rdd_x D.tx] at b4
  exact ⟨t, hf, j, w, fl, b1, b2, D.tr b3, b4⟩
theorem c_rides {z : Nat → St} {y : Nat → Lt} {s : St} (H : Rel z y s) (x1 x2 : Int32) : Ans (fX8_rides z y x1 x2) (fX9_rides s x1 x2) y := by
  unfold fX8_rides fX9_rides
  obtain ⟨z', a1, a2, a3, -⟩ := f_freshen H
  have hk := H.1.1
  have n8 := nrS_8 hk
  rw [a1, bd1_s]
  rcases rng2 x1 (nrS s) (by omega) with h | ⟨q, hq, rfl⟩
  · obtain ⟨u, b1, b2, b3⟩ := isRider_out hk h
    rw [noRider_out n8 a3.1.1.1 h, bd1_s, if_neg n10, b1, bd2_s, if_pos z00]
    exact ⟨_, _, _, rfl, rfl, Rel_d b2 a2⟩
  · obtain ⟨u, b1, b2, b3⟩ := isRider_in hk hq
    rw [noRider_in n8 a3.1.1.1 hq, bd1_s, if_pos z00, b1, bd2_s, if_neg n10]
    obtain ⟨t, hf, j, w, fl, c1, c2, c3, c4⟩ := told_u a2 a3 b2
    have hj := c2.2.2.2.2.1
    have hr : fX9_ridesOf u (nI q) x2 = some ((if x2 = 0 then t 27 q else if x2 = 1 then t 28 q else t 29 q), t) := by
      unfold fX9_ridesOf
      rw [c1, bd1_s]
      by_cases d0 : x2 = 0
      · rw [if_pos d0, if_pos d0, rd_nI rfl (show q < 8 by omega) (by decide)]
      · rw [if_neg d0, if_neg d0]
        by_cases d1 : x2 = 1
        · rw [if_pos d1, if_pos d1, rd_nI rfl (show q < 8 by omega) (by decide)]
        · rw [if_neg d1, if_neg d1, rd_nI rfl (show q < 8 by omega) (by decide)]
    rcases rng x2 2 (by decide) with h | ⟨k, hk2, rfl⟩
    · rw [show fX9_in x2 0 2 = some 0 from in_out h, bd1_s, if_pos z00]
      have n0 : ¬ x2 = 0 := by rintro rfl; revert h; decide
      have n1 : ¬ x2 = 1 := by rintro rfl; revert h; decide
      have n2 : ¬ x2 = 2 := by rintro rfl; revert h; decide
      rw [if_neg n0, if_neg n1, if_neg n2]
      exact ⟨_, _, _, rfl, rfl, Rel_d b2 a2⟩
    · rw [in_in (b := 2) hk2 (by decide) rfl, bd1_s, if_neg n10, hr, bd2_s, q_getsIn c2.1 hj hq, bd1_s, q_arrives c2.1 hj hq, bd1_s, q_times c2.1 hj hq, bd1_s]
      by_cases d0 : nI k = 0
      · rw [if_pos d0, if_pos d0]
        exact ⟨_, _, _, rfl, rfl, Rel_d c3 a2⟩
      · rw [if_neg d0, if_neg d0]
        by_cases d1 : nI k = 1
        · rw [if_pos d1, if_pos d1]
          exact ⟨_, _, _, rfl, rfl, Rel_d c3 a2⟩
        · rw [if_neg d1, if_neg d1]
          have e2 : k = 2 := by
            have z0 : k ≠ 0 := fun z => d0 (by rw [z]; rfl)
            have z1 : k ≠ 1 := fun z => d1 (by rw [z]; rfl)
            omega
          rw [e2, if_pos (show nI 2 = 2 from rfl)]
          exact ⟨_, _, _, rfl, rfl, Rel_d c3 a2⟩
theorem c_full {z : Nat → St} {y : Nat → Lt} {s : St} (H : Rel z y s) (x : Int32) : Ans (fX8_full z y x) (fX9_full s x) y := by
  unfold fX8_full fX9_full
  rcases rng x 1 (by decide) with h | ⟨k, hk, rfl⟩
  · rw [show fX9_in x 0 1 = some 0 from in_out h, bd1_s, if_pos z00]
    refine ⟨-2, z, s, ?_, rfl, H⟩
    by_cases c : x < 0
    · rw [if_pos c]
    · rw [if_neg c, if_neg (show ¬ x ≤ 1 from i_le (h.resolve_left c))]
  · rw [in_in (b := 1) hk (by decide) rfl, bd1_s, if_neg n10, if_neg (nI_pos (by omega)), if_pos (show nI k ≤ 1 from nI_le (b := 1) hk (by decide))]
    obtain ⟨z', t, hf, j, w, fl, a1, a2, a3, a4, a5, a6, a7⟩ := ask H
    have hj := a5.2.2.2.2.1
    have hL := a5.2.2.2.2.2.2.2.1
    unfold fX9_fullOf
    rw [a1, bd1_s, a4, bd1_s, q_refuses a5.1 hL hj, bd1_s, q_whom a5.1 hL hj, bd1_s]
    by_cases c : nI k = 0
    · rw [if_pos c, if_pos c, bd2_s]
      exact ⟨_, _, _, rfl, rfl, Rel_d a6 a2⟩
    · rw [if_neg c, if_neg c, bd2_s]
      exact ⟨_, _, _, rfl, rfl, Rel_d a6 a2⟩
theorem arr_of {h r t : St} {nr nl hf j w fl T : Nat} (H : Rid h r t nr nl hf j w fl) (hT : T < 1000) : ∃ k, k ≤ j ∧ fX4_rowBehind h r (nI T) = some (nI k) ∧ r 8 k = arB t (nI T) nr ∧ r 4 k = t 24 (stp1 T w) := by
  obtain ⟨k, h1, h2, h3, h4, h5⟩ := q_row H.1 H.2.1 H.2.2.2.2.1 hT
  exact ⟨k, h1, h2, q_arrivedRow H hT h1 h3 h4, h5.1.symm⟩
theorem c_arrived {z : Nat → St} {y : Nat → Lt} {s : St} (H : Rel z y s) (x : Int32) : Ans (fX8_arrived z y x) (fX9_arrived s x) y := by
  unfold fX8_arrived fX9_arrived
  rcases rng x 255 (by decide) with h | ⟨T, hT, rfl⟩
  · rw [noStep_out h, isSteps_out h, bd1_s, bd1_s, if_neg n10, if_pos z00]
    exact ⟨_, _, _, rfl, rfl, H⟩
  · rw [noStep_in hT, isSteps_in hT, bd1_s, bd1_s, if_pos z00, if_neg n10]
    obtain ⟨z', t, hf, j, w, fl, a1, a2, a3, a4, a5, a6, a7⟩ := ask H
    have hj := a5.2.2.2.2.1
    obtain ⟨k, b1, b2, b3, -⟩ := arr_of a5 (T := T) (by omega)
    unfold fX9_arrivedOf
    rw [a1, bd1_s, b2, bd1_s, rd_nI rfl (show k < 45 by omega) (by decide), a4, bd1_s, f_arrivedNow a7.1 (nrS_8 H.1.1), bd1_s, bd2_s, b3]
    exact ⟨_, _, _, rfl, rfl, Rel_d a6 a2⟩
theorem c_knows {z : Nat → St} {y : Nat → Lt} {s : St} (H : Rel z y s) (x1 x2 : Int32) : Ans (fX8_knows z y x1 x2) (fX9_knows s x1 x2) y := by
  unfold fX8_knows fX9_knows
  obtain ⟨z', a1, a2, a3, -⟩ := f_freshen H
  have hk := H.1.1
  have n8 := nrS_8 hk
  rw [a1, bd1_s]
  rcases rng2 x1 (nrS s) (by omega) with h | ⟨q, hq, rfl⟩
  · obtain ⟨u, b1, b2, b3⟩ := isRider_out hk h
    rw [noRider_out n8 a3.1.1.1 h, bd1_s, if_neg n10, b1, bd2_s, if_pos z00]
    exact ⟨_, _, _, rfl, rfl, Rel_d b2 a2⟩
  · obtain ⟨u, b1, b2, b3⟩ := isRider_in hk hq
    rw [noRider_in n8 a3.1.1.1 hq, bd1_s, if_pos z00, b1, bd2_s, if_neg n10]
    rcases rng x2 1 (by decide) with h | ⟨k, hk2, rfl⟩
    · rw [show fX9_in x2 0 1 = some 0 from in_out h, bd1_s, if_pos z00]
      refine ⟨-2, z', u, ?_, rfl, Rel_d b2 a2⟩
      by_cases c : x2 < 0
      · rw [if_pos c]
      · rw [if_neg c, if_neg (show ¬ x2 ≤ 1 from i_le (h.resolve_left c))]
    · rw [in_in (b := 1) hk2 (by decide) rfl, bd1_s, if_neg n10, if_neg (nI_pos (by omega)), if_pos (show nI k ≤ 1 from nI_le (b := 1) hk2 (by decide))]
      obtain ⟨t, hf, j, w, fl, c1, c2, c3, c4⟩ := told_u a2 a3 b2
      have hj := c2.2.2.2.2.1
      obtain ⟨v, d1, d2⟩ := q_heard c2
      unfold fX9_knowsOf
      rw [c1, bd1_s, q_known c2.1 hj hq, bd1_s, d1, bd1_s, f_byteOf, bd1_s, d2 q hq]
      by_cases c : nI k = 0
      · rw [if_pos c, if_pos c, rd_nI rfl (show q < 8 by omega) (by decide), bd2_s]
        exact ⟨_, _, _, rfl, rfl, Rel_d c3 a2⟩
      · rw [if_neg c, if_neg c, rd_nI rfl (show q < 8 by omega) (by decide), bd2_s]
        exact ⟨_, _, _, rfl, rfl, Rel_d c3 a2⟩
