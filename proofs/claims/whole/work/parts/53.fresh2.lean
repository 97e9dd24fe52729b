/-! ===== calls on an object that is fresh ===== -/
def Fz (z : Nat → St) (y : Nat → Lt) (s : St) : Prop := Rel z y s ∧ Fsh z y s ∧ z 0 0 10 = 0
theorem fr0 {z : Nat → St} {y : Nat → Lt} {s : St} (H : Fz z y s) : fX8_freshen z y = some z := by
  unfold fX8_freshen
  rw [if_pos H.2.2]
theorem Fz_10 {z : Nat → St} {y : Nat → Lt} {s r : St} (H : Fz z y s) (h0 : R0 r) : Fz (va_up z 10 r) y s := ⟨Rel_10 H.1 h0, H.2.1, H.2.2⟩
theorem l_count {z : Nat → St} {y : Nat → Lt} {s u : St} {k : Nat} (H : Fz z y s) (D : Dur s u) (hk : k < 8) : ∃ v u', fX8_count z y (nI k) = some (v, z) ∧ fX9_count u (nI k) = some (v, u') ∧ Dur s u' := by
  unfold fX8_count fX9_count
  obtain ⟨t, hf, j, w, fl, a4, a5, a6, a7⟩ := told_u H.1 H.2.1 D
  have a2 := H.1
  have a3 := H.2.1
  rw [if_neg (nI_pos (by omega)), if_pos (show nI k < 9 from nI_lt (b := 9) (by omega) (by decide)), fr0 H, bd1_s, sum_of a4 a5, q_many a5]
  have tx : ∀ κ, κ < 3 → z (κ + 1) 0 3 = u 1 κ := fun κ hκ => by
    obtain ⟨b1, b2, n, b3, b4, b5, b6⟩ := TxP_of a2.1 hκ
    rw [b4, D.1.1, b5]
  obtain rfl | rfl | rfl | rfl | rfl | rfl | rfl | rfl : k = 0 ∨ k = 1 ∨ k = 2 ∨ k = 3 ∨ k = 4 ∨ k = 5 ∨ k = 6 ∨ k = 7 := by omega
  · exact ⟨z 8 0 2, t, rfl, by rw [show z 8 0 2 = t 0 2 by rw [a3.1.1.1, a7.1]]; rfl, a6⟩
  · exact ⟨z 8 0 3, t, rfl, by rw [show z 8 0 3 = t 0 6 by rw [a3.1.1.2.1, a7.2.1]]; rfl, a6⟩
  · exact ⟨z 8 0 4, t, rfl, by rw [show z 8 0 4 = t 0 9 by rw [a3.1.1.2.2, a7.2.2.1]]; rfl, a6⟩
  · exact ⟨z 1 0 3, u, rfl, by rw [tx 0 (by decide)]; rfl, D⟩
  · exact ⟨z 2 0 3, u, rfl, by rw [tx 1 (by decide)]; rfl, D⟩
  · exact ⟨z 3 0 3, u, rfl, by rw [tx 2 (by decide)]; rfl, D⟩
  · exact ⟨_, t, rfl, rfl, a6⟩
  · obtain ⟨n, b1, b2, b3, b4⟩ := a2.2.2.1
    refine ⟨z 13 0 0, u, rfl, ?_, D⟩
    have e34 : u 0 34 = z 13 0 0 := by rw [D.2.2.2.2.1, b2, b3]
    rw [← e34]; rfl
theorem l_fault {z : Nat → St} {y : Nat → Lt} {s u : St} {κ : Nat} (H : Fz z y s) (D : Dur s u) (hκ : κ < 3) : ∃ v u', fX8_fault z y (nI κ) = some v ∧ fX9_faultOf u (nI κ) = some (v, u') ∧ Dur s u' ∧ Rdd u' s := by
  unfold fX8_fault
  rw [noText_in (show κ ≤ 2 by omega), bd1_s, if_pos z00, sel3 (show κ ≤ 2 by omega)]
  obtain ⟨u', F, R, e⟩ := f_faultOf (Tok_x D.tx H.1.1.1)
  rw [e κ hκ, tn_e D.1.1, tb_e D.1.2.1]
  rw [Rdd_x D.tx] at R
  refine ⟨_, u', ?_, rfl, D.tr F.dur, R⟩
  obtain rfl | rfl | rfl : κ = 0 ∨ κ = 1 ∨ κ = 2 := by omega
  · rw [if_pos rfl, f_firstFault (H.1.1.2 0 (by decide)), bd1_s]
  · rw [if_neg (by decide), if_pos rfl, f_firstFault (H.1.1.2 1 (by decide)), bd1_s]
  · rw [if_neg (by decide), if_neg (by decide), f_firstFault (H.1.1.2 2 (by decide)), bd1_s]
theorem l_rider {z : Nat → St} {y : Nat → Lt} {s u : St} {q k : Nat} (H : Fz z y s) (R : Rdd u s) (hq : q < nrS s) (hk : k < 3) : ∃ v, fX8_rider z y (nI q) (nI k) = some (v, z) ∧ fX9_riderOf u (nI q) (nI k) = some v := by
  have n8 := nrS_8 H.1.1.1
  obtain ⟨g1, g2, g3⟩ := H.2.1.1.2.1 q hq
  obtain ⟨k1, k2, k3⟩ := R.2.2.2.1 q hq
  unfold fX8_rider fX9_riderOf
  rw [fr0 H, bd1_s, noRider_in n8 H.2.1.1.1.1 hq, bd1_s, if_pos z00, rd_nI rfl (show q < 8 by omega) (by decide), rd_nI rfl (show q < 8 by omega) (by decide), rd_nI rfl (show q < 8 by omega) (by decide), sel3 (show k ≤ 2 by omega), g1, g2, g3, rd_nI rfl (show q < 9 by omega) (by decide), rd_nI rfl (show q < 9 by omega) (by decide), rd_nI rfl (show q < 9 by omega) (by decide), k1, k2, k3]
  obtain rfl | rfl | rfl : k = 0 ∨ k = 1 ∨ k = 2 := by omega
  · exact ⟨_, rfl, rfl⟩
  · exact ⟨_, rfl, rfl⟩
  · exact ⟨_, rfl, rfl⟩
theorem l_rides {z : Nat → St} {y : Nat → Lt} {s u : St} {q k : Nat} (H : Fz z y s) (D : Dur s u) (hq : q < nrS s) (hk : k < 3) : ∃ v u', fX8_rides z y (nI q) (nI k) = some (v, z) ∧ fX9_ridesOf u (nI q) (nI k) = some (v, u') ∧ Dur s u' ∧ Rdd u' s := by
  have n8 := nrS_8 H.1.1.1
  obtain ⟨t, hf, j, w, fl, c1, c2, c3, c4⟩ := told_u H.1 H.2.1 D
  have hj := c2.2.2.2.2.1
  unfold fX8_rides fX9_ridesOf
  rw [fr0 H, bd1_s, noRider_in n8 H.2.1.1.1.1 hq, bd1_s, if_pos z00, q_getsIn c2.1 hj hq, bd1_s, q_arrives c2.1 hj hq, bd1_s, q_times c2.1 hj hq, bd1_s, sel3 (show k ≤ 2 by omega), c1, bd1_s, rd_nI rfl (show q < 8 by omega) (by decide), rd_nI rfl (show q < 8 by omega) (by decide), rd_nI rfl (show q < 8 by omega) (by decide)]
  obtain rfl | rfl | rfl : k = 0 ∨ k = 1 ∨ k = 2 := by omega
  · exact ⟨_, t, rfl, rfl, c3, c4⟩
  · exact ⟨_, t, rfl, rfl, c3, c4⟩
  · exact ⟨_, t, rfl, rfl, c3, c4⟩
theorem l_knows {z : Nat → St} {y : Nat → Lt} {s u : St} {q k : Nat} (H : Fz z y s) (D : Dur s u) (hq : q < nrS s) (hk : k < 2) : ∃ v u', fX8_knows z y (nI q) (nI k) = some (v, z) ∧ fX9_knowsOf u (nI q) (nI k) = some (v, u') ∧ Dur s u' ∧ Rdd u' s := by
  have n8 := nrS_8 H.1.1.1
  obtain ⟨t, hf, j, w, fl, c1, c2, c3, c4⟩ := told_u H.1 H.2.1 D
  have hj := c2.2.2.2.2.1
  obtain ⟨v, d1, d2⟩ := q_heard c2
  unfold fX8_knows fX9_knowsOf
  rw [fr0 H, bd1_s, noRider_in n8 H.2.1.1.1.1 hq, bd1_s, if_pos z00, if_neg (nI_pos (by omega)), if_pos (show nI k ≤ 1 from nI_le (b := 1) (by omega) (by decide)), q_known c2.1 hj hq, bd1_s, d1, bd1_s, f_byteOf, bd1_s, d2 q hq, c1, bd1_s, rd_nI rfl (show q < 8 by omega) (by decide), rd_nI rfl (show q < 8 by omega) (by decide)]
  obtain rfl | rfl : k = 0 ∨ k = 1 := by omega
  · exact ⟨_, t, rfl, rfl, c3, c4⟩
  · exact ⟨_, t, rfl, rfl, c3, c4⟩
theorem l_leaver {z : Nat → St} {y : Nat → Lt} {s u : St} {l : Nat} (H : Fz z y s) (R : Rdd u s) (hl : l < nlS s) : fX8_leaver z y (nI l) 0 = some (u 8 l, z) ∧ fX8_leaver z y (nI l) 1 = some (u 9 l, z) := by
  have n8 := nlS_8 H.1.1.1
  obtain ⟨g1, g2⟩ := H.2.1.1.2.2.1 l hl
  obtain ⟨k1, k2⟩ := R.2.2.2.2.1 l hl
  have key : ∀ x : Int32, fX8_leaver z y (nI l) x = if x = 0 then some (u 8 l, z) else if x = 1 then some (u 9 l, z) else some (-2, z) := by
    intro x
    unfold fX8_leaver
    rw [fr0 H, bd1_s, noLeaver_in n8 H.2.1.1.1.2.1 hl, bd1_s, if_pos z00, rd_nI rfl (show l < 8 by omega) (by decide), rd_nI rfl (show l < 8 by omega) (by decide), g1, g2, k1, k2]
  exact ⟨by rw [key]; rfl, by rw [key]; rfl⟩
theorem l_who {z : Nat → St} {y : Nat → Lt} {s u : St} {l : Nat} (H : Fz z y s) (D : Dur s u) (hl : l < nlS s) : ∃ v z' u', fX8_who z y (nI l) = some (v, z') ∧ fX9_whoOf u (nI l) = some (v, u') ∧ Fz z' y s ∧ Dur s u' ∧ Rdd u' s := by
  have n8 := nlS_8 H.1.1.1
  obtain ⟨bits, r', u', c1, c2, c3, c4, c5⟩ := who_of H.1 H.2.1 D hl
  unfold fX8_who
  rw [fr0 H, bd1_s, noLeaver_in n8 H.2.1.1.1.2.1 hl, bd1_s, if_pos z00, c1, bd2_s, stp_n]
  exact ⟨bits, _, u', rfl, c2, Fz_10 H c3, c5, c4⟩
theorem l_stop {z : Nat → St} {y : Nat → Lt} {s u : St} {i : Nat} (H : Fz z y s) (R : Rdd u s) (hi : i < nsS s) : fX8_stop z y (nI i) = some (u 11 i, z) := by
  have h20 := nsS_20 H.1.1.1
  unfold fX8_stop
  rw [if_neg (nI_pos (by omega)), if_pos (show nI i < 20 from nI_lt (b := 20) (by omega) (by decide)), fr0 H, bd1_s, H.2.1.1.1.2.2, if_neg (nI_ge (by omega) (by omega)), rd_nI rfl (show i < 20 by omega) (by decide), H.2.1.1.2.2.2.1 i hi, R.2.2.2.2.2 i hi]
theorem l_lift {z : Nat → St} {y : Nat → Lt} {s u : St} {T k : Nat} (H : Fz z y s) (D : Dur s u) (hT : T ≤ 255) (hk : k < 4) : ∃ v u', fX8_lift z y (nI T) (nI k) = some (v, z) ∧ fX9_liftOf u (nI T) (nI k) = some (v, u') ∧ Dur s u' := by
  obtain ⟨t, hf, j, w, fl, c1, c2, c3, c4⟩ := told_u H.1 H.2.1 D
  obtain ⟨g1, g2, g3⟩ := Rid_16 c2
  unfold fX8_lift
  rw [noStep_in hT, bd1_s, if_pos z00, if_neg (nI_pos (by omega)), if_pos (show nI k < 4 from nI_lt (b := 4) (by omega) (by decide)), fr0 H, bd1_s, tell_of c2 (by omega), bd1_s, f_liftOf c1 g1 g2 hT]
  exact ⟨_, t, rfl, rfl, c3⟩
theorem l_arrived {z : Nat → St} {y : Nat → Lt} {s u : St} {T : Nat} (H : Fz z y s) (D : Dur s u) (hT : T ≤ 255) : ∃ v u', fX8_arrived z y (nI T) = some (v, z) ∧ fX9_arrivedOf u (nI T) = some (v, u') ∧ Dur s u' := by
  obtain ⟨t, hf, j, w, fl, c1, c2, c3, c4⟩ := told_u H.1 H.2.1 D
  have hj := c2.2.2.2.2.1
  obtain ⟨k, b1, b2, b3, -⟩ := arr_of c2 (T := T) (by omega)
  unfold fX8_arrived fX9_arrivedOf
  rw [noStep_in hT, bd1_s, if_pos z00, fr0 H, bd1_s, b2, bd1_s, rd_nI rfl (show k < 45 by omega) (by decide), c1, bd1_s, f_arrivedNow c4.1 (nrS_8 H.1.1.1), bd1_s, b3]
  exact ⟨_, t, rfl, rfl, c3⟩
theorem l_ends {z : Nat → St} {y : Nat → Lt} {s u : St} (H : Fz z y s) (D : Dur s u) : ∃ v u', fX8_ends z y = some (v, z) ∧ fX9_endsNow u = some (v, u') ∧ Dur s u' := by
  obtain ⟨t, hf, j, w, fl, c1, c2, c3, c4⟩ := told_u H.1 H.2.1 D
  unfold fX8_ends fX9_endsNow
  rw [fr0 H, bd1_s, q_ends c2.1 c2.2.1 c2.2.2.2.2.1, bd1_s, c1, bd1_s]
  exact ⟨_, t, rfl, rfl, c3⟩
theorem l_full {z : Nat → St} {y : Nat → Lt} {s u : St} {k : Nat} (H : Fz z y s) (D : Dur s u) (hk : k < 2) : ∃ v u', fX8_full z y (nI k) = some (v, z) ∧ fX9_fullOf u (nI k) = some (v, u') ∧ Dur s u' := by
  obtain ⟨t, hf, j, w, fl, c1, c2, c3, c4⟩ := told_u H.1 H.2.1 D
  have hj := c2.2.2.2.2.1
  have hL := c2.2.2.2.2.2.2.2.1
  unfold fX8_full fX9_fullOf
  rw [if_neg (nI_pos (by omega)), if_pos (show nI k ≤ 1 from nI_le (b := 1) (by omega) (by decide)), fr0 H, bd1_s, q_refuses c2.1 hL hj, bd1_s, q_whom c2.1 hL hj, bd1_s, c1, bd1_s]
  obtain rfl | rfl : k = 0 ∨ k = 1 := by omega
  · exact ⟨_, t, rfl, rfl, c3⟩
  · exact ⟨_, t, rfl, rfl, c3⟩
theorem l_more {z : Nat → St} {y : Nat → Lt} {s u : St} (H : Fz z y s) (D : Dur s u) : ∃ a b z1 z2 u', fX8_more z y (-1) = some (a, z1) ∧ fX8_more z1 y 0 = some (b, z2) ∧ fX9_moreBy u = some (a, u') ∧ fX9_ofRow u' a 0 = some b ∧ Fz z2 y s ∧ Dur s u' := by
  obtain ⟨r', p', b1, b2, b3, b4⟩ := more_of H.1 H.2.1 H.2.2
  obtain ⟨t', d1, d2, d3, d4⟩ := b2 u D.tx
  have H1 : Fz (va_up (va_up z 10 r') 11 p') y s := ⟨b3, b4, H.2.2⟩
  obtain ⟨z1, hz1⟩ : ∃ z1, z1 = va_up (va_up z 10 r') 11 p' := ⟨_, rfl⟩
  have m1 : fX8_more z y (-1) = some (p' 4 0, z1) := by
    unfold fX8_more
    rw [if_neg (by decide), if_pos (by decide), fr0 H, bd1_s, b1, bd2_s, stp_n, stp_n, hz1]
    rfl
  rw [← hz1] at H1
  have e11 : z1 11 = p' := by rw [hz1]; rfl
  obtain ⟨r2, p2, g1, g2, g3, g4⟩ := more_of H1.1 H1.2.1 H1.2.2
  have m2 : fX8_more z1 y 0 = some (p2 4 1, va_up (va_up z1 10 r2) 11 p2) := by
    unfold fX8_more
    rw [if_neg (by decide), if_pos (by decide), fr0 H1, bd1_s, g1, bd2_s, stp_n, stp_n]
    rfl
  obtain ⟨t2, k1, k2, k3, k4⟩ := g2 u D.tx
  rw [d1] at k1
  have e0 : p' 4 0 = p2 4 0 := (z_inj2 k1).1
  have et : t' = t2 := (z_inj2 k1).2
  refine ⟨p' 4 0, p2 4 1, z1, _, t', m1, m2, d1, ?_, ⟨g3, g4, H1.2.2⟩, D.tr d2⟩
  rw [et, e0]; exact k3
theorem l_never {z : Nat → St} {y : Nat → Lt} {s u : St} (H : Fz z y s) (D : Dur s u) : ∃ v z' u', fX8_never z y = some (v, z') ∧ fX9_neverNow u = some (v, u') ∧ Fz z' y s ∧ Dur s u' := by
  obtain ⟨u', b1, b2, b3⟩ := never_r (Rel_d D H.1) (Fsh_x D.tx H.2.1)
  obtain ⟨r', c1, c2⟩ := f_never_c (s := u) (v := z 13) (g := z 14) (Tok_x D.tx H.1.1.1) (Sts_d D.tx H.1.2.1) (by rw [HsT_x D.tx]; exact H.2.1.1) (Sgt_d D H.1.2.2.1) (nlS u) 0 300 (z 10) (by omega) (by have := nlS_8 (Tok_x D.tx H.1.1.1); omega) H.1.2.2.2.2.2.2.1
  have c1' : fX1_neverLeft (z 8) (z 10) (z 13) (z 14) = _ := c1
  unfold fX8_never
  rw [fr0 H, bd1_s, c1', bd2_s, stp_n]
  exact ⟨_, _, u', rfl, b1, Fz_10 H c2, D.tr b3⟩
theorem l_weigh {z : Nat → St} {y : Nat → Lt} {s u : St} (H : Fz z y s) (D : Dur s u) : ∃ v z' u', fX8_weigh z y = some (v, z') ∧ fX9_weighNow u = some (v, u') ∧ Fz z' y s ∧ Dur s u' := by
  obtain ⟨v, r', g', u', b1, b2, b3, b4⟩ := weigh_of H.1 H.2.1 D
  unfold fX8_weigh
  rw [fr0 H, bd1_s, b1, bd3_s, stp_n, stp_n]
  exact ⟨_, _, u', rfl, b2, ⟨Rel_14 (Rel_10 H.1 b3), H.2.1, H.2.2⟩, b4⟩
theorem l_leave {z : Nat → St} {y : Nat → Lt} {s u : St} {x : Int32} (H : Fz z y s) (D : Dur s u) (hx : x = -1 ∨ x = 0) : ∃ v z' y' u', fX8_leave z y 0 0 x = some (v, z', y') ∧ fX9_leave u 0 0 x = some (v, u') ∧ Fz z' y' s ∧ Dur s u' := by
  have hk := H.1.1.1
  have hku := Tok_x D.tx hk
  have n8 := nrS_8 hk
  have l8 := nlS_8 hk
  have eS := S_x D.tx
  have a3 := H.2.1
  unfold fX8_leave fX9_leave
  rw [fr0 H, bd1_s]
  rcases rng2 0 (nrS s) (by omega) with h | ⟨q, hq, e0⟩
  · obtain ⟨w, b1, b2, b3⟩ := isRider_out hku (x := 0) (by rw [eS.1]; exact h)
    rw [noRider_out n8 a3.1.1.1 h, bd1_s, if_neg n10, b1, bd2_s, if_pos z00]
    exact ⟨_, _, _, w, rfl, rfl, H, D.tr b2⟩
  · have q0 : q = 0 := (nI_in2 (by omega) (by omega) (show nI 0 = nI q from e0)).symm
    subst q0
    obtain ⟨w, b1, b2, b3⟩ := isRider_in hku (q := 0) (by rw [eS.1]; exact hq)
    have D1 := D.tr b2
    have eS1 := S_x D1.tx
    have b1' : fX9_isRider u 0 = some (1, w) := b1
    have nr0 : fX8_noSuchRider z y 0 = some 0 := noRider_in (q := 0) n8 a3.1.1.1 hq
    rw [nr0, bd1_s, if_pos z00, b1', bd2_s, if_neg n10]
    rcases rng2 0 (nlS s) (by omega) with h | ⟨l, hl, e1⟩
    · obtain ⟨w2, c1, c2, c3⟩ := isLeaver_out (Tok_x D1.tx hk) (x := 0) (by rw [eS1.2.1]; exact h)
      rw [noLeaver_out l8 a3.1.1.2.1 h, bd1_s, if_neg n10, c1, bd2_s, if_pos z00]
      exact ⟨_, _, _, w2, rfl, rfl, H, D1.tr c2⟩
    · have l0 : l = 0 := (nI_in2 (by omega) (by omega) (show nI 0 = nI l from e1)).symm
      subst l0
      obtain ⟨w2, c1, c2, c3⟩ := isLeaver_in (Tok_x D1.tx hk) (q := 0) (by rw [eS1.2.1]; exact hl)
      rw [Rdd_x D1.tx] at c3
      have D2 := D1.tr c2
      have c1' : fX9_isLeaver w 0 = some (1, w2) := c1
      have nl0 : fX8_noSuchLeaver z y 0 = some 0 := noLeaver_in (q := 0) l8 a3.1.1.2.1 hl
      have d1 : ¬ x < -1 := by rcases hx with rfl | rfl <;> decide
      have d2 : ¬ 1 < x := by rcases hx with rfl | rfl <;> decide
      rw [nl0, bd1_s, if_pos z00, c1', bd2_s, if_neg n10, f_in, bd1_s, if_neg d1, if_pos (by rw [lt2_iff]; exact d2), if_neg (show ¬ (x < -1 ∨ 1 < x) from fun z => z.elim d1 d2), if_neg n10]
      obtain ⟨r', p', pL', u', o, g1, g2, g3, g4, g5, g6, ⟨k1, k2, k3⟩, ⟨k4, k5⟩, g9⟩ := f_findOut (r := z 10) (p := z 11) (pL := y 11) (q := 0) (l := 0) hk H.1.2.1 a3.1 hq hl H.1.2.2.2.2.2.2.1 a3.2.2.2.1 D2 c3
      have F' := Fsh_pl (r' := r') a3 g4 g5 g6
      have R' := Rel_pl H.1 H.2.2 g3 F'
      have g1' : fX3_findOut (z 8) (z 10) (z 11) (y 11) 0 0 = some (r', p', pL') := g1
      have g2' : fX9_leaveBy w2 0 0 = some (o.1, u') := g2
      rw [g1', bd3_s, stp_n, stp_n, stp_n, g2', bd2_s]
      have e11 : va_up (va_up z 10 r') 11 p' 11 = p' := rfl
      rw [e11]
      rcases hx with rfl | rfl
      · exact ⟨p' 5 0, _, _, u', rfl, by rw [k1]; rfl, ⟨R', F', H.2.2⟩, g9⟩
      · rw [k4, bd1_s]
        exact ⟨p' 5 1, _, _, u', rfl, by rw [k2], ⟨R', F', H.2.2⟩, g9⟩
theorem l_maybe {z : Nat → St} {y : Nat → Lt} {s u : St} {k : Nat} (H : Fz z y s) (D : Dur s u) (hk2 : k < 2) : ∃ v z' y' u', fX8_maybe z y 5 0 20 (nI k) = some (v, z', y') ∧ fX9_maybe u 5 0 20 (nI k) = some (v, u') ∧ Fz z' y' s ∧ Dur s u' := by
  have hk := H.1.1.1
  have hku := Tok_x D.tx hk
  have n8 := nrS_8 hk
  have eS := S_x D.tx
  have a3 := H.2.1
  have st1 : fX8_noSuchStep 20 = some 0 := by decide
  have st2 : fX9_isSteps 20 = some 1 := by decide
  have i5 : fX9_in 5 0 16 = some 1 := by decide
  unfold fX8_maybe fX9_maybe
  rw [fr0 H, bd1_s, if_neg (by decide), if_neg (by decide), i5, bd1_s, if_neg n10, f_no2]
  rcases rng2 0 (nrS s) (by omega) with h | ⟨q, hq, e0⟩
  · obtain ⟨w, b1, b2, b3⟩ := isRider_out hku (x := 0) (by rw [eS.1]; exact h)
    rw [noRider_out n8 a3.1.1.1 h, bd1_s, if_neg n10, b1, bd2_s, if_pos z00, bd1_s]
    exact ⟨_, _, _, w, rfl, rfl, H, D.tr b2⟩
  · have q0 : q = 0 := (nI_in2 (by omega) (by omega) (show nI 0 = nI q from e0)).symm
    subst q0
    obtain ⟨w, b1, b2, b3⟩ := isRider_in hku (q := 0) (by rw [eS.1]; exact hq)
    have D1 := D.tr b2
    have b1' : fX9_isRider u 0 = some (1, w) := b1
    have nr0 : fX8_noSuchRider z y 0 = some 0 := noRider_in (q := 0) n8 a3.1.1.1 hq
    rw [nr0, bd1_s, if_pos z00, st1, bd1_s, if_pos z00, if_neg (nI_pos (by omega)), if_pos (show nI k ≤ 1 from nI_le (b := 1) (by omega) (by decide)), b1', bd2_s, if_neg n10, st2, bd1_s, if_neg n10, in_in (b := 1) (show k ≤ 1 by omega) (by decide) rfl, bd1_s, if_neg n10]
    obtain ⟨r', c', cL', d1, d2, d3, d4⟩ := maybe_of (c := 5) (q := 0) (T := 20) H.1 a3 D1 (by omega) hq
    obtain ⟨u', e1, e2⟩ := d4 (nI k)
    obtain ⟨R', F'⟩ := Rel_ch H.1 a3 H.2.2 d2 d3
    have d1' : fX0_work (z 8) (z 10) (z 12) (y 12) 5 0 20 = some (r', c', cL') := d1
    have e1' : fX9_maybeOf w 5 0 20 (nI k) = _ := e1
    rw [d1', bd3_s, stp_n, stp_n, stp_n, e1', bd2_s]
    by_cases g : nI k = 0
    · rw [if_pos g, if_pos g]
      exact ⟨_, _, _, u', rfl, rfl, ⟨R', F', H.2.2⟩, e2⟩
    · rw [if_neg g, if_neg g]
      exact ⟨_, _, _, u', rfl, rfl, ⟨R', F', H.2.2⟩, e2⟩
theorem l_day {z : Nat → St} {y : Nat → Lt} {s u : St} {k : Nat} (H : Fz z y s) (D : Dur s u) (hk : k < 2) : ∃ v z' u', fX8_day z y 7 12 (nI k) = some (v, z') ∧ fX9_dayOf u 7 12 (nI k) = some (v, u') ∧ Fz z' y s ∧ Dur s u' := by
  obtain ⟨v, r', u', b1, b2, b3, b4⟩ := day_of (n := 12) H.1 H.2.1 D (by decide) 7 (nI k)
  unfold fX8_day
  rw [if_neg (by decide), if_neg (by decide), if_neg (nI_pos (by omega)), if_pos (show nI k ≤ 1 from nI_le (b := 1) (by omega) (by decide)), fr0 H, bd1_s]
  exact ⟨v, _, u', b1, b2, Fz_10 H b3, b4⟩
