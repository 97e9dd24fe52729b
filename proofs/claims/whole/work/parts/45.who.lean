/-! ===== who: another rider in place of a leaver's own ===== -/
theorem Frm_9 {a b : St} (F : Frm a b) (l : Nat) (x : Int32) : Frm (sS a 9 l x) (sS b 9 l x) := by
  refine ⟨fun c c0 c1 c2 c3 c4 c5 c6 c7 c8 c9 => ?_, fun i h1 h2 h3 h4 h5 h6 h7 h8 => F.2 i h1 h2 h3 h4 h5 h6 h7 h8⟩
  by_cases d : c = 9
  · rw [d, sS_s, sS_s, F.1 9 (by decide) (by decide) (by decide) (by decide) (by decide) (by decide) (by decide) (by decide) (by decide) (by decide)]
  · rw [sS_o d, sS_o d]; exact F.1 c c0 c1 c2 c3 c4 c5 c6 c7 c8 c9
theorem Lea_as {h r1 t : St} {nr nl hf l q : Nat} (hH : Hou h t nr nl hf) (hL : Lea r1 t nr nl) (h15 : ∀ k, k < nl → bt (t 0 15) k = true) (hl : l < nl) (hq : q < nr) : Lea (sS (sS r1 0 10 ((r1 0 10 &&& (((1 : Int32) <<< (nI l &&& 31)) ^^^ (-1))) ||| ((1 : Int32) <<< (nI l &&& 31)))) 12 l (h 7 q / 2)) (sS t 9 l (nI q)) nr nl := by
  obtain ⟨⟨hr1, hr2, hr8⟩, ⟨hl1, hl2, hl8⟩, -, -, hrd, -, -, -⟩ := hH
  obtain ⟨a1, a2, a3⟩ := hL
  have e9 : ∀ k, sS t 9 l (nI q) 9 k = if k = l then nI q else t 9 k := fun k => by rw [sS_s]; rfl
  have eb : ∀ k, k < 32 → bt ((r1 0 10 &&& (((1 : Int32) <<< (nI l &&& 31)) ^^^ (-1))) ||| ((1 : Int32) <<< (nI l &&& 31))) k = if k = l then true else bt (r1 0 10) k := fun k hk => by
    rw [bt_or, bt_and, bt_not _ hk, bt_one (show l < 32 by omega)]
    by_cases c : k = l
    · simp [c]
    · simp [c]
  refine ⟨fun k hk => ?_, fun k hk => ?_, fun k hk hb => ?_⟩
  · rw [e9]
    by_cases c : k = l
    · rw [if_pos c]; exact ⟨q, by omega, rfl⟩
    · rw [if_neg c]; exact a1 k hk
  · show bt ((r1 0 10 &&& (((1 : Int32) <<< (nI l &&& 31)) ^^^ (-1))) ||| ((1 : Int32) <<< (nI l &&& 31))) k = (decide (k < nl) && (bt (t 0 15) k && decide (sS t 9 l (nI q) 9 k < nI nr)))
    rw [eb k hk, e9]
    by_cases c : k = l
    · rw [if_pos c, if_pos c, c, h15 l hl]
      have : nI q < nI nr := nI_lt hq (by omega)
      simp [hl, this]
    · rw [if_neg c, if_neg c]; exact a2 k hk
  · have hb' : bt ((r1 0 10 &&& (((1 : Int32) <<< (nI l &&& 31)) ^^^ (-1))) ||| ((1 : Int32) <<< (nI l &&& 31))) k = true := hb
    rw [eb k (by omega)] at hb'
    show upd (r1 12) l (h 7 q / 2) k = ahM (sS t 9 l (nI q)) k
    unfold ahM
    rw [e9]
    by_cases c : k = l
    · rw [if_pos c, c, upd_s, ix_nI (by omega), (hrd q hq).1]; rfl
    · rw [if_neg c] at hb' ⊢
      rw [upd_o c]
      exact a3 k hk hb'
theorem f_who_l {h s v g : St} {l : Nat} (hk : Tok s) (hH : HsT h s) (hS : Sgt v s) (hl : l < nlS s) : ∀ (m q N : Nat) (r u : St) (bits : Int32), m + q = nrS s → m < N → R0 r → Rdw h s (sS u 9 l (nI (lwT s l))) → Dur s u → u 0 15 = 255 → ∃ bits' r' u', fX1_whoElse_4 h v g N (nI l) bits (nI q) r = some (bits', r') ∧ fX9_whoOf_16 N (nI l) (nI (lwT s l)) bits (nI q) u = some (bits', u') ∧ R0 r' ∧ Rdw h s u' ∧ Dur s u'
  | 0, q, N, r, u, bits, e, hN, h0, hW, hD, h15 => by
    obtain ⟨N, rfl⟩ : ∃ M, N = M + 1 := ⟨N - 1, by omega⟩
    have h8 := nrS_8 hk
    have l8 := nlS_8 hk
    have e2 : u 0 2 = nI (nrS s) := hW.1.1
    refine ⟨bits, r, sS u 9 l (nI (lwT s l)), ?_, ?_, h0, hW, hD⟩
    · rw [fX1_whoElse_4, hH.1.1, if_pos (by rw [nI_le' (by omega) (by omega)]; omega)]
    · rw [fX9_whoOf_16, e2, if_pos (by rw [nI_le' (by omega) (by omega)]; omega), wr_nI rfl (show l < 9 by omega) (by decide)]
  | m + 1, q, N, r, u, bits, e, hN, h0, hW, hD, h15 => by
    obtain ⟨N, rfl⟩ : ∃ M, N = M + 1 := ⟨N - 1, by omega⟩
    have h8 := nrS_8 hk
    have l8 := nlS_8 hk
    have e2 : u 0 2 = nI (nrS s) := hW.1.1
    have hRy : Rdy h s (sS u 9 l (nI (lwT s l))) (allM (nlS s)) (wyT s (-1) (-1)) := ⟨hW.1, hW.2.1, fun k hk2 => by
      show _ = bt (u 0 15) k
      rw [h15, bt_255k (by omega), bt_allM l8 (by omega)]; simp [hk2], hW.2.2⟩
    obtain ⟨hf, hHo, hLv⟩ := Rdy_hou hk hH hRy
    obtain ⟨r1, b1, bL, b9, b8, b0⟩ := Beg_begin hHo hLv h0
    have hq : q < nrS s := by omega
    have ls := f_leavesAs h r1 (l := l) (w := q) (by omega) (by omega) hHo.1.1 h8
    rw [if_pos hq] at ls
    have hHo2 : Hou h (sS u 9 l (nI q)) (nrS s) (nlS s) hf := hHo
    have hL2 := Lea_as (q := q) hHo bL (fun k hk2 => by
      show bt (u 0 15) k = true
      rw [h15, bt_255k (by omega)]) hl hq
    rw [sS_sS] at hL2
    obtain ⟨r', t', j, w, fl, c1, c2, c3, -, -, c6⟩ := RR_all (t := sS u 9 l (nI q)) (fs := wyT s (-1) (-1)) hHo2 ⟨hL2, b9, b8, b0⟩ hW.2.2
    have D1 : Dur s t' := (show Dur s (sS u 9 l (nI q)) from hD).tr c6.dur
    obtain ⟨b, d1, d2⟩ := seen_of c3 (Sgt_d D1 hS)
    have hW' : Rdw h s (sS t' 9 l (nI (lwT s l))) := by
      have F2 := Frm_9 c6 l (nI (lwT s l))
      rw [sS_sS] at F2
      exact Rdw_frm F2 hW
    have h15' : t' 0 15 = 255 := by
      rw [c6.2 15 (by decide) (by decide) (by decide) (by decide) (by decide) (by decide) (by decide) (by decide)]
      exact h15
    have hr0 : R0 r' := c3.2.2.2.2.2.2.1
    have cl : ∀ {K : Int32 → Option (Int32 × St)}, bd1 (fX2_allLeavers h) (fun r2 => bd1 (fX4_begin h r r2) (fun r4 => bd1 (fX4_leavesAs h r4 (nI l) (nI q)) (fun r6 => bd1 (fX4_goToStops h r6 (-1) (-1)) (fun r8 => bd1 (fX6_comeOut v h r8) (fun r10 => if r10 = 0 then (stp (nI q + 1) (fun w13 => fX1_whoElse_4 h v g N (nI l) bits w13 r8)) else (stp (bits ||| ((1 : Int32) <<< (nI q &&& 31))) (fun w14 => stp (nI q + 1) (fun w15 => fX1_whoElse_4 h v g N (nI l) w14 w15 r8)))))))) = if b then fX1_whoElse_4 h v g N (nI l) (bits ||| ((1 : Int32) <<< (nI q &&& 31))) (nI (q + 1)) r' else fX1_whoElse_4 h v g N (nI l) bits (nI (q + 1)) r' := by
      intro K
      have ea : fX2_allLeavers h = some (allM (nlS s)) := by unfold fX2_allLeavers; rw [hH.1.2.1]; rfl
      rw [ea, bd1_s, b1, bd1_s, ls, bd1_s, f_stopsT hk hH, c1, bd1_s, d1, bd1_s]
      cases b
      · rw [if_pos bF, stp_n, nI_1]; rfl
      · rw [if_neg bTn, stp_n, stp_n, nI_1]; rfl
    have rf : bd2 (fX9_isSeen (sS u 9 l (nI q))) (fun r10 s11 => if r10 = 0 then (stp ((bits ||| 0 : Int32)) (fun w14 => stp ((nI q + 1 : Int32)) (fun w15 => fX9_whoOf_16 N (nI l) (nI (lwT s l)) w14 w15 s11))) else (stp ((bits ||| ((1 : Int32) <<< (nI q &&& 31)) : Int32)) (fun w16 => stp ((nI q + 1 : Int32)) (fun w17 => fX9_whoOf_16 N (nI l) (nI (lwT s l)) w16 w17 s11)))) = if b then fX9_whoOf_16 N (nI l) (nI (lwT s l)) (bits ||| ((1 : Int32) <<< (nI q &&& 31))) (nI (q + 1)) t' else fX9_whoOf_16 N (nI l) (nI (lwT s l)) bits (nI (q + 1)) t' := by
      unfold fX9_isSeen
      rw [c2, bd1_s, d2, bd2_s]
      cases b
      · rw [if_pos bF, stp_n, stp_n, or_z, nI_1]; rfl
      · rw [if_neg bTn, stp_n, stp_n, nI_1]; rfl
    rw [fX1_whoElse_4, hH.1.1, if_neg (by rw [nI_le' (by omega) (by omega)]; omega), fX9_whoOf_16, e2, if_neg (by rw [nI_le' (by omega) (by omega)]; omega), wr_nI rfl (show l < 9 by omega) (by decide), rf]
    have cl' := cl (K := fun _ => none)
    rw [cl']
    cases b
    · exact f_who_l hk hH hS hl m (q + 1) N r' t' bits (by omega) (by omega) hr0 hW' D1 h15'
    · exact f_who_l hk hH hS hl m (q + 1) N r' t' (bits ||| ((1 : Int32) <<< (nI q &&& 31))) (by omega) (by omega) hr0 hW' D1 h15'
theorem who_of {z : Nat → St} {y : Nat → Lt} {s u : St} {l : Nat} (H : Rel z y s) (F : Fsh z y s) (D : Dur s u) (hl : l < nlS s) : ∃ bits r' u', fX1_whoElse (z 8) (z 10) (z 13) (z 14) (nI l) = some (bits, r') ∧ fX9_whoOf u (nI l) = some (bits, u') ∧ R0 r' ∧ Rdd u' s ∧ Dur s u' := by
  obtain ⟨t, a1, a2, a3⟩ := f_asTold (Tok_x D.tx H.1.1)
  rw [Tld_x D.tx] at a3
  have D1 := D.tr a2
  have hs := Sts_d D1.tx H.2.1
  have l8 := nlS_8 H.1.1
  have hW := Rdw_told H.1.1 hs a3
  have e9 : t 9 l = nI (lwT s l) := (a3.1.2.2.2.2.1 l hl).2
  have eid : sS t 9 l (nI (lwT s l)) = t := by rw [← e9, sS_id]
  obtain ⟨bits, r', u', b1, b2, b3, b4, b5⟩ := f_who_l (g := z 14) H.1.1 F.1 H.2.2.1 hl (nrS s) 0 300 (z 10) t 0 (by omega) (by have := nrS_8 H.1.1; omega) H.2.2.2.2.2.2.1 (by rw [eid]; exact hW) D1 a3.2.2.2
  refine ⟨bits, r', u', b1, ?_, b3, b4.1, b5⟩
  unfold fX9_whoOf
  rw [a1, bd1_s, rd_nI rfl (show l < 9 by omega) (by decide), e9]
  exact b2
theorem c_who {z : Nat → St} {y : Nat → Lt} {s : St} (H : Rel z y s) (x : Int32) : Ans (fX8_who z y x) (fX9_who s x) y := by
  unfold fX8_who fX9_who
  obtain ⟨z', a1, a2, a3, -⟩ := f_freshen H
  have hk := H.1.1
  have n8 := nlS_8 hk
  rw [a1, bd1_s]
  rcases rng2 x (nlS s) (by omega) with h | ⟨l, hl, rfl⟩
  · obtain ⟨u, b1, b2, b3⟩ := isLeaver_out hk h
    rw [noLeaver_out n8 a3.1.1.2.1 h, bd1_s, if_neg n10, b1, bd2_s, if_pos z00]
    exact ⟨_, _, _, rfl, rfl, Rel_d b2 a2⟩
  · obtain ⟨u, b1, b2, b3⟩ := isLeaver_in hk hl
    obtain ⟨bits, r', u', c1, c2, c3, -, c5⟩ := who_of a2 a3 b2 hl
    rw [noLeaver_in n8 a3.1.1.2.1 hl, bd1_s, if_pos z00, b1, bd2_s, if_neg n10, c1, bd2_s, stp_n, c2, bd2_s]
    exact ⟨_, _, _, rfl, rfl, Rel_10 (Rel_d c5 a2) c3⟩
