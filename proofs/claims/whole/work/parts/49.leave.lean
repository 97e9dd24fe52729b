/-! ===== stops left out ===== -/
theorem uL_s {f : Nat → Int64} {k : Nat} {x : Int64} : vp_updL f k x k = x := by unfold vp_updL; simp
theorem uL_o {f : Nat → Int64} {k j : Nat} {x : Int64} (h : j ≠ k) : vp_updL f k x j = f j := by unfold vp_updL; simp [h]
theorem tS_s {t : Lt} {c j : Nat} {v : Int64} : tS t c j v c = vp_updL (t c) j v := up_s
theorem tS_o {t : Lt} {c j : Nat} {v : Int64} {c' : Nat} (h : c' ≠ c) : tS t c j v c' = t c' := up_o h
theorem sR64 : ∀ k : Fin 64, (UInt64.mod ((nI k.val).toInt64.toUInt64 &&& Int64.toUInt64 63) 64).toBitVec = BitVec.ofNat 64 k.val := by decide
theorem bl_and (x y : Int64) (k : Nat) : bl (x &&& y) k = (bl x k && bl y k) := by simp [bl]
theorem bl_ext {x y : Int64} (h : ∀ k, k < 64 → bl x k = bl y k) : x = y := by
  apply Int64.toBitVec_inj.mp
  apply BitVec.eq_of_getLsbD_eq
  intro i hi
  exact h i hi
theorem bl_1f : ∀ k : Fin 64, bl 1 k.val = decide (k.val = 0) := by decide
theorem bitQ (v : Int64) {k : Nat} (hk : k < 64) : (lg_cmp ((((v : Int64).toUInt64 >>> ((nI k : Int32).toInt64.toUInt64 &&& Int64.toUInt64 63)).toInt64) &&& 1) 0 = 0) = (bl v k = false) := by
  apply propext
  rw [lg_cmp_eq]
  have e0 : bl (((v : Int64).toUInt64 >>> ((nI k : Int32).toInt64.toUInt64 &&& Int64.toUInt64 63)).toInt64) 0 = bl v k := by
    show (v.toBitVec >>> (UInt64.mod ((nI k).toInt64.toUInt64 &&& Int64.toUInt64 63) 64).toBitVec).getLsbD 0 = v.toBitVec.getLsbD k
    have e := sR64 ⟨k, hk⟩
    simp only at e
    rw [e, BitVec.ushiftRight_eq', BitVec.toNat_ofNat, BitVec.getLsbD_ushiftRight, Nat.mod_eq_of_lt (show k < 2 ^ 64 by omega), Nat.add_zero]
  constructor
  · intro h
    have := congrArg (fun x => bl x 0) h
    simp only [bl_and, bl_zero] at this
    rw [e0, bl_1f ⟨0, by decide⟩] at this
    simpa using this
  · intro h
    apply bl_ext
    intro i hi
    rw [bl_and, bl_zero, bl_1f ⟨i, hi⟩]
    by_cases c : i = 0
    · subst c
      rw [e0, h]; rfl
    · simp [c]
theorem heard_of {h s r : St} {a b : Int32} (hk : Tok s) (hs : Sts h s) (hR : RidV h s r (allM (nlS s)) (wyT s a b)) : ∃ v, fX4_heard h r = some v ∧ HeardV h s a b v := by
  have h20 := nsS_20 hk
  have hl := wyT_len s a b
  obtain ⟨u0, r0, -⟩ := Rdy_exD hk hs (allM (nlS s)) (fs := wyT s a b) (by omega) (wyT_lt hk _ _)
  obtain ⟨t0, hf, j, w, fl, a1, a2, a3⟩ := hR u0 r0
  obtain ⟨v, b1, -⟩ := q_heard a2
  refine ⟨v, b1, fun t ht => ?_⟩
  obtain ⟨t', hf', j', w', fl', c1, c2, c3⟩ := hR t ht
  obtain ⟨v', d1, d2⟩ := q_heard c2
  rw [b1] at d1
  cases d1
  exact ⟨t', c1, c3, d2⟩
def OutN (h s p : St) (pL : Lt) (T : Nat) : Prop := T ≤ 211 ∧ p 0 6 = nI T ∧ ∀ w, w < T → ∀ a b, (wys (nsS s))[w]? = some (a, b) → HeardV h s a b (pL 6 w)
theorem wys_len : ∀ n : Fin 21, (wys n.val).length ≤ 211 := by decide +kernel
theorem f_silent {h s r p : St} {pL : Lt} {T w k : Nat} {a b : Int32} (hk : Tok s) (hs : Sts h s) (hH : HsT h s) (h0 : R0 r) (hO : OutN h s p pL T) (hw : w ≤ T) (hab : (wys (nsS s))[w]? = some (a, b)) (hk64 : k < 64) : ∃ v r' p' pL' T', fX3_silent h r p pL (nI w) (nI k) a b = some ((if bl v k then 0 else 1), r', p', pL') ∧ HeardV h s a b v ∧ R0 r' ∧ OutN h s p' pL' T' ∧ w + 1 ≤ T' ∧ (∀ c, c ≠ 0 → p' c = p c) ∧ p' 0 2 = p 0 2 := by
  have h20 := nsS_20 hk
  have hlen := wys_len ⟨nsS s, by omega⟩
  simp only at hlen
  have hwl : w < 211 := by
    have := (List.getElem?_eq_some_iff.mp hab).1
    omega
  obtain ⟨o1, o2, o3⟩ := hO
  unfold fX3_silent
  rw [if_neg (nI_pos (by omega)), if_pos (show nI w < 211 from nI_lt (b := 211) hwl (by decide)), o2]
  by_cases c : w < T
  · rw [if_pos (nI_lt c (by omega)), chk_nI hwl (by decide), stp_n, ix_nI (by omega)]
    simp only [bitQ (pL 6 w) hk64]
    refine ⟨pL 6 w, r, p, pL, T, ?_, o3 w c a b hab, h0, ⟨o1, o2, o3⟩, by omega, fun _ _ => rfl, rfl⟩
    cases d : bl (pL 6 w) k
    · rw [if_pos rfl, if_neg (by decide)]
    · rw [if_neg (by decide), if_pos rfl]
  · have eT : T = w := by omega
    obtain ⟨r1, r', a1, a2, a3, a4⟩ := ride_told (r0 := r) hk hs hH (allM (nlS s)) a b h0
    obtain ⟨v, b1, b2⟩ := heard_of hk hs a4
    have ea : fX2_allLeavers h = some (allM (nlS s)) := by unfold fX2_allLeavers; rw [hH.1.2.1]; rfl
    rw [if_neg (nI_nlt (by omega) (by omega)), ea, bd1_s, a1, bd1_s, a2, bd1_s, b1, bd1_s, chk_nI hwl (by decide), stp_n, stp_n, nI_1, chk_nI hwl (by decide), stp_n, ix_nI (by omega), tS_s, uL_s]
    simp only [bitQ v hk64]
    refine ⟨v, r', sS p 0 6 (nI (w + 1)), tS pL 6 w v, w + 1, ?_, b2, a3, ⟨by omega, by rw [sS_s, upd_s], fun w' hw' a' b' hab' => ?_⟩, Nat.le_refl _, fun c hc => by rw [sS_o hc], by rw [sS_s, upd_o (by decide)]⟩
    · cases d : bl v k
      · rw [if_pos rfl, if_neg (by decide)]
      · rw [if_neg (by decide), if_pos rfl]
    · rw [tS_s]
      by_cases d : w' = w
      · rw [d] at hab'
        rw [hab] at hab'
        cases hab'
        rw [d, uL_s]
        exact b2
      · rw [uL_o d]
        exact o3 w' (by omega) a' b' hab'
/-! the reference's side -/
theorem f_sp_12 {s : St} {n : Nat} (hn : n ≤ 20) (st : Nat → Nat) (q l a b : Int32) : ∀ (m k N c : Nat) (w : St), m + k = n → m < N → w 0 9 = nI n → (∀ i, i < n → w 11 i = nI (st i)) → w 0 13 = nI c → c ≤ k → ∃ w', fX9_isSpared_12 N q l a b (nI k) w = fX9_isSpared_12 1 q l a b (nI n) w' ∧ (∀ i, i ≠ 13 → w' 0 i = w 0 i) ∧ (∀ x, x ≠ 0 → x ≠ 15 → w' x = w x) ∧ w' 0 13 = nI (c + (lst st a b m k).length) ∧ (∀ i, i < c → w' 15 i = w 15 i) ∧ ∀ i, i < (lst st a b m k).length → w' 15 (c + i) = nI ((lst st a b m k).getD i 0)
  | 0, k, N, c, w, e, hN, h9, h11, h13, hc => by
    obtain ⟨N, rfl⟩ : ∃ M, N = M + 1 := ⟨N - 1, by omega⟩
    refine ⟨w, ?_, fun _ _ => rfl, fun _ _ _ => rfl, h13, fun _ _ => rfl, fun i hi => absurd hi (by simp [lst])⟩
    have ek : k = n := by omega
    rw [ek, fX9_isSpared_12, fX9_isSpared_12, h9, if_pos (nI_le (Nat.le_refl _) (by omega)), if_pos (nI_le (Nat.le_refl _) (by omega))]
  | m + 1, k, N, c, w, e, hN, h9, h11, h13, hc => by
    obtain ⟨N, rfl⟩ : ∃ M, N = M + 1 := ⟨N - 1, by omega⟩
    rw [fX9_isSpared_12, h9, if_neg (nI_ge (by omega) (by omega)), lst]
    by_cases c1 : nI k = a
    · rw [if_pos c1, if_pos (Or.inl c1), stp_n, nI_1]
      exact f_sp_12 (s := s) hn st q l a b m (k + 1) N c w (by omega) (by omega) h9 h11 h13 (by omega)
    · rw [if_neg c1]
      by_cases c2 : nI k = b
      · rw [if_pos c2, if_pos (Or.inr c2), stp_n, nI_1]
        exact f_sp_12 (s := s) hn st q l a b m (k + 1) N c w (by omega) (by omega) h9 h11 h13 (by omega)
      · have f13 : sS w 15 c (nI (st k)) 0 13 = nI c := h13
        rw [if_neg c2, if_neg (show ¬ (nI k = a ∨ nI k = b) from fun z => z.elim c1 c2), rd_nI rfl (show k < 20 by omega) (by decide), h11 k (by omega), h13, wr_nI rfl (show c < 22 by omega) (by decide), f13, nI_1, stp_n, stp_n, nI_1]
        obtain ⟨w', a1, a2, a3, a4, a5, a6⟩ := f_sp_12 (s := s) hn st q l a b m (k + 1) N (c + 1) (sS (sS w 15 c (nI (st k))) 0 13 (nI (c + 1))) (by omega) (by omega) h9 h11 rfl (by omega)
        refine ⟨w', a1, fun i hi => by rw [a2 i hi, sS_s, upd_o hi]; rfl, fun x h0 h15 => by rw [a3 x h0 h15, sS_o h0, sS_o h15], ?_, fun i hi => ?_, fun i hi => ?_⟩
        · rw [a4, List.length_cons]; congr 1; omega
        · rw [a5 i (by omega), sS_o (by decide), sS_s, upd_o (by omega)]
        · cases i with
          | zero => rw [Nat.add_zero, a5 c (by omega), sS_o (by decide), sS_s, upd_s]; rfl
          | succ i =>
            rw [List.length_cons] at hi
            rw [show c + (i + 1) = c + 1 + i by omega, a6 i (by omega), List.getD_cons_succ]
theorem f_isSpared {h s u : St} {q l : Nat} {a b : Int32} {v : Int64} (hk : Tok s) (hs : Sts h s) (D : Dur s u) (hq : q < nrS s) (hl : l < 8) (hv : HeardV h s a b v) : ∃ u', fX9_isSpared u (nI q) (nI l) a b = some ((if bl v (8 * q + l) then 0 else 1), u') ∧ Dur s u' ∧ Rdd u' s ∧ u' 34 0 = a ∧ u' 34 1 = b := by
  have h20 := nsS_20 hk
  have r8 := nrS_8 hk
  have l8 := nlS_8 hk
  obtain ⟨t, a1, a2, a3⟩ := f_asTold (Tok_x D.tx hk)
  rw [Tld_x D.tx] at a3
  have D1 := D.tr a2
  obtain ⟨w, b1, b2, b3, b4, b5, b6⟩ := f_sp_12 (s := s) h20 (stS s) (nI q) (nI l) a b (nsS s) 0 300 0 (sS t 0 13 0) (by omega) (by omega) (by
    show t 0 9 = _
    exact a3.1.2.2.1) (fun i hi => a3.1.2.2.2.2.2 i hi) rfl (by omega)
  rw [Nat.zero_add] at b4
  have hw9 : w 0 9 = nI (nsS s) := by rw [b2 9 (by decide)]; exact a3.1.2.2.1
  obtain ⟨x, hx⟩ : ∃ x, x = sS (sS w 34 0 a) 34 1 b := ⟨_, rfl⟩
  have hRy : Rdy h s x (allM (nlS s)) (wyT s a b) := by
    rw [hx]
    refine ⟨?_, ?_, fun k hk2 => ?_, b4, fun i hi => ?_, by have := wyT_len s a b; omega, wyT_lt hk a b⟩
    · show Rdd w s
      unfold Rdd
      rw [b2 2 (by decide), b2 6 (by decide), b2 9 (by decide), b3 4 (by decide) (by decide), b3 5 (by decide) (by decide), b3 6 (by decide) (by decide), b3 8 (by decide) (by decide), b3 9 (by decide) (by decide), b3 11 (by decide) (by decide)]
      exact a3.1
    · show Sts h w
      unfold Sts
      rw [b2 11 (by decide), b2 12 (by decide)]
      exact Sts_d D1.tx hs
    · show _ = bt (w 0 15) k
      rw [b2 15 (by decide)]
      show _ = bt (t 0 15) k
      rw [a3.2.2.2, bt_255k (by omega), bt_allM l8 (by omega)]; simp [hk2]
    · show w 15 i = _
      have := b6 i hi
      rw [Nat.zero_add] at this
      exact this
  obtain ⟨t', c1, c2, c3⟩ := hv x hRy
  have Dx : Dur s x := by
    rw [hx]
    show Dur s w
    unfold Dur
    rw [b2 11 (by decide), b2 12 (by decide), b2 34 (by decide), b2 43 (by decide), b3 1 (by decide) (by decide), b3 2 (by decide) (by decide), b3 36 (by decide) (by decide), b3 37 (by decide) (by decide), b3 39 (by decide) (by decide), b3 40 (by decide) (by decide), b3 41 (by decide) (by decide), b3 42 (by decide) (by decide)]
    exact D1
  have e34 : t' 34 = x 34 := c2.1 34 (by decide) (by decide) (by decide) (by decide) (by decide) (by decide) (by decide) (by decide) (by decide) (by decide)
  refine ⟨t', ?_, Dx.tr c2.dur, Rdd_frm c2 hRy.1, by rw [e34, hx, sS_s, upd_o (by decide), sS_s, upd_s], by rw [e34, hx, sS_s, upd_s]⟩
  unfold fX9_isSpared
  rw [a1, bd1_s, stp_n]
  refine Eq.trans b1 ?_
  rw [fX9_isSpared_12, hw9, if_pos (nI_le (Nat.le_refl _) (by omega)), wr_nI (x := 0) (w := 0) rfl (by decide) (by decide), wr_nI (x := 1) (w := 1) rfl (by decide) (by decide), ← hx, c1, bd1_s, rd_nI rfl (show q < 8 by omega) (by decide), f_isIn _ (show l < 32 by omega), bd1_s, ← c3 q hq, bt_by8 v (show q < 8 by omega) (show l < 32 by omega)]
  simp only [hl, decide_true, Bool.true_and]
  cases bl v (8 * q + l)
  · rw [if_pos bF]; rfl
  · rw [if_neg bTn]; rfl
/-! both -/
def Iv (h s p0 r p : St) (pL : Lt) (u : St) (w : Nat) : Prop := R0 r ∧ (∃ T, w ≤ T ∧ OutN h s p pL T) ∧ rowIs (p 5) (-1, -1, -1) ∧ p 4 = p0 4 ∧ p 0 2 = p0 0 2 ∧ Dur s u ∧ Rdd u s
def PsL (h s p0 : St) (A : Option (St × St × Lt)) (B : Option (Int32 × St)) : Prop := ∃ r' p' pL' u' o, A = some (r', p', pL') ∧ B = some (o.1, u') ∧ R0 r' ∧ OutC h s p' pL' ∧ p' 0 2 = p0 0 2 ∧ p' 4 = p0 4 ∧ rowIs (p' 5) o ∧ Pst u' o ∧ Dur s u'
theorem OutN_C {h s p : St} {pL : Lt} {T : Nat} (H : OutN h s p pL T) : OutC h s p pL := ⟨T, H.1, H.2.1, H.2.2⟩
theorem Iv_end {h s p0 r p : St} {pL : Lt} {u : St} {w : Nat} (H : Iv h s p0 r p pL u w) : PsL h s p0 (some (r, p, pL)) (some (-1, u)) := by
  obtain ⟨h1, ⟨T, h2, h3⟩, h4, h5, h6, h7, h8⟩ := H
  exact ⟨r, p, pL, u, (-1, -1, -1), rfl, rfl, h1, OutN_C h3, h6, h5, h4, Pst_n, h7⟩
theorem Iv_found {h s p0 r p : St} {pL : Lt} {u : St} {w : Nat} (H : Iv h s p0 r p pL u w) (n a b : Int32) (hp : Pst u (n, a, b)) : PsL h s p0 (bd1 (fX3_note 3 (p 5) n a b) (fun a24 => stp (va_up p 5 a24) (fun p26 => some (r, p26, pL)))) (some (n, u)) := by
  obtain ⟨h1, ⟨T, h2, h3⟩, h4, h5, h6, h7, h8⟩ := H
  obtain ⟨a', n1, n2⟩ := f_note (p 5) n a b
  rw [n1, bd1_s, stp_n]
  exact ⟨r, _, pL, u, (n, a, b), rfl, rfl, h1, OutN_C (T := T) h3, h6, h5, by rw [up_s]; exact n2, hp, h7⟩
theorem Iv_step {h s p0 r p : St} {pL : Lt} {u : St} {w q l : Nat} {a b : Int32} {rest : List (Int32 × Int32)} (hk : Tok s) (hs : Sts h s) (hH : HsT h s) (hq : q < nrS s) (hl : l < 8) (H : Iv h s p0 r p pL u w) (hd : (wys (nsS s)).drop w = (a, b) :: rest) : ∃ (f : Bool) (r' p' : St) (pL' : Lt) (u' : St), fX3_silent h r p pL (nI w) (nI (8 * q + l)) a b = some ((if f then 0 else 1), r', p', pL') ∧ fX9_isSpared u (nI q) (nI l) a b = some ((if f then 0 else 1), u') ∧ Iv h s p0 r' p' pL' u' (w + 1) ∧ u' 34 0 = a ∧ u' 34 1 = b ∧ (wys (nsS s)).drop (w + 1) = rest := by
  obtain ⟨h1, ⟨T, h2, h3⟩, h4, h5, h6, h7, h8⟩ := H
  have r8 := nrS_8 hk
  have hab : (wys (nsS s))[w]? = some (a, b) := by
    have := congrArg (fun x => x[0]?) hd
    simp only [List.getElem?_drop, Nat.add_zero] at this
    rw [this]; rfl
  obtain ⟨v, r', p', pL', T', c1, c2, c3, c4, c5, c6, c7⟩ := f_silent (k := 8 * q + l) hk hs hH h1 h3 h2 hab (by omega)
  obtain ⟨u', d1, d2, d3, d4, d5⟩ := f_isSpared hk hs h7 hq hl c2
  refine ⟨bl v (8 * q + l), r', p', pL', u', c1, d1, ⟨c3, ⟨T', c5, c4⟩, by rw [c6 5 (by decide)]; exact h4, by rw [c6 4 (by decide)]; exact h5, c7.trans h6, d2, d3⟩, d4, d5, ?_⟩
  have := congrArg (List.drop 1) hd
  rw [List.drop_drop] at this
  exact this
theorem bF' : ¬ (if false = true then (0 : Int32) else 1) = 0 := by decide
theorem bT' : (if true = true then (0 : Int32) else 1) = 0 := rfl
theorem f_112 {h s p0 : St} {q l i : Nat} {rest : List (Int32 × Int32)} (hk : Tok s) (hs : Sts h s) (hH : HsT h s) (hq : q < nrS s) (hl : l < 8) (hi : i < 20) (rc : Int32 → Int32 → Int32 → St → St → Lt → Option (St × St × Lt)) (rd : Int32 → Int32 → Int32 → St → Option (Int32 × St)) : ∀ (m j N w : Nat) (r p : St) (pL : Lt) (u : St), m + j = nsS s → m < N → (wys (nsS s)).drop w = pr2 i m j ++ rest → Iv h s p0 r p pL u w → PsL h s p0 (fX3_findOut_112 h rc N (nI (8 * q + l)) (nI w) (nI i) (nI j) r p pL) (fX9_leaveBy_57 rd N (nI q) (nI l) (nI i) (nI j) u) ∨ ∃ w' r' p' pL' u', fX3_findOut_112 h rc N (nI (8 * q + l)) (nI w) (nI i) (nI j) r p pL = rc (nI (8 * q + l)) (nI w') (nI (i + 1)) r' p' pL' ∧ fX9_leaveBy_57 rd N (nI q) (nI l) (nI i) (nI j) u = rd (nI q) (nI l) (nI (i + 1)) u' ∧ (wys (nsS s)).drop w' = rest ∧ Iv h s p0 r' p' pL' u' w'
  | 0, j, N, w, r, p, pL, u, e, hN, hd, H => by
    obtain ⟨N, rfl⟩ : ∃ M, N = M + 1 := ⟨N - 1, by omega⟩
    have h20 := nsS_20 hk
    right
    refine ⟨w, r, p, pL, u, ?_, ?_, hd, H⟩
    · rw [fX3_findOut_112, hH.1.2.2, if_pos (nI_le (by omega) (by omega)), stp_n, nI_1]
    · rw [fX9_leaveBy_57, H.2.2.2.2.2.2.2.2.1, if_pos (nI_le (by omega) (by omega)), stp_n, nI_1]
  | m + 1, j, N, w, r, p, pL, u, e, hN, hd, H => by
    obtain ⟨N, rfl⟩ : ∃ M, N = M + 1 := ⟨N - 1, by omega⟩
    have h20 := nsS_20 hk
    obtain ⟨f, r', p', pL', u', a1, a2, a3, a4, a5, a6⟩ := Iv_step hk hs hH hq hl H (show (wys (nsS s)).drop w = (nI i, nI j) :: (pr2 i m (j + 1) ++ rest) from hd)
    rw [fX3_findOut_112, hH.1.2.2, if_neg (nI_ge (by omega) (by omega)), fX9_leaveBy_57, H.2.2.2.2.2.2.2.2.1, if_neg (nI_ge (by omega) (by omega)), a1, bd4_s, a2, bd2_s]
    cases f
    · rw [if_neg bF', if_neg bF']
      exact Or.inl (Iv_found a3 2 (nI i) (nI j) (Pst_2 a4 a5))
    · rw [if_pos bT', if_pos bT', stp_n, stp_n, stp_n, nI_1, nI_1]
      exact f_112 hk hs hH hq hl hi rc rd m (j + 1) N (w + 1) r' p' pL' u' (by omega) (by omega) a6 a3
theorem f_94 {h s p0 : St} {q l : Nat} (hk : Tok s) (hs : Sts h s) (hH : HsT h s) (hq : q < nrS s) (hl : l < 8) : ∀ (m i N w : Nat) (r p : St) (pL : Lt) (u : St), m + i = nsS s → m < N → (wys (nsS s)).drop w = pr (nsS s) m i → Iv h s p0 r p pL u w → PsL h s p0 (fX3_findOut_94 h N (nI (8 * q + l)) (nI w) (nI i) r p pL) (fX9_leaveBy_44 N (nI q) (nI l) (nI i) u)
  | 0, i, N, w, r, p, pL, u, e, hN, hd, H => by
    obtain ⟨N, rfl⟩ : ∃ M, N = M + 1 := ⟨N - 1, by omega⟩
    have h20 := nsS_20 hk
    rw [fX3_findOut_94, hH.1.2.2, if_pos (nI_le (by omega) (by omega)), fX9_leaveBy_44, H.2.2.2.2.2.2.2.2.1, if_pos (nI_le (by omega) (by omega))]
    exact Iv_end H
  | m + 1, i, N, w, r, p, pL, u, e, hN, hd, H => by
    obtain ⟨N, rfl⟩ : ∃ M, N = M + 1 := ⟨N - 1, by omega⟩
    have h20 := nsS_20 hk
    rw [fX3_findOut_94, hH.1.2.2, if_neg (nI_ge (by omega) (by omega)), fX9_leaveBy_44, H.2.2.2.2.2.2.2.2.1, if_neg (nI_ge (by omega) (by omega)), stp_n, stp_n, nI_1]
    rcases f_112 hk hs hH hq hl (show i < 20 by omega) (fX3_findOut_94 h N) (fX9_leaveBy_44 N) (nsS s - (i + 1)) (i + 1) 300 w r p pL u (by omega) (by omega) hd H with g | ⟨w', r', p', pL', u', g1, g2, g3, g4⟩
    · exact g
    · rw [g1, g2]
      exact f_94 hk hs hH hq hl m (i + 1) N w' r' p' pL' u' (by omega) (by omega) g3 g4
theorem f_45 {h s p0 : St} {q l : Nat} (hk : Tok s) (hs : Sts h s) (hH : HsT h s) (hq : q < nrS s) (hl : l < 8) : ∀ (m i N w : Nat) (r p : St) (pL : Lt) (u : St), m + i = nsS s → m < N → (wys (nsS s)).drop w = sg m i ++ pr (nsS s) (nsS s) 0 → Iv h s p0 r p pL u w → PsL h s p0 (fX3_findOut_45 h N (nI (8 * q + l)) (nI w) (nI i) r p pL) (fX9_leaveBy_15 N (nI q) (nI l) (nI i) u)
  | 0, i, N, w, r, p, pL, u, e, hN, hd, H => by
    obtain ⟨N, rfl⟩ : ∃ M, N = M + 1 := ⟨N - 1, by omega⟩
    have h20 := nsS_20 hk
    rw [fX3_findOut_45, hH.1.2.2, if_pos (nI_le (by omega) (by omega)), fX9_leaveBy_15, H.2.2.2.2.2.2.2.2.1, if_pos (nI_le (by omega) (by omega))]
    exact f_94 hk hs hH hq hl (nsS s) 0 300 w r p pL u (by omega) (by omega) hd H
  | m + 1, i, N, w, r, p, pL, u, e, hN, hd, H => by
    obtain ⟨N, rfl⟩ : ∃ M, N = M + 1 := ⟨N - 1, by omega⟩
    have h20 := nsS_20 hk
    obtain ⟨f, r', p', pL', u', a1, a2, a3, a4, a5, a6⟩ := Iv_step hk hs hH hq hl H (show (wys (nsS s)).drop w = (nI i, (-1)) :: (sg m (i + 1) ++ pr (nsS s) (nsS s) 0) from hd)
    rw [fX3_findOut_45, hH.1.2.2, if_neg (nI_ge (by omega) (by omega)), fX9_leaveBy_15, H.2.2.2.2.2.2.2.2.1, if_neg (nI_ge (by omega) (by omega)), a1, bd4_s, a2, bd2_s]
    cases f
    · rw [if_neg bF', if_neg bF']
      exact Iv_found a3 1 (nI i) (-1) (Pst_1 a4)
    · rw [if_pos bT', if_pos bT', stp_n, stp_n, stp_n, nI_1, nI_1]
      exact f_45 hk hs hH hq hl m (i + 1) N (w + 1) r' p' pL' u' (by omega) (by omega) a6 a3
theorem f_findOut {h s r p : St} {pL : Lt} {u : St} {q l : Nat} (hk : Tok s) (hs : Sts h s) (hH : HsT h s) (hq : q < nrS s) (hl : l < nlS s) (h0 : R0 r) (hO : OutC h s p pL) (D : Dur s u) (hR : Rdd u s) : PsL h s p (fX3_findOut h r p pL (nI q) (nI l)) (fX9_leaveBy u (nI q) (nI l)) := by
  have h20 := nsS_20 hk
  have l8 := nlS_8 hk
  obtain ⟨a', n1, n2⟩ := f_note (p 5) (-1) (-1) (-1)
  obtain ⟨T, o1, o2, o3⟩ := hO
  have H : Iv h s p r (va_up p 5 a') pL u 0 := ⟨h0, ⟨T, by omega, o1, o2, o3⟩, by rw [up_s]; exact n2, rfl, rfl, D, hR⟩
  obtain ⟨f, r', p', pL', u', a1, a2, a3, a4, a5, a6⟩ := Iv_step hk hs hH hq (show l < 8 by omega) H (show (wys (nsS s)).drop 0 = ((-1), (-1)) :: (sg (nsS s) 0 ++ pr (nsS s) (nsS s) 0) from rfl)
  have e8 : (8 : Int32) * nI q + nI l = nI (8 * q + l) := by rw [show (8 : Int32) = nI 8 from rfl, nI_mul, nI_add]
  have a1' : fX3_silent h r (va_up p 5 a') pL 0 (nI (8 * q + l)) (-1) (-1) = _ := a1
  unfold fX3_findOut fX9_leaveBy
  rw [n1, bd1_s, stp_n, stp_n, e8, a1', bd4_s, a2, bd2_s]
  cases f
  · rw [if_neg bF', if_neg bF']
    exact Iv_found a3 0 (-1) (-1) Pst_0
  · rw [if_pos bT', if_pos bT']
    exact f_45 hk hs hH hq (by omega) (nsS s) 0 300 1 r' p' pL' u' (by omega) (by omega) a6 a3
def AnsL {α : Type} (A : Option (α × (Nat → St) × (Nat → Lt))) (B : Option (α × St)) : Prop := ∃ v z' y' s', A = some (v, z', y') ∧ B = some (v, s') ∧ Rel z' y' s'
theorem Fsh_pl {z : Nat → St} {y : Nat → Lt} {s r' p' : St} {pL' : Lt} (F : Fsh z y s) (hO : OutC (z 8) s p' pL') (e2 : p' 0 2 = z 11 0 2) (e4 : p' 4 = z 11 4) : Fsh (va_up (va_up z 10 r') 11 p') (va_up y 11 pL') s := by
  obtain ⟨f1, f2, f3, f4, f5⟩ := F
  refine ⟨f1, f2, ?_, hO, f5⟩
  show p' 0 2 = 0 ∨ p' 0 2 = 1 ∧ MoreV s (p' 4)
  rw [e2, e4]
  exact f3
theorem Rel_pl {z : Nat → St} {y : Nat → Lt} {s r' p' : St} {pL' : Lt} (H : Rel z y s) (hz : z 0 0 10 = 0) (h0 : R0 r') (F : Fsh (va_up (va_up z 10 r') 11 p') (va_up y 11 pL') s) : Rel (va_up (va_up z 10 r') 11 p') (va_up y 11 pL') s := by
  obtain ⟨h1, h2, h3, h4, h5, h6, h7, h8⟩ := H
  refine ⟨⟨h1.1, fun κ hκ => ?_⟩, h2, h3, fun o ho => ?_, h5, h6, h0, Or.inr ⟨hz, F⟩⟩
  · rw [up_o (by omega), up_o (by omega)]; exact h1.2 κ hκ
  · rw [up_o (by omega), up_o (by omega)]; exact h4 o ho
theorem c_leave {z : Nat → St} {y : Nat → Lt} {s : St} (H : Rel z y s) (x1 x2 x3 : Int32) : AnsL (fX8_leave z y x1 x2 x3) (fX9_leave s x1 x2 x3) := by
  unfold fX8_leave fX9_leave
  obtain ⟨z', a1, a2, a3, a4⟩ := f_freshen H
  have hk := H.1.1
  have n8 := nrS_8 hk
  have l8 := nlS_8 hk
  rw [a1, bd1_s]
  rcases rng2 x1 (nrS s) (by omega) with h | ⟨q, hq, rfl⟩
  · obtain ⟨u, b1, b2, b3⟩ := isRider_out hk h
    rw [noRider_out n8 a3.1.1.1 h, bd1_s, if_neg n10, b1, bd2_s, if_pos z00]
    exact ⟨_, _, _, _, rfl, rfl, Rel_d b2 a2⟩
  · obtain ⟨u, b1, b2, b3⟩ := isRider_in hk hq
    have hku := Tok_x b2.tx hk
    have eS := S_x b2.tx
    rw [noRider_in n8 a3.1.1.1 hq, bd1_s, if_pos z00, b1, bd2_s, if_neg n10]
    rcases rng2 x2 (nlS s) (by omega) with h | ⟨l, hl, rfl⟩
    · obtain ⟨w, c1, c2, c3⟩ := isLeaver_out hku (by rw [eS.2.1]; exact h)
      rw [noLeaver_out l8 a3.1.1.2.1 h, bd1_s, if_neg n10, c1, bd2_s, if_pos z00]
      exact ⟨_, _, _, _, rfl, rfl, Rel_d (b2.tr c2) a2⟩
    · obtain ⟨w, c1, c2, c3⟩ := isLeaver_in hku (q := l) (by rw [eS.2.1]; exact hl)
      rw [Rdd_x b2.tx] at c3
      have Dw := b2.tr c2
      rw [noLeaver_in l8 a3.1.1.2.1 hl, bd1_s, if_pos z00, c1, bd2_s, if_neg n10, f_in, bd1_s]
      by_cases d1 : x3 < -1
      · rw [if_pos d1, if_pos (Or.inl d1), if_pos z00]
        exact ⟨_, _, _, _, rfl, rfl, Rel_d Dw a2⟩
      · rw [if_neg d1]
        by_cases d2 : 1 < x3
        · rw [if_neg (by rw [lt2_iff]; exact fun z => z d2), if_pos (Or.inr d2), if_pos z00]
          exact ⟨_, _, _, _, rfl, rfl, Rel_d Dw a2⟩
        · rw [if_pos (by rw [lt2_iff]; exact d2), if_neg (show ¬ (x3 < -1 ∨ 1 < x3) from fun z => z.elim d1 d2), if_neg n10]
          obtain ⟨r', p', pL', u', o, g1, g2, g3, g4, g5, g6, ⟨k1, k2, k3⟩, ⟨k4, k5⟩, g9⟩ := f_findOut (r := z' 10) (p := z' 11) (pL := y 11) hk a2.2.1 a3.1 hq hl a2.2.2.2.2.2.2.1 a3.2.2.2.1 Dw c3
          have F' := Fsh_pl (r' := r') a3 g4 g5 g6
          have R' := Rel_d g9 (Rel_pl a2 a4 g3 F')
          rw [g1, bd3_s, stp_n, stp_n, stp_n, g2, bd2_s]
          have e11 : va_up (va_up z' 10 r') 11 p' 11 = p' := rfl
          rw [e11]
          rcases x_101 d1 d2 with rfl | rfl | rfl
          · exact ⟨p' 5 0, _, _, u', rfl, by rw [k1]; rfl, R'⟩
          · rw [k4, bd1_s]
            exact ⟨p' 5 1, _, _, u', rfl, by rw [k2], R'⟩
          · rw [k5, bd1_s]
            exact ⟨p' 5 2, _, _, u', rfl, by rw [k3], R'⟩
