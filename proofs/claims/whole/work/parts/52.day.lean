/-! ===== other days ===== -/
theorem nI_dv {a b : Nat} (ha : a < 2 ^ 30) (hb : b < 2 ^ 30) : nI a / nI b = nI (a / b) := by
  have hd : a / b ≤ a := Nat.div_le_self a b
  apply Int32.toInt_inj.mp
  rw [Int32.toInt_div, nI_toInt (show a < 2 ^ 31 by omega), nI_toInt (show b < 2 ^ 31 by omega), nI_toInt (show a / b < 2 ^ 31 by omega), ← Int.ofNat_tdiv]
  generalize a / b = q at hd ⊢
  exact Int.bmod_eq_of_le (by omega) (by omega)
theorem nI_md {a b : Nat} (ha : a < 2 ^ 30) (hb : b < 2 ^ 30) : nI a - nI a / nI b * nI b = nI (a % b) := by
  have h := Nat.mod_add_div a b
  rw [Nat.mul_comm] at h
  rw [nI_dv ha hb, nI_mul, nI_sb (Nat.div_mul_le_self a b)]
  congr 1
  omega
def dyN (w : Int32) : Int32 := (1103515245 : Int32) * w + 12345
def dyF (w : Int32) : Nat := (w.toBitVec >>> 16).toNat % 10
theorem dyE (w : Int32) : (((w : Int32).toUInt32 >>> ((16 : Int32).toUInt32 &&& Int32.toUInt32 31)).toInt32) - (((w : Int32).toUInt32 >>> ((16 : Int32).toUInt32 &&& Int32.toUInt32 31)).toInt32) / 10 * 10 = nI (dyF w) := by
  have e : (((w : Int32).toUInt32 >>> ((16 : Int32).toUInt32 &&& Int32.toUInt32 31)).toInt32) = nI (w.toBitVec >>> 16).toNat := by
    apply Int32.toBitVec_inj.mp
    show w.toBitVec >>> (UInt32.mod ((16 : Int32).toUInt32 &&& Int32.toUInt32 31) 32).toBitVec = BitVec.ofNat 32 (w.toBitVec >>> 16).toNat
    have e2 : (UInt32.mod ((16 : Int32).toUInt32 &&& Int32.toUInt32 31) 32).toBitVec = 16#32 := by decide
    rw [e2, BitVec.ushiftRight_eq']
    have e3 : (16#32).toNat = 16 := by decide
    rw [e3, BitVec.ofNat_toNat, BitVec.setWidth_eq]
  have hb : (w.toBitVec >>> 16).toNat < 2 ^ 30 := by
    rw [BitVec.toNat_ushiftRight, Nat.shiftRight_eq_div_pow]
    have := w.toBitVec.isLt
    omega
  rw [e, show (10 : Int32) = nI 10 from rfl, nI_md hb (by decide)]
  rfl
theorem dyF_10 (w : Int32) : dyF w < 10 := Nat.mod_lt _ (by decide)
def dyS : Nat → Int32 → List Nat
  | 0, _ => []
  | m + 1, w => dyF (dyN w) :: dyS m (dyN w)
theorem dyS_len : ∀ m w, (dyS m w).length = m
  | 0, _ => rfl
  | m + 1, w => by rw [dyS, List.length_cons, dyS_len m]
theorem dyS_10 : ∀ m w f, f ∈ dyS m w → f < 10
  | 0, _, f, hf => by cases hf
  | m + 1, w, f, hf => by
    rw [dyS] at hf
    rcases List.mem_cons.mp hf with z | z
    · rw [z]; exact dyF_10 _
    · exact dyS_10 m _ f z
theorem f_day_47 {y : Nat → Lt} {n : Nat} (hn : n ≤ 20) (x : Int32) : ∀ (m i N : Nat) (w : Int32) (z : Nat → St) (r : St), m + i = n → m < N → goL (z 8) (dyS m w) (z 10) = some r → fX8_day_47 y N (nI n) x w (nI i) z = if x = 0 then (bd1 (fX4_howManyArrived (z 8) r) (fun r19 => some ((r19, va_up z 10 r)))) else (bd1 (fX4_endsBehind (z 8) r) (fun r16 => some ((r16, va_up z 10 r))))
  | 0, i, N, w, z, r, e, hN, hg => by
    obtain ⟨N, rfl⟩ : ∃ M, N = M + 1 := ⟨N - 1, by omega⟩
    have er : z 10 = r := Option.some.inj hg
    rw [fX8_day_47, if_pos (nI_le (by omega) (by omega)), ← er, up_self]
  | m + 1, i, N, w, z, r, e, hN, hg => by
    obtain ⟨N, rfl⟩ : ∃ M, N = M + 1 := ⟨N - 1, by omega⟩
    rw [dyS, goL] at hg
    obtain ⟨r1, c1, c2⟩ := bd1_e hg
    have ih := f_day_47 (y := y) hn x m (i + 1) N (dyN w) (va_up z 10 r1) r (by omega) (by omega) c2
    rw [up_up] at ih
    have e1 := dyE (dyN w)
    rw [fX8_day_47, if_neg (nI_ge (by omega) (by omega)), stp_n]
    have e2 : fX4_goTo (z 8) (z 10) (((((1103515245 : Int32) * w + 12345 : Int32).toUInt32 >>> ((16 : Int32).toUInt32 &&& Int32.toUInt32 31)).toInt32) - ((((1103515245 : Int32) * w + 12345 : Int32).toUInt32 >>> ((16 : Int32).toUInt32 &&& Int32.toUInt32 31)).toInt32) / 10 * 10) = some r1 := by
      rw [show ((((1103515245 : Int32) * w + 12345 : Int32).toUInt32 >>> ((16 : Int32).toUInt32 &&& Int32.toUInt32 31)).toInt32) - ((((1103515245 : Int32) * w + 12345 : Int32).toUInt32 >>> ((16 : Int32).toUInt32 &&& Int32.toUInt32 31)).toInt32) / 10 * 10 = nI (dyF (dyN w)) from e1]
      exact c1
    rw [e2, bd1_s, stp_n, stp_n, nI_1]
    exact ih
theorem f_dayOf_15 {n : Nat} (hn : n ≤ 20) (x : Int32) : ∀ (m k N : Nat) (w : Int32) (u : St), m + k = n → m < N → ∃ u', fX9_dayOf_15 N (nI n) x w (nI k) u = bd1 (fX9_runs u') (fun s5 => fX9_dayOf_64 300 x 0 0 s5) ∧ (∀ c, c ≠ 15 → u' c = u c) ∧ (∀ i, i < k → u' 15 i = u 15 i) ∧ ∀ i, i < m → u' 15 (k + i) = nI ((dyS m w).getD i 0)
  | 0, k, N, w, u, e, hN => by
    obtain ⟨N, rfl⟩ : ∃ M, N = M + 1 := ⟨N - 1, by omega⟩
    refine ⟨u, ?_, fun _ _ => rfl, fun _ _ => rfl, fun i hi => absurd hi (by omega)⟩
    rw [fX9_dayOf_15, if_pos (nI_le (by omega) (by omega))]
  | m + 1, k, N, w, u, e, hN => by
    obtain ⟨N, rfl⟩ : ∃ M, N = M + 1 := ⟨N - 1, by omega⟩
    have e1 := dyE (dyN w)
    obtain ⟨u', a1, a2, a3, a4⟩ := f_dayOf_15 hn x m (k + 1) N (dyN w) (sS u 15 k (nI (dyF (dyN w)))) (by omega) (by omega)
    refine ⟨u', ?_, fun c hc => by rw [a2 c hc, sS_o hc], fun i hi => by rw [a3 i (by omega), sS_s, upd_o (by omega)], fun i hi => ?_⟩
    · rw [fX9_dayOf_15, if_neg (nI_ge (by omega) (by omega)), stp_n, chk_nI (show k < 22 by omega) (by decide), stp_n, stp_n, ix_nI (by omega), nI_1]
      rw [show ((((1103515245 : Int32) * w + 12345 : Int32).toUInt32 >>> ((16 : Int32).toUInt32 &&& Int32.toUInt32 31)).toInt32) - ((((1103515245 : Int32) * w + 12345 : Int32).toUInt32 >>> ((16 : Int32).toUInt32 &&& Int32.toUInt32 31)).toInt32) / 10 * 10 = nI (dyF (dyN w)) from e1]
      exact a1
    · cases i with
      | zero => rw [Nat.add_zero, a3 k (by omega), sS_s, upd_s]; rfl
      | succ i => rw [show k + (i + 1) = k + 1 + i by omega, a4 i (by omega), dyS, List.getD_cons_succ]
theorem day_of {z : Nat → St} {y : Nat → Lt} {s u : St} {n : Nat} (H : Rel z y s) (F : Fsh z y s) (D : Dur s u) (hn : n ≤ 20) (seed x : Int32) : ∃ v r' u', bd1 (fX2_allLeavers (z 8)) (fun r7 => bd1 (fX4_begin (z 8) (z 10) r7) (fun r10 => stp (va_up z 10 r10) (fun z12 => fX8_day_47 y 300 (nI n) x seed 0 z12))) = some (v, va_up z 10 r') ∧ fX9_dayOf u seed (nI n) x = some (v, u') ∧ R0 r' ∧ Dur s u' := by
  have hk := H.1.1
  have l8 := nlS_8 hk
  have r8 := nrS_8 hk
  have hH := F.1
  have hlen : (dyS n seed).length = n := dyS_len n seed
  obtain ⟨r1, a1, a2⟩ := begin_all (r0 := z 10) hk H.2.1 hH (allM (nlS s)) H.2.2.2.2.2.2.1
  obtain ⟨r, b1, b2, b3⟩ := ride_of hk H.2.1 hH (fs := dyS n seed) (by omega) (dyS_10 n seed) (a2 (dyS n seed))
  have ea : fX2_allLeavers (z 8) = some (allM (nlS s)) := by unfold fX2_allLeavers; rw [hH.1.2.1]; rfl
  obtain ⟨t, c1, c2, c3⟩ := f_asTold (Tok_x D.tx hk)
  rw [Tld_x D.tx] at c3
  have D1 := D.tr c2
  obtain ⟨w, d1, d2, d3, d4⟩ := f_dayOf_15 hn x n 0 300 seed (sS t 0 13 (nI n)) (by omega) (by omega)
  have Dw : Dur s w := by
    unfold Dur
    rw [d2 0 (by decide), d2 1 (by decide), d2 2 (by decide), d2 36 (by decide), d2 37 (by decide), d2 39 (by decide), d2 40 (by decide), d2 41 (by decide), d2 42 (by decide)]
    exact D1
  have hRy : Rdy (z 8) s w (allM (nlS s)) (dyS n seed) := by
    refine ⟨?_, Sts_d Dw.tx H.2.1, fun k hk2 => ?_, ?_, fun i hi => ?_, by omega, dyS_10 n seed⟩
    · unfold Rdd
      rw [d2 0 (by decide), d2 4 (by decide), d2 5 (by decide), d2 6 (by decide), d2 8 (by decide), d2 9 (by decide), d2 11 (by decide)]
      exact c3.1
    · rw [d2 0 (by decide)]
      show _ = bt (t 0 15) k
      rw [c3.2.2.2, bt_255k (by omega), bt_allM l8 (by omega)]; simp [hk2]
    · rw [d2 0 (by decide), hlen]; rfl
    · have := d4 i (by omega)
      rw [Nat.zero_add] at this
      exact this
  obtain ⟨t', hf, j, wz, fl, e1, e2, e3⟩ := b3 w hRy
  have f47 := f_day_47 (y := y) hn x n 0 300 seed (va_up z 10 r1) r (by omega) (by omega) (show goL (z 8) (dyS n seed) r1 = some r from b1)
  have f64 := f_dayOf_64 e2 x (nrS s) 0 300 (by omega) (by omega)
  refine ⟨(if x = 0 then cnb (r 8 j) (nrS s) else t' 0 16), r, t', ?_, ?_, b2, Dw.tr e3.dur⟩
  · rw [ea, bd1_s, a1, bd1_s, stp_n]
    refine Eq.trans f47 ?_
    rw [up_up]
    have eh : va_up z 10 r1 8 = z 8 := rfl
    rw [eh, q_many e2, bd1_s, q_ends e2.1 e2.2.1 e2.2.2.2.2.1, bd1_s]
    by_cases g : x = 0
    · rw [if_pos g, if_pos g]
    · rw [if_neg g, if_neg g]
  · unfold fX9_dayOf
    rw [c1, bd1_s, stp_n]
    refine Eq.trans d1 ?_
    rw [e1, bd1_s]
    exact f64
theorem c_day {z : Nat → St} {y : Nat → Lt} {s : St} (H : Rel z y s) (x1 x2 x3 : Int32) : Ans (fX8_day z y x1 x2 x3) (fX9_day s x1 x2 x3) y := by
  unfold fX8_day fX9_day
  rw [f_in, bd1_s]
  by_cases c1 : x2 < 1
  · rw [if_pos c1, if_pos (Or.inl c1), if_pos z00]
    exact ⟨_, _, _, rfl, rfl, H⟩
  · rw [if_neg c1]
    by_cases c2 : 20 < x2
    · rw [if_pos c2, if_pos (Or.inr c2), if_pos z00]
      exact ⟨_, _, _, rfl, rfl, H⟩
    · rw [if_neg c2, if_neg (show ¬ (x2 < 1 ∨ 20 < x2) from fun z => z.elim c1 c2), if_neg n10]
      have h0 : ¬ x2 < 0 := fun z => c1 (Int32.lt_trans z (by decide))
      rcases rng x2 20 (by decide) with h | ⟨n, hn, rfl⟩
      · exact absurd h (fun z => z.elim h0 c2)
      · rcases rng x3 1 (by decide) with h | ⟨k, hk, rfl⟩
        · rw [show fX9_in x3 0 1 = some 0 from in_out h, bd1_s, if_pos z00]
          refine ⟨-2, z, s, ?_, rfl, H⟩
          by_cases d : x3 < 0
          · rw [if_pos d]
          · rw [if_neg d, if_neg (show ¬ x3 ≤ 1 from i_le (h.resolve_left d))]
        · rw [in_in (b := 1) hk (by decide) rfl, bd1_s, if_neg n10, if_neg (nI_pos (by omega)), if_pos (show nI k ≤ 1 from nI_le (b := 1) hk (by decide))]
          obtain ⟨z', a1, a2, a3, -⟩ := f_freshen H
          obtain ⟨v, r', u', b1, b2, b3, b4⟩ := day_of a2 a3 Dur.rf hn x1 (nI k)
          rw [a1, bd1_s, b1, b2, bd2_s]
          exact ⟨_, _, _, rfl, rfl, Rel_10 (Rel_d b4 a2) b3⟩
