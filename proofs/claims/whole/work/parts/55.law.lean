/-! ===== the law's loop: every call, both ===== -/
theorem sub6_lt {n c : Nat} (hn : n ≤ 3072) (hc : c ≤ 100000) : (nI n - 6 < nI c) ↔ n < 6 + c := by
  rw [show (6 : Int32) = nI 6 from rfl, Int32.lt_iff_toInt_lt, Int32.toInt_sub, nI_toInt (show 6 < 2 ^ 31 by decide), nI_toInt (show c < 2 ^ 31 by omega), nI_toInt (show n < 2 ^ 31 by omega), Int.bmod_eq_of_le (by omega) (by omega)]
  omega
theorem Rel_init : Rel iZ iY iX9 := by
  refine ⟨TxR_of (fun κ hκ => ?_), ⟨4, by decide, rfl, rfl, rfl⟩, ⟨0, by decide, rfl, rfl, fun k hk => absurd hk (by omega)⟩, fun o ho => ?_, rfl, ⟨rfl, rfl, rfl, rfl, rfl, rfl, rfl⟩, ⟨rfl, rfl, rfl, rfl, rfl, rfl, rfl⟩, Or.inl rfl⟩
  · obtain rfl | rfl | rfl : κ = 0 ∨ κ = 1 ∨ κ = 2 := by omega
    · exact ⟨rfl, rfl, 0, by decide, rfl, rfl, fun k hk => absurd hk (by omega)⟩
    · exact ⟨rfl, rfl, 0, by decide, rfl, rfl, fun k hk => absurd hk (by omega)⟩
    · exact ⟨rfl, rfl, 0, by decide, rfl, rfl, fun k hk => absurd hk (by omega)⟩
  · obtain rfl | rfl | rfl | rfl : o = 0 ∨ o = 1 ∨ o = 2 ∨ o = 3 := by omega
    · exact ⟨Or.inr ⟨rfl, rfl⟩, rfl, ⟨0, by decide, rfl, rfl⟩, fun k hk => rfl⟩
    · exact ⟨Or.inr ⟨rfl, rfl⟩, rfl, ⟨0, by decide, rfl, rfl⟩, fun k hk => rfl⟩
    · exact ⟨Or.inr ⟨rfl, rfl⟩, rfl, ⟨0, by decide, rfl, rfl⟩, fun k hk => rfl⟩
    · exact ⟨Or.inr ⟨rfl, rfl⟩, rfl, ⟨0, by decide, rfl, rfl⟩, fun k hk => rfl⟩
theorem law_l {nL : Nat} {xs : Nat → Int32} (hL : nL ≤ 3072) : ∀ (m k N : Nat) (z : Nat → St) (y : Nat → Lt) (s : St), m + k = 513 → m < N → Rel z y s → fL_law_18 nL xs N (nI (6 * k)) z y s = some 1
  | 0, k, N, z, y, s, e, hN, H => by
    obtain ⟨N, rfl⟩ : ∃ M, N = M + 1 := ⟨N - 1, by omega⟩
    rw [fL_law_18, if_pos (show Int32.ofNat nL - 6 < nI (6 * k) from (sub6_lt hL (by omega)).mpr (by omega))]
  | m + 1, k, N, z, y, s, e, hN, H => by
    obtain ⟨N, rfl⟩ : ∃ M, N = M + 1 := ⟨N - 1, by omega⟩
    have ih := fun (z : Nat → St) (y : Nat → Lt) (s : St) (H : Rel z y s) => law_l (xs := xs) hL m (k + 1) N z y s (by omega) (by omega) H
    rw [fL_law_18]
    by_cases c : nL < 6 + 6 * k
    · rw [if_pos (show Int32.ofNat nL - 6 < nI (6 * k) from (sub6_lt hL (by omega)).mpr c)]
    · have hn : nL < 2 ^ 31 := by omega
      have i1 : 6 * k + 1 < nL := by omega
      have i2 : 6 * k + 2 < nL := by omega
      have i3 : 6 * k + 3 < nL := by omega
      have i4 : 6 * k + 4 < nL := by omega
      have i5 : 6 * k + 5 < nL := by omega
      have e1 : nI (6 * k) + 1 = nI (6 * k + 1) := nI_add (6 * k) 1
      have e2 : nI (6 * k) + 2 = nI (6 * k + 2) := nI_add (6 * k) 2
      have e3 : nI (6 * k) + 3 = nI (6 * k + 3) := nI_add (6 * k) 3
      have e4 : nI (6 * k) + 4 = nI (6 * k + 4) := nI_add (6 * k) 4
      have e5 : nI (6 * k) + 5 = nI (6 * k + 5) := nI_add (6 * k) 5
      have e6 : nI (6 * k) + 6 = nI (6 * (k + 1)) := nI_add (6 * k) 6
      rw [if_neg (show ¬ Int32.ofNat nL - 6 < nI (6 * k) from fun w => c ((sub6_lt hL (by omega)).mp w)), rd_nI rfl (show 6 * k < nL by omega) hn]
      by_cases d0 : xs (6 * k) &&& 31 = 0
      · obtain ⟨v, z', s', A, B, R⟩ := c_type H (xs (6 * k + 1)) (xs (6 * k + 2))
        rw [if_pos d0, e1, rd_nI rfl i1 hn, e2, rd_nI rfl i2 hn, A, bd2_s, rd_nI rfl i1 hn, rd_nI rfl i2 hn, B, bd2_s, if_pos rfl, stp_n, e6]
        exact ih z' y s' R
      rw [if_neg d0]
      by_cases d1 : xs (6 * k) &&& 31 = 1
      · obtain ⟨v, z', s', A, B, R⟩ := c_wipe H (xs (6 * k + 1))
        rw [if_pos d1, e1, rd_nI rfl i1 hn, A, bd2_s, rd_nI rfl i1 hn, B, bd2_s, if_pos rfl, stp_n, e6]
        exact ih z' y s' R
      rw [if_neg d1]
      by_cases d2 : xs (6 * k) &&& 31 = 2
      · obtain ⟨v, z', s', A, B, R⟩ := c_undo H (xs (6 * k + 1))
        rw [if_pos d2, e1, rd_nI rfl i1 hn, A, bd2_s, rd_nI rfl i1 hn, B, bd2_s, if_pos rfl, stp_n, e6]
        exact ih z' y s' R
      rw [if_neg d2]
      by_cases d3 : xs (6 * k) &&& 31 = 3
      · obtain ⟨v, s', A, B, R⟩ := c_fault H (xs (6 * k + 1))
        rw [if_pos d3, e1, rd_nI rfl i1 hn, A, bd1_s, rd_nI rfl i1 hn, B, bd2_s, if_pos rfl, stp_n, e6]
        exact ih z y s' R
      rw [if_neg d3]
      by_cases d4 : xs (6 * k) &&& 31 = 4
      · obtain ⟨v, z', s', A, B, R⟩ := c_rider H (xs (6 * k + 1)) (xs (6 * k + 2))
        rw [if_pos d4, e1, rd_nI rfl i1 hn, e2, rd_nI rfl i2 hn, A, bd2_s, rd_nI rfl i1 hn, rd_nI rfl i2 hn, B, bd2_s, if_pos rfl, stp_n, e6]
        exact ih z' y s' R
      rw [if_neg d4]
      by_cases d5 : xs (6 * k) &&& 31 = 5
      · obtain ⟨v, z', s', A, B, R⟩ := c_leaver H (xs (6 * k + 1)) (xs (6 * k + 2))
        rw [if_pos d5, e1, rd_nI rfl i1 hn, e2, rd_nI rfl i2 hn, A, bd2_s, rd_nI rfl i1 hn, rd_nI rfl i2 hn, B, bd2_s, if_pos rfl, stp_n, e6]
        exact ih z' y s' R
      rw [if_neg d5]
      by_cases d6 : xs (6 * k) &&& 31 = 6
      · obtain ⟨v, z', s', A, B, R⟩ := c_stop H (xs (6 * k + 1))
        rw [if_pos d6, e1, rd_nI rfl i1 hn, A, bd2_s, rd_nI rfl i1 hn, B, bd2_s, if_pos rfl, stp_n, e6]
        exact ih z' y s' R
      rw [if_neg d6]
      by_cases d7 : xs (6 * k) &&& 31 = 7
      · obtain ⟨v, z', s', A, B, R⟩ := c_set H (xs (6 * k + 1)) (xs (6 * k + 2))
        rw [if_pos d7, e1, rd_nI rfl i1 hn, e2, rd_nI rfl i2 hn, A, bd2_s, rd_nI rfl i1 hn, rd_nI rfl i2 hn, B, bd2_s, if_pos rfl, stp_n, e6]
        exact ih z' y s' R
      rw [if_neg d7]
      by_cases d8 : xs (6 * k) &&& 31 = 8
      · obtain ⟨v, z', s', A, B, R⟩ := c_lift H (xs (6 * k + 1)) (xs (6 * k + 2))
        rw [if_pos d8, e1, rd_nI rfl i1 hn, e2, rd_nI rfl i2 hn, A, bd2_s, rd_nI rfl i1 hn, rd_nI rfl i2 hn, B, bd2_s, if_pos rfl, stp_n, e6]
        exact ih z' y s' R
      rw [if_neg d8]
      by_cases d9 : xs (6 * k) &&& 31 = 9
      · obtain ⟨v, z', s', A, B, R⟩ := c_ends H
        rw [if_pos d9, A, bd2_s, B, bd2_s, if_pos rfl, stp_n, e6]
        exact ih z' y s' R
      rw [if_neg d9]
      by_cases d10 : xs (6 * k) &&& 31 = 10
      · obtain ⟨v, z', s', A, B, R⟩ := c_rides H (xs (6 * k + 1)) (xs (6 * k + 2))
        rw [if_pos d10, e1, rd_nI rfl i1 hn, e2, rd_nI rfl i2 hn, A, bd2_s, rd_nI rfl i1 hn, rd_nI rfl i2 hn, B, bd2_s, if_pos rfl, stp_n, e6]
        exact ih z' y s' R
      rw [if_neg d10]
      by_cases d11 : xs (6 * k) &&& 31 = 11
      · obtain ⟨v, z', s', A, B, R⟩ := c_full H (xs (6 * k + 1))
        rw [if_pos d11, e1, rd_nI rfl i1 hn, A, bd2_s, rd_nI rfl i1 hn, B, bd2_s, if_pos rfl, stp_n, e6]
        exact ih z' y s' R
      rw [if_neg d11]
      by_cases d12 : xs (6 * k) &&& 31 = 12
      · obtain ⟨v, z', s', A, B, R⟩ := c_arrived H (xs (6 * k + 1))
        rw [if_pos d12, e1, rd_nI rfl i1 hn, A, bd2_s, rd_nI rfl i1 hn, B, bd2_s, if_pos rfl, stp_n, e6]
        exact ih z' y s' R
      rw [if_neg d12]
      by_cases d13 : xs (6 * k) &&& 31 = 13
      · obtain ⟨v, z', s', A, B, R⟩ := c_knows H (xs (6 * k + 1)) (xs (6 * k + 2))
        rw [if_pos d13, e1, rd_nI rfl i1 hn, e2, rd_nI rfl i2 hn, A, bd2_s, rd_nI rfl i1 hn, rd_nI rfl i2 hn, B, bd2_s, if_pos rfl, stp_n, e6]
        exact ih z' y s' R
      rw [if_neg d13]
      by_cases d14 : xs (6 * k) &&& 31 = 14
      · obtain ⟨v, z', s', A, B, R⟩ := c_more H (xs (6 * k + 1))
        rw [if_pos d14, e1, rd_nI rfl i1 hn, A, bd2_s, rd_nI rfl i1 hn, B, bd2_s, if_pos rfl, stp_n, e6]
        exact ih z' y s' R
      rw [if_neg d14]
      by_cases d15 : xs (6 * k) &&& 31 = 15
      · obtain ⟨v, z', y', s', A, B, R⟩ := c_leave H (xs (6 * k + 1)) (xs (6 * k + 2)) (xs (6 * k + 3))
        rw [if_pos d15, e1, rd_nI rfl i1 hn, e2, rd_nI rfl i2 hn, e3, rd_nI rfl i3 hn, A, bd3_s, rd_nI rfl i1 hn, rd_nI rfl i2 hn, rd_nI rfl i3 hn, B, bd2_s, if_pos rfl, stp_n, e6]
        exact ih z' y' s' R
      rw [if_neg d15]
      by_cases d16 : xs (6 * k) &&& 31 = 16
      · obtain ⟨v, z', s', A, B, R⟩ := c_seen H (xs (6 * k + 1)) (xs (6 * k + 2))
        rw [if_pos d16, e1, rd_nI rfl i1 hn, e2, rd_nI rfl i2 hn, A, bd2_s, rd_nI rfl i1 hn, rd_nI rfl i2 hn, B, bd2_s, if_pos rfl, stp_n, e6]
        exact ih z' y s' R
      rw [if_neg d16]
      by_cases d17 : xs (6 * k) &&& 31 = 17
      · obtain ⟨v, z', s', A, B, R⟩ := c_forget H
        rw [if_pos d17, A, bd2_s, B, bd2_s, if_pos rfl, stp_n, e6]
        exact ih z' y s' R
      rw [if_neg d17]
      by_cases d18 : xs (6 * k) &&& 31 = 18
      · obtain ⟨v, z', s', A, B, R⟩ := c_read H (xs (6 * k + 1))
        rw [if_pos d18, e1, rd_nI rfl i1 hn, A, bd2_s, rd_nI rfl i1 hn, B, bd2_s, if_pos rfl, stp_n, e6]
        exact ih z' y s' R
      rw [if_neg d18]
      by_cases d19 : xs (6 * k) &&& 31 = 19
      · obtain ⟨v, z', s', A, B, R⟩ := c_never H
        rw [if_pos d19, A, bd2_s, B, bd2_s, if_pos rfl, stp_n, e6]
        exact ih z' y s' R
      rw [if_neg d19]
      by_cases d20 : xs (6 * k) &&& 31 = 20
      · obtain ⟨v, z', s', A, B, R⟩ := c_who H (xs (6 * k + 1))
        rw [if_pos d20, e1, rd_nI rfl i1 hn, A, bd2_s, rd_nI rfl i1 hn, B, bd2_s, if_pos rfl, stp_n, e6]
        exact ih z' y s' R
      rw [if_neg d20]
      by_cases d21 : xs (6 * k) &&& 31 = 21
      · obtain ⟨v, z', s', A, B, R⟩ := c_weigh H
        rw [if_pos d21, A, bd2_s, B, bd2_s, if_pos rfl, stp_n, e6]
        exact ih z' y s' R
      rw [if_neg d21]
      by_cases d22 : xs (6 * k) &&& 31 = 22
      · obtain ⟨v, z', y', s', A, B, R⟩ := c_maybe H (xs (6 * k + 1)) (xs (6 * k + 2)) (xs (6 * k + 3)) (xs (6 * k + 4))
        rw [if_pos d22, e1, rd_nI rfl i1 hn, e2, rd_nI rfl i2 hn, e3, rd_nI rfl i3 hn, e4, rd_nI rfl i4 hn, A, bd3_s, rd_nI rfl i1 hn, rd_nI rfl i2 hn, rd_nI rfl i3 hn, rd_nI rfl i4 hn, B, bd2_s, if_pos ((lg_cmp_eq v v).mpr rfl), stp_n, e6]
        exact ih z' y' s' R
      rw [if_neg d22]
      by_cases d23 : xs (6 * k) &&& 31 = 23
      · obtain ⟨v, z', s', A, B, R⟩ := c_day H (xs (6 * k + 1)) (xs (6 * k + 2)) (xs (6 * k + 3))
        rw [if_pos d23, e1, rd_nI rfl i1 hn, e2, rd_nI rfl i2 hn, e3, rd_nI rfl i3 hn, A, bd2_s, rd_nI rfl i1 hn, rd_nI rfl i2 hn, rd_nI rfl i3 hn, B, bd2_s, if_pos rfl, stp_n, e6]
        exact ih z' y s' R
      rw [if_neg d23]
      by_cases d24 : xs (6 * k) &&& 31 = 24
      · obtain ⟨v, z', s', A, B, R⟩ := c_sheet H (xs (6 * k + 1)) (xs (6 * k + 2)) (xs (6 * k + 3))
        rw [if_pos d24, e1, rd_nI rfl i1 hn, e2, rd_nI rfl i2 hn, e3, rd_nI rfl i3 hn, A, bd2_s, rd_nI rfl i1 hn, rd_nI rfl i2 hn, rd_nI rfl i3 hn, B, bd2_s, if_pos rfl, stp_n, e6]
        exact ih z' y s' R
      rw [if_neg d24]
      by_cases d25 : xs (6 * k) &&& 31 = 25
      · obtain ⟨v, z', s', A, B, R⟩ := c_lose H (xs (6 * k + 1))
        rw [if_pos d25, e1, rd_nI rfl i1 hn, A, bd2_s, rd_nI rfl i1 hn, B, bd2_s, if_pos rfl, stp_n, e6]
        exact ih z' y s' R
      rw [if_neg d25]
      by_cases d26 : xs (6 * k) &&& 31 = 26
      · obtain ⟨v, z', s', A, B, R⟩ := c_put H (xs (6 * k + 1)) (xs (6 * k + 2)) (xs (6 * k + 3)) (xs (6 * k + 4))
        rw [if_pos d26, e1, rd_nI rfl i1 hn, e2, rd_nI rfl i2 hn, e3, rd_nI rfl i3 hn, e4, rd_nI rfl i4 hn, A, bd2_s, rd_nI rfl i1 hn, rd_nI rfl i2 hn, rd_nI rfl i3 hn, rd_nI rfl i4 hn, B, bd2_s, if_pos rfl, stp_n, e6]
        exact ih z' y s' R
      rw [if_neg d26]
      by_cases d27 : xs (6 * k) &&& 31 = 27
      · obtain ⟨v, z', s', A, B, R⟩ := c_get H (xs (6 * k + 1)) (xs (6 * k + 2)) (xs (6 * k + 3))
        rw [if_pos d27, e1, rd_nI rfl i1 hn, e2, rd_nI rfl i2 hn, e3, rd_nI rfl i3 hn, A, bd2_s, rd_nI rfl i1 hn, rd_nI rfl i2 hn, rd_nI rfl i3 hn, B, bd2_s, if_pos rfl, stp_n, e6]
        exact ih z' y s' R
      rw [if_neg d27]
      by_cases d28 : xs (6 * k) &&& 31 = 28
      · obtain ⟨v, z', s', A, B, R⟩ := c_copy H (xs (6 * k + 1)) (xs (6 * k + 2)) (xs (6 * k + 3)) (xs (6 * k + 4)) (xs (6 * k + 5))
        rw [if_pos d28, e1, rd_nI rfl i1 hn, e2, rd_nI rfl i2 hn, e3, rd_nI rfl i3 hn, e4, rd_nI rfl i4 hn, e5, rd_nI rfl i5 hn, A, bd2_s, rd_nI rfl i1 hn, rd_nI rfl i2 hn, rd_nI rfl i3 hn, rd_nI rfl i4 hn, rd_nI rfl i5 hn, B, bd2_s, if_pos rfl, stp_n, e6]
        exact ih z' y s' R
      rw [if_neg d28]
      by_cases d29 : xs (6 * k) &&& 31 = 29
      · obtain ⟨v, z', s', A, B, R⟩ := c_write H (xs (6 * k + 1)) (xs (6 * k + 2))
        rw [if_pos d29, e1, rd_nI rfl i1 hn, e2, rd_nI rfl i2 hn, A, bd2_s, rd_nI rfl i1 hn, rd_nI rfl i2 hn, B, bd2_s, if_pos rfl, stp_n, e6]
        exact ih z' y s' R
      rw [if_neg d29]
      by_cases d30 : xs (6 * k) &&& 31 = 30
      · obtain ⟨v, z', s', A, B, R⟩ := c_count H (xs (6 * k + 1))
        rw [if_pos d30, e1, rd_nI rfl i1 hn, A, bd2_s, rd_nI rfl i1 hn, B, bd2_s, if_pos rfl, stp_n, e6]
        exact ih z' y s' R
      rw [if_neg d30]
      by_cases d31 : xs (6 * k) &&& 31 = 31
      · obtain ⟨v, z', y', s', A, B, R⟩ := c_digest H
        rw [if_pos d31, A, bd3_s, B, bd2_s, if_pos ((lg_cmp_eq v v).mpr rfl), stp_n, e6]
        exact ih z' y' s' R
      rw [if_neg d31]
      rw [stp_n, e6]
      exact ih z y s H
theorem hpure (nL : Nat) (xs : Nat → Int32) (hL : nL ≤ 3072) : fL_law_18 nL xs 600 0 iZ iY iX9 = some 1 := law_l hL 513 0 600 iZ iY iX9 (by omega) (by omega) Rel_init
