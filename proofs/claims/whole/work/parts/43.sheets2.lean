/-! ===== copy ===== -/
theorem sub_lt {n i c : Nat} (hn : n ≤ 60) (hi : i < 2 ^ 31) (hc : c < 2 ^ 31) : (nI n - nI i < nI c) ↔ n < i + c := by
  rw [Int32.lt_iff_toInt_lt, Int32.toInt_sub, nI_toInt hi, nI_toInt hc, nI_toInt (show n < 2 ^ 31 by omega), Int.bmod_eq_of_le (by omega) (by omega)]
  omega
theorem lc_gt {i c n : Nat} (hi : i < 2 ^ 31) (hc : c < 2 ^ 31) (hn : n ≤ 60) : (0 < lg_cmp ((nI i).toInt64 + (nI c).toInt64) ((nI n).toInt64)) ↔ n < i + c := by
  rw [lg_cmp_gt, nI_l hi, nI_l hc, nI_l (show n < 2 ^ 31 by omega), lN_add, Int64.lt_iff_toInt_lt, lN_toInt (show n < 2 ^ 31 by omega), show (lN (i + c)).toInt = ((i + c : Nat) : Int) from lg_ofNat_toInt (by omega)]
  omega
theorem lc_le {i c n : Nat} (hi : i < 2 ^ 31) (hc : c < 2 ^ 31) (hn : n ≤ 60) : (lg_cmp ((nI i).toInt64 + (nI c).toInt64) ((nI n).toInt64) ≤ 0) ↔ i + c ≤ n := by
  rw [lg_cmp_le, nI_l hi, nI_l hc, nI_l (show n < 2 ^ 31 by omega), lN_add, Int64.le_iff_toInt_le, lN_toInt (show n < 2 ^ 31 by omega), show (lN (i + c)).toInt = ((i + c : Nat) : Int) from lg_ofNat_toInt (by omega)]
  omega
theorem ite_dup {α : Type} {c : Prop} [Decidable c] {X Y : α} : (if c then X else Y) = if c then (if c then X else Y) else Y := by by_cases h : c <;> simp [h]
def cpQ (z : Nat → St) (y : Nat → Lt) (x2 x4 x5 : Int32) (q r : Nat) : Option (Int32 × (Nat → St)) := if (z (4 + q) 0 0) = 0 then (if (z (4 + r) 0 0) = 0 then (if (z (4 + q) 0 1) = (z (4 + r) 0 1) then (bd1 (fX5_holds (z (4 + q)) x2 x5) (fun r14 => if r14 = 0 then (bd2 (fX8_find z y 2) (fun r18 z19 => some ((r18, z19)))) else (bd1 (fX5_holds (z (4 + r)) x4 x5) (fun r21 => if r21 = 0 then (bd2 (fX8_find z y 2) (fun r31 z32 => some ((r31, z32)))) else (asr (((¬ x2 < 0 ∧ ¬ x4 < 0) ∧ ¬ x5 < 0) ∧ ix x2 + ix x5 ≤ 60 ∧ ix x4 + ix x5 ≤ 60) (stp (va_up z (4 + r) (va_up (z (4 + r)) 4 (va_cpy (z (4 + q) 4) (z (4 + r) 4) (ix x2) (ix x4) (ix x5)))) (fun z30 => some ((1, z30))))))))) else (bd2 (fX8_find z y 4) (fun r34 z35 => some ((r34, z35))))) else (bd2 (fX8_find z y 1) (fun r10 z11 => some ((r10, z11))))) else (bd2 (fX8_find z y 1) (fun r10 z11 => some ((r10, z11))))
theorem f_copy_cl (z : Nat → St) (y : Nat → Lt) {o p : Nat} (ho : o ≤ 3) (hp : p ≤ 3) (x2 x4 x5 : Int32) : fX8_copy z y (nI o) x2 (nI p) x4 x5 = cpQ z y x2 x4 x5 o p := by
  unfold fX8_copy
  rw [noSheet_in ho, bd1_s, if_pos z00, noSheet_in hp, bd1_s, if_pos z00]
  refine sel4 (fun q => cpQ z y x2 x4 x5 q p) ho ?_ ?_ ?_ ?_
  · exact sel4 (fun r => cpQ z y x2 x4 x5 0 r) hp ite_dup rfl rfl rfl
  · exact sel4 (fun r => cpQ z y x2 x4 x5 1 r) hp rfl ite_dup rfl rfl
  · exact sel4 (fun r => cpQ z y x2 x4 x5 2 r) hp rfl rfl ite_dup rfl
  · exact sel4 (fun r => cpQ z y x2 x4 x5 3 r) hp rfl rfl rfl ite_dup
theorem f_copy_120 {o i p j c : Nat} (ho : o < 4) (hp : p < 4) (hi : i + c ≤ 60) (hj : j + c ≤ 60) : ∀ (m k N : Nat) (u : St), m + k = c → m < N → ∃ u', fX9_copy_120 N (nI o) (nI i) (nI p) (nI j) (nI c) (nI k) u = fX9_copy_157 300 (nI p) (nI j) (nI c) 0 u' ∧ (∀ q, q ≠ 43 → u' q = u q) ∧ (∀ q, q < k → u' 43 q = u 43 q) ∧ ∀ q, k ≤ q → q < c → u' 43 q = u 42 (60 * o + i + q)
  | 0, k, N, u, e, hN => by
    obtain ⟨N, rfl⟩ : ∃ M, N = M + 1 := ⟨N - 1, by omega⟩
    refine ⟨u, ?_, fun _ _ => rfl, fun _ _ => rfl, fun q h1 h2 => absurd h2 (by omega)⟩
    rw [fX9_copy_120, if_pos (by rw [nI_le' (by omega) (by omega)]; omega)]
  | m + 1, k, N, u, e, hN => by
    obtain ⟨N, rfl⟩ : ∃ M, N = M + 1 := ⟨N - 1, by omega⟩
    rw [fX9_copy_120, if_neg (by rw [nI_le' (by omega) (by omega)]; omega), show (60 : Int32) = nI 60 from rfl, nI_mul, nI_add, nI_add, rd_nI rfl (show 60 * o + i + k < 240 by omega) (by decide), wr_nI rfl (show k < 60 by omega) (by decide), stp_n, nI_1]
    obtain ⟨u', a1, a2, a3, a4⟩ := f_copy_120 (o := o) (i := i) (p := p) (j := j) ho hp hi hj m (k + 1) N (sS u 43 k (u 42 (60 * o + i + k))) (by omega) (by omega)
    refine ⟨u', a1, fun q hq => by rw [a2 q hq, sS_o hq], fun q hq => ?_, fun q h1 h2 => ?_⟩
    · rw [a3 q (by omega), sS_s, upd_o (by omega)]
    · by_cases d : q = k
      · rw [d, a3 k (by omega), sS_s, upd_s]
      · rw [a4 q (by omega) h2, sS_o (by decide)]
theorem f_copy_157 {p j c : Nat} (hp : p < 4) (hj : j + c ≤ 60) : ∀ (m k N : Nat) (u : St), m + k = c → m < N → ∃ u', fX9_copy_157 N (nI p) (nI j) (nI c) (nI k) u = some (1, u') ∧ (∀ q, q ≠ 42 → u' q = u q) ∧ ∀ q, u' 42 q = if 60 * p + j + k ≤ q ∧ q < 60 * p + j + c then u 43 (q - (60 * p + j)) else u 42 q
  | 0, k, N, u, e, hN => by
    obtain ⟨N, rfl⟩ : ∃ M, N = M + 1 := ⟨N - 1, by omega⟩
    refine ⟨u, ?_, fun _ _ => rfl, fun q => by rw [if_neg (by omega)]⟩
    rw [fX9_copy_157, if_pos (by rw [nI_le' (by omega) (by omega)]; omega)]
  | m + 1, k, N, u, e, hN => by
    obtain ⟨N, rfl⟩ : ∃ M, N = M + 1 := ⟨N - 1, by omega⟩
    rw [fX9_copy_157, if_neg (by rw [nI_le' (by omega) (by omega)]; omega), rd_nI rfl (show k < 60 by omega) (by decide), show (60 : Int32) = nI 60 from rfl, nI_mul, nI_add, nI_add, wr_nI rfl (show 60 * p + j + k < 240 by omega) (by decide), stp_n, nI_1]
    obtain ⟨u', a1, a2, a3⟩ := f_copy_157 (p := p) (j := j) hp hj m (k + 1) N (sS u 42 (60 * p + j + k) (u 43 k)) (by omega) (by omega)
    refine ⟨u', a1, fun q hq => by rw [a2 q hq, sS_o hq], fun q => ?_⟩
    rw [a3 q, sS_o (by decide), sS_s]
    by_cases d : q = 60 * p + j + k
    · rw [d, if_neg (by omega), if_pos (by omega), upd_s, show 60 * p + j + k - (60 * p + j) = k by omega]
    · rw [upd_o d]
      have : (60 * p + j + (k + 1) ≤ q ∧ q < 60 * p + j + c) = (60 * p + j + k ≤ q ∧ q < 60 * p + j + c) := by apply propext; omega
      simp only [this]
theorem c_copy {z : Nat → St} {y : Nat → Lt} {s : St} (H : Rel z y s) (x1 x2 x3 x4 x5 : Int32) : Ans (fX8_copy z y x1 x2 x3 x4 x5) (fX9_copy s x1 x2 x3 x4 x5) y := by
  rcases rng x1 3 (by decide) with h | ⟨o, ho, rfl⟩
  · unfold fX8_copy fX9_copy
    rw [noSheet_out h, isSheet_out h, bd1_s, bd1_s, if_neg n10, if_pos z00]
    exact ⟨_, _, _, rfl, rfl, H⟩
  rcases rng x3 3 (by decide) with h | ⟨p, hp, rfl⟩
  · unfold fX8_copy fX9_copy
    rw [noSheet_in ho, isSheet_in ho, bd1_s, bd1_s, if_pos z00, if_neg n10, noSheet_out h, isSheet_out h, bd1_s, bd1_s, if_neg n10, if_pos z00]
    exact ⟨_, _, _, rfl, rfl, H⟩
  rw [f_copy_cl z y ho hp]
  unfold cpQ fX9_copy
  rw [isSheet_in ho, bd1_s, if_neg n10, isSheet_in hp, bd1_s, if_neg n10, rd_nI rfl (show o < 4 by omega) (by decide)]
  have h1 := H.2.2.2.1 o (by omega)
  have h2 := H.2.2.2.1 p (by omega)
  rcases Sh1_there h1 with ⟨a, b⟩ | ⟨a, b⟩
  · rw [if_pos a, b, if_neg n10, rd_nI rfl (show p < 4 by omega) (by decide)]
    rcases Sh1_there h2 with ⟨a2, b2⟩ | ⟨a2, b2⟩
    · rw [if_pos a2, b2, if_neg n10, rd_nI rfl (show o < 4 by omega) (by decide), rd_nI rfl (show p < 4 by omega) (by decide), h1.2.1, h2.2.1]
      by_cases cf : s 40 o = s 40 p
      · rw [if_pos cf, if_pos cf]
        obtain ⟨n, n1, n2, n3⟩ := h1.2.2.1
        obtain ⟨m, m1, m2, m3⟩ := h2.2.2.1
        unfold fX5_holds
        rw [n3, m3]
        by_cases d2 : x2 < 0
        · rw [if_pos d2, if_pos d2, bd1_s, if_pos z00]
          exact Ans_find H 2
        · rw [if_neg d2, if_neg d2]
          obtain ⟨i, i1, rfl⟩ := nI_of d2
          by_cases d4 : x4 < 0
          · rw [if_pos d4, if_pos d4]
            by_cases d5 : x5 < 0
            · rw [if_pos d5, bd1_s, if_pos z00]
              exact Ans_find H 2
            · rw [if_neg d5]
              by_cases d6 : nI n - nI i < x5
              · rw [if_pos d6, bd1_s, if_pos z00]
                exact Ans_find H 2
              · rw [if_neg d6, bd1_s, if_neg n10, bd1_s, if_pos z00]
                exact Ans_find H 2
          · rw [if_neg d4, if_neg d4]
            obtain ⟨j, j1, rfl⟩ := nI_of d4
            by_cases d5 : x5 < 0
            · rw [if_pos d5, if_pos d5, if_pos d5, bd1_s, if_pos z00]
              exact Ans_find H 2
            · rw [if_neg d5, if_neg d5, if_neg d5]
              obtain ⟨c, c1, rfl⟩ := nI_of d5
              rw [rd_nI rfl (show o < 4 by omega) (by decide), n2]
              by_cases g1 : n < i + c
              · rw [if_pos ((sub_lt n1 i1 c1).mpr g1), bd1_s, if_pos z00, if_pos ((lc_gt i1 c1 n1).mpr g1)]
                exact Ans_find H 2
              · rw [if_neg (fun w => g1 ((sub_lt n1 i1 c1).mp w)), bd1_s, if_neg n10, if_neg (fun w => g1 ((lc_gt i1 c1 n1).mp w)), rd_nI rfl (show p < 4 by omega) (by decide), m2]
                by_cases g2 : m < j + c
                · rw [if_pos ((sub_lt m1 j1 c1).mpr g2), bd1_s, if_pos z00, if_neg (fun w => by have := (lc_le j1 c1 m1).mp w; omega)]
                  exact Ans_find H 2
                · rw [if_neg (fun w => g2 ((sub_lt m1 j1 c1).mp w)), bd1_s, if_neg n10, if_pos ((lc_le j1 c1 m1).mpr (by omega)), ix_nI i1, ix_nI j1, ix_nI c1]
                  unfold asr
                  rw [if_pos ⟨⟨⟨d2, d4⟩, d5⟩, by omega, by omega⟩, stp_n]
                  obtain ⟨u, e1, e2, e3, e4⟩ := f_copy_120 (o := o) (i := i) (p := p) (j := j) (c := c) (by omega) (by omega) (by omega) (by omega) c 0 300 s (by omega) (by omega)
                  obtain ⟨u', f1, f2, f3⟩ := f_copy_157 (p := p) (j := j) (c := c) (by omega) (by omega) c 0 300 u (by omega) (by omega)
                  refine ⟨1, _, u', rfl, (show fX9_copy_120 300 (nI o) (nI i) (nI p) (nI j) (nI c) (nI 0) s = _ from e1).trans f1, Rel_sheet H (by omega) _ _ ⟨?_, ?_, ⟨m, m1, ?_, m3⟩, fun k hk => ?_⟩ (fun q hq hne => Sh1_same (H.2.2.2.1 q hq) ?_ ?_ ?_ (fun k hk => ?_)) (fun c _ _ _ c4 c5 => by rw [f2 c c4, e2 c c5])⟩
                  · rw [f2 39 (by decide), e2 39 (by decide)]; exact h2.1
                  · rw [f2 40 (by decide), e2 40 (by decide)]; exact h2.2.1
                  · rw [f2 41 (by decide), e2 41 (by decide)]; exact m2
                  · rw [up_s, f3, e2 42 (by decide)]
                    unfold va_cpy
                    by_cases dk : j ≤ k ∧ k < j + c
                    · rw [if_pos dk, if_pos (by omega), e4 _ (by omega) (by omega), h1.2.2.2 _ (by omega)]
                      congr 1; omega
                    · rw [if_neg dk, if_neg (by omega)]
                      exact h2.2.2.2 k hk
                  · rw [f2 39 (by decide), e2 39 (by decide)]
                  · rw [f2 40 (by decide), e2 40 (by decide)]
                  · rw [f2 41 (by decide), e2 41 (by decide)]
                  · rw [f3, if_neg (by omega), e2 42 (by decide)]
      · rw [if_neg cf, if_neg cf]
        exact Ans_find H 4
    · rw [a2, if_neg n10, b2, if_pos z00]
      exact Ans_find H 1
  · rw [a, if_neg n10, b, if_pos z00]
    exact Ans_find H 1
/-! ===== read, write ===== -/
def rdU (o : Nat) : Nat → Int32 → Int32 → (Nat → St) → Option (Int32 × (Nat → St))
  | 0, _, _, _ => none
  | n + 1, a, b, z => if (z o 0 2) ≤ (b + 1) then (some ((a, z))) else (chk b 60 (stp (z o 4 (ix b)) (fun v7 => chk (b + 1) 60 (stp (z o 4 (ix (b + 1))) (fun v9 => bd1 (fX6_allowed (z 13) v7 v9) (fun r11 => if r11 = 0 then (some ((a, z))) else (bd2 (fX6_add (z 13) v7 v9) (fun r15 v16 => stp (va_up z 13 v16) (fun z18 => if r15 = 0 then (some ((a, z18))) else (stp ((a + 1 : Int32)) (fun w21 => stp ((b + 2 : Int32)) (fun w22 => rdU o n w21 w22 z18))))))))))))
theorem rd_0 (y : Nat → Lt) : ∀ N a b z, fX8_read_35 y N a b z = rdU 4 N a b z
  | 0, a, b, z => rfl
  | N + 1, a, b, z => by simp only [fX8_read_35, rdU, rd_0 y N]
theorem rd_1 (y : Nat → Lt) : ∀ N a b z, fX8_read_35_1 y N a b z = rdU 5 N a b z
  | 0, a, b, z => rfl
  | N + 1, a, b, z => by simp only [fX8_read_35_1, rdU, rd_1 y N]
theorem rd_2 (y : Nat → Lt) : ∀ N a b z, fX8_read_35_2 y N a b z = rdU 6 N a b z
  | 0, a, b, z => rfl
  | N + 1, a, b, z => by simp only [fX8_read_35_2, rdU, rd_2 y N]
theorem rd_3 (y : Nat → Lt) : ∀ N a b z, fX8_read_35_3 y N a b z = rdU 7 N a b z
  | 0, a, b, z => rfl
  | N + 1, a, b, z => by simp only [fX8_read_35_3, rdU, rd_3 y N]
theorem f_read_l {y : Nat → Lt} {o : Nat} (ho : o < 4) : ∀ (m c N : Nat) (z : Nat → St) (s : St), c + m = 31 → m < N → Rel z y s → Ans (rdU (4 + o) N (nI c) (nI (2 * c)) z) (fX9_read_27 N (nI o) (nI c) s) y
  | 0, c, N, z, s, e, hN, H => by
    obtain ⟨N, rfl⟩ : ∃ M, N = M + 1 := ⟨N - 1, by omega⟩
    obtain ⟨n, n1, n2, n3⟩ := (H.2.2.2.1 o ho).2.2.1
    rw [rdU, fX9_read_27, rd_nI rfl ho (by decide), n2, n3, show (2 : Int32) = nI 2 from rfl, nI_mul, nI_1, if_pos (by rw [nI_le' (by omega) (by omega)]; omega), if_pos (by rw [nI_le' (by omega) (by omega)]; omega)]
    exact ⟨_, _, _, rfl, rfl, H⟩
  | m + 1, c, N, z, s, e, hN, H => by
    obtain ⟨N, rfl⟩ : ∃ M, N = M + 1 := ⟨N - 1, by omega⟩
    have h1 := H.2.2.2.1 o ho
    obtain ⟨n, n1, n2, n3⟩ := h1.2.2.1
    rw [rdU, fX9_read_27, rd_nI rfl ho (by decide), n2, n3, show (2 : Int32) = nI 2 from rfl, nI_mul, nI_1]
    by_cases d : n ≤ 2 * c + 1
    · have d' : nI n ≤ nI (2 * c + 1) := nI_le d (by omega)
      rw [if_pos d', if_pos d']
      exact ⟨_, _, _, rfl, rfl, H⟩
    · have d' : ¬ nI n ≤ nI (2 * c + 1) := nI_ge (by omega) (by omega)
      rw [if_neg d', if_neg d', rd_nI rfl (show 2 * c < 60 by omega) (by decide), rd_nI rfl (show 2 * c + 1 < 60 by omega) (by decide), show (60 : Int32) = nI 60 from rfl, nI_mul, show nI (60 * o) + nI (2 * c) = nI (60 * o + 2 * c) from nI_add _ _, rd_nI rfl (show 60 * o + 2 * c < 240 by omega) (by decide), show nI (60 * o + 2 * c) + 1 = nI (60 * o + 2 * c + 1) from nI_1 _, rd_nI rfl (show 60 * o + 2 * c + 1 < 240 by omega) (by decide), h1.2.2.2 (2 * c) (by omega), h1.2.2.2 (2 * c + 1) (by omega), show 60 * o + (2 * c + 1) = 60 * o + 2 * c + 1 by omega]
      rcases seen_cs H (s 42 (60 * o + 2 * c)) (s 42 (60 * o + 2 * c + 1)) with ⟨a, b⟩ | ⟨a, b, g⟩ | ⟨v', s', q, hq, a, b, g, k, l, -⟩
      · rw [a, b, bd1_s, bd2_s, if_pos z00, if_pos (show (-2 : Int32) ≤ 0 by decide)]
        exact ⟨_, _, _, rfl, rfl, H⟩
      · rw [a, b, g, bd1_s, bd2_s, bd2_s, if_neg n10, stp_n, if_pos z00, up_self, if_pos (show (-4 : Int32) ≤ 0 by decide)]
        exact ⟨_, _, _, rfl, rfl, H⟩
      · rw [a, b, k, bd1_s, bd2_s, bd2_s, if_neg n10, stp_n, if_neg n10, stp_n, stp_n, if_neg (nI_nle (by omega) (by omega)), stp_n, nI_1, nI_add, show 2 * c + 2 = 2 * (c + 1) by omega]
        exact f_read_l ho m (c + 1) N _ s' (by omega) (by omega) l
theorem c_read {z : Nat → St} {y : Nat → Lt} {s : St} (H : Rel z y s) (x : Int32) : Ans (fX8_read z y x) (fX9_read s x) y := by
  unfold fX8_read fX9_read
  rcases rng x 3 (by decide) with h | ⟨o, ho, rfl⟩
  · rw [noSheet_out h, isSheet_out h, bd1_s, bd1_s, if_neg n10, if_pos z00]
    exact ⟨_, _, _, rfl, rfl, H⟩
  · rw [noSheet_in ho, isSheet_in ho, bd1_s, bd1_s, if_pos z00, if_neg n10, rd_nI rfl (show o < 4 by omega) (by decide), rd_0, rd_1, rd_2, rd_3]
    rw [sel4 (fun q => if z (4 + q) 0 0 = 0 then rdU (4 + q) 300 0 0 z else bd2 (fX8_find z y 1) (fun r z => some (r, z))) ho rfl rfl rfl rfl]
    rcases Sh1_there (H.2.2.2.1 o (by omega)) with ⟨a, b⟩ | ⟨a, b⟩
    · rw [if_pos a, b, if_neg n10]
      exact f_read_l (show o < 4 by omega) 31 0 300 z s (by omega) (by omega) H
    · rw [a, if_neg n10, b, if_pos z00]
      exact Ans_find H 1
def wrU (o : Nat) : Nat → Int32 → Int32 → (Nat → St) → Option (Int32 × (Nat → St))
  | 0, _, _, _ => none
  | n + 1, a, b, z => if (z o 0 2) ≤ b then (some ((z o 0 2, z))) else (bd1 (fX4_tell (z 8) (z 9) b a) (fun r11 => bd1 (fX5_store (z o) b r11) (fun e14 => stp (va_up z o e14) (fun z16 => stp ((b + 1 : Int32)) (fun w18 => wrU o n a w18 z16)))))
theorem wr_0 (y : Nat → Lt) : ∀ N a b z, fX8_write_46 y N a b z = wrU 4 N a b z
  | 0, a, b, z => rfl
  | N + 1, a, b, z => by simp only [fX8_write_46, wrU, wr_0 y N]
theorem wr_1 (y : Nat → Lt) : ∀ N a b z, fX8_write_46_1 y N a b z = wrU 5 N a b z
  | 0, a, b, z => rfl
  | N + 1, a, b, z => by simp only [fX8_write_46_1, wrU, wr_1 y N]
theorem wr_2 (y : Nat → Lt) : ∀ N a b z, fX8_write_46_2 y N a b z = wrU 6 N a b z
  | 0, a, b, z => rfl
  | N + 1, a, b, z => by simp only [fX8_write_46_2, wrU, wr_2 y N]
theorem wr_3 (y : Nat → Lt) : ∀ N a b z, fX8_write_46_3 y N a b z = wrU 7 N a b z
  | 0, a, b, z => rfl
  | N + 1, a, b, z => by simp only [fX8_write_46_3, wrU, wr_3 y N]
theorem f_write_l {y : Nat → Lt} {o n : Nat} (ho : o < 4) (hn : n ≤ 60) (x : Int32) : ∀ (m i N : Nat) (z : Nat → St) (s : St), i + m = n → m < N → z (4 + o) 0 2 = nI n → s 41 o = nI n → Rel z y s → Fsh z y s → Ans (wrU (4 + o) N x (nI i) z) (fX9_write_36 N x (nI o) (nI i) s) y
  | 0, i, N, z, s, e, hN, n3, n2, H, F => by
    obtain ⟨N, rfl⟩ : ∃ M, N = M + 1 := ⟨N - 1, by omega⟩
    have d' : nI n ≤ nI i := nI_le (by omega) (by omega)
    rw [wrU, fX9_write_36, rd_nI rfl ho (by decide), n2, n3, if_pos d', if_pos d', show n = i by omega]
    exact ⟨_, _, _, rfl, rfl, H⟩
  | m + 1, i, N, z, s, e, hN, n3, n2, H, F => by
    obtain ⟨N, rfl⟩ : ∃ M, N = M + 1 := ⟨N - 1, by omega⟩
    have d' : ¬ nI n ≤ nI i := nI_ge (by omega) (by omega)
    obtain ⟨t, hf, j, w, fl, a4, a5, a6, a7⟩ := told_run H F
    obtain ⟨g1, g2, g3⟩ := Rid_16 a5
    have Ht := Rel_d a6 H
    rw [wrU, fX9_write_36, rd_nI rfl ho (by decide), n2, n3, if_neg d', if_neg d', tell_of a5 (by omega), bd1_s, f_liftOf a4 g1 g2 (by omega), bd2_s, f_store (by omega) (by rw [n3]; exact nI_lt (by omega) (by omega)), bd1_s, f_keep ho (by omega), bd1_s, stp_n, stp_n, stp_n, nI_1]
    refine f_write_l ho hn x m (i + 1) N _ _ (by omega) (by omega) (by rw [up_s]; exact n3) ?_ (Rel_item Ht ho (by omega) _) ?_
    · show t 41 o = nI n
      rw [a6.2.1.2.2.1]; exact n2
    · exact Fsh_up _ (by omega) (by omega) (by omega) (by omega) (Fsh_x (s := t) ⟨rfl, rfl, rfl, rfl⟩ (Fsh_x a6.tx F))
theorem c_write {z : Nat → St} {y : Nat → Lt} {s : St} (H : Rel z y s) (x1 x2 : Int32) : Ans (fX8_write z y x1 x2) (fX9_write s x1 x2) y := by
  unfold fX8_write fX9_write
  rcases rng x1 3 (by decide) with h | ⟨k, hk, rfl⟩
  · rw [show fX9_in x1 0 3 = some 0 from in_out h, bd1_s, if_pos z00]
    refine ⟨-2, z, s, ?_, rfl, H⟩
    by_cases c : x1 < 0
    · rw [if_pos c]
    · rw [if_neg c, if_pos (Int32.not_lt.mp (show ¬ x1 < 4 from lt_suc (N := 3) (by decide) (h.resolve_left c)))]
  · rw [in_in (b := 3) hk (by decide) rfl, bd1_s, if_neg n10, if_neg (nI_pos (by omega)), if_neg (show ¬ 4 ≤ nI k from nI_ge (b := 4) (by omega) (by decide))]
    rcases rng x2 3 (by decide) with h | ⟨o, ho, rfl⟩
    · rw [noSheet_out h, isSheet_out h, bd1_s, bd1_s, if_neg n10, if_pos z00]
      exact ⟨_, _, _, rfl, rfl, H⟩
    · obtain ⟨z', a1, a2, a3, -⟩ := f_freshen H
      rw [noSheet_in ho, isSheet_in ho, bd1_s, bd1_s, if_pos z00, if_neg n10, rd_nI rfl (show o < 4 by omega) (by decide), a1, bd1_s, bd1_s, bd1_s, bd1_s, wr_0, wr_1, wr_2, wr_3]
      rw [sel4 (fun q => if z (4 + q) 0 0 = 0 then wrU (4 + q) 300 (nI k) 0 z' else bd2 (fX8_find z y 1) (fun r z => some (r, z))) ho rfl rfl rfl rfl]
      rcases Sh1_there (H.2.2.2.1 o (by omega)) with ⟨a, b⟩ | ⟨a, b⟩
      · obtain ⟨n, n1, n2, n3⟩ := (a2.2.2.2.1 o (by omega)).2.2.1
        rw [if_pos a, b, if_neg n10]
        exact f_write_l (show o < 4 by omega) n1 (nI k) n 0 300 z' s (by omega) (by omega) n3 n2 a2 a3
      · rw [a, if_neg n10, b, if_pos z00]
        exact Ans_find H 1
