/-! ===== leavers by chance ===== -/
def pw (x : Int32) (c : Nat) : Nat → Nat
  | 0 => 1
  | l + 1 => pw x c l * (if bt x l then c else 16 - c)
theorem pw_le (x : Int32) {c : Nat} (hc : c ≤ 16) : ∀ l, pw x c l ≤ 16 ^ l
  | 0 => Nat.le_refl _
  | l + 1 => by
    have ih := pw_le x hc l
    rw [pw, Nat.pow_succ]
    refine Nat.mul_le_mul ih ?_
    split <;> omega
theorem s16 {c : Nat} (hc : c ≤ 16) : ((16 : Int32) - nI c).toInt64 = lN (16 - c) := by
  rw [show (16 : Int32) = nI 16 from rfl, nI_sb hc, nI_l (by omega)]
theorem f_weightOf_5 {h r c0 : St} {cL : Lt} {nl c : Nat} (h3 : h 0 3 = nI nl) (h8 : nl ≤ 8) (hc : c ≤ 16) (x : Int32) : ∀ (m l N : Nat), m + l = nl → m < N → fX0_weightOf_5 h r c0 cL N x (nI c) (lN (pw x c l)) (nI l) = some (lN (pw x c nl))
  | 0, l, N, e, hN => by
    obtain ⟨N, rfl⟩ : ∃ M, N = M + 1 := ⟨N - 1, by omega⟩
    rw [fX0_weightOf_5, h3, if_pos (nI_le (by omega) (by omega)), show l = nl by omega]
  | m + 1, l, N, e, hN => by
    obtain ⟨N, rfl⟩ : ∃ M, N = M + 1 := ⟨N - 1, by omega⟩
    have ih := f_weightOf_5 (r := r) (c0 := c0) (cL := cL) h3 h8 hc x m (l + 1) N (by omega) (by omega)
    rw [pw] at ih
    rw [fX0_weightOf_5, h3, if_neg (nI_ge (by omega) (by omega)), f_has _ (show l < 32 by omega), bd1_s]
    cases d : bt x l
    · rw [d] at ih
      rw [if_pos bF, stp_n, stp_n, s16 hc, lN_mul, nI_1]
      exact ih
    · rw [d] at ih
      rw [if_neg bTn, stp_n, stp_n, nI_l (by omega), lN_mul, nI_1]
      exact ih
def sm (F : Nat → Bool) (c nl : Nat) : Nat → Nat
  | 0 => 0
  | m + 1 => sm F c nl m + (if F m then pw (nI m) c nl else 0)
theorem sm_le (F : Nat → Bool) {c : Nat} (hc : c ≤ 16) (nl : Nat) : ∀ m, sm F c nl m ≤ m * 16 ^ nl
  | 0 => by rw [Nat.zero_mul]; exact Nat.le_refl _
  | m + 1 => by
    have ih := sm_le F hc nl m
    have hp := pw_le (nI m) hc nl
    rw [sm, Nat.succ_mul]
    split <;> omega
theorem p2f : ∀ n : Fin 9, (1 : Int32) <<< (nI n.val &&& 31) = nI (2 ^ n.val) := by decide +kernel
theorem p4f : ∀ n : Fin 9, ((1 : Int64) <<< (((4 : Int32) * nI n.val : Int32).toInt64 &&& 63)) = lN (2 ^ (4 * n.val)) := by decide +kernel
theorem p2_256 {n : Nat} (h : n ≤ 8) : 2 ^ n ≤ 256 := Nat.pow_le_pow_right (n := 2) (by decide) h
theorem p16_32 {n : Nat} (h : n ≤ 8) : 16 ^ n ≤ 4294967296 := Nat.pow_le_pow_right (n := 16) (by decide) h
theorem sm_62 (F : Nat → Bool) {c nl m : Nat} (hc : c ≤ 16) (hn : nl ≤ 8) (hm : m ≤ 256) : sm F c nl m < 2 ^ 62 := by
  have h1 := sm_le F hc nl m
  have h2 := Nat.mul_le_mul hm (p16_32 hn)
  have h3 : m * 16 ^ nl ≤ m * 4294967296 := Nat.mul_le_mul (Nat.le_refl m) (p16_32 hn)
  omega
/-! when each arrives, as bytes -/
theorem lo_f : ∀ n : Fin 256, ∀ i : Fin 32, bt (nI n.val) i.val = true → i.val < 8 := by decide +kernel
theorem f_ra_59 {h s r : St} {S nr : Nat} (hr : h 0 2 = nI nr) (h8 : nr ≤ 8) (hS : S < 256) (aR : Nat → Int32) (hA : ∀ q, q < nr → fX4_arrivesBehind h r (nI q) = some (aR q) ∧ (aR q = -1 ∨ ∃ n, n ≤ 242 ∧ aR q = nI n)) (rc : Int32 → St → St → Lt → Option (St × St × Lt)) (C : St) (CL : Lt) : ∀ (m q N : Nat) (row : Int64), m + q = nr → m < N → (∀ k, k < 64 → bl row k = (decide (k / 8 < q) && bt (if aR (k / 8) = -1 then 255 else aR (k / 8)) (k % 8))) → ∃ v, fX0_rideAll_59 h rc N (nI S) row (nI q) r C CL = rc (nI (S + 1)) r C (tS CL 4 S v) ∧ ∀ q, q < nr → by8 v q = if aR q = -1 then 255 else aR q
  | 0, q, N, row, e, hN, hv => by
    obtain ⟨N, rfl⟩ : ∃ M, N = M + 1 := ⟨N - 1, by omega⟩
    refine ⟨row, ?_, fun p hp => ?_⟩
    · rw [fX0_rideAll_59, hr, if_pos (nI_le (by omega) (by omega)), chk_nI hS (by decide), stp_n, stp_n, ix_nI (by omega), nI_1]
    · apply bt_ext
      intro k hk
      rw [bt_by8 row (show p < 8 by omega) hk]
      by_cases c : k < 8
      · rw [hv (8 * p + k) (by omega), show (8 * p + k) / 8 = p by omega, show (8 * p + k) % 8 = k by omega]
        have : p < q := by omega
        simp [c, this]
      · have hz : bt (if aR p = -1 then 255 else aR p) k = false := by
          cases d : bt (if aR p = -1 then 255 else aR p) k
          · rfl
          · rcases (hA p hp).2 with a | ⟨n, n1, n2⟩
            · rw [if_pos a, bt_255 hk] at d
              simp at d; exact absurd d c
            · rw [if_neg (by rw [n2]; exact nI_nm (by omega)), n2] at d
              exact absurd (lo_f ⟨n, by omega⟩ ⟨k, hk⟩ d) c
        rw [hz]; simp [c]
  | m + 1, q, N, row, e, hN, hv => by
    obtain ⟨N, rfl⟩ : ∃ M, N = M + 1 := ⟨N - 1, by omega⟩
    obtain ⟨a1, a2⟩ := hA q (by omega)
    obtain ⟨x, hx⟩ : ∃ x, x = (if aR q = -1 then 255 else aR q) := ⟨_, rfl⟩
    have hlo : ∀ i, i < 32 → bt x i = true → i < 8 := by
      intro i hi hb
      rw [hx] at hb
      rcases a2 with a | ⟨n, n1, n2⟩
      · rw [if_pos a, bt_255 hi] at hb
        simpa using hb
      · rw [if_neg (by rw [n2]; exact nI_nm (by omega)), n2] at hb
        exact lo_f ⟨n, by omega⟩ ⟨i, hi⟩ hb
    have ih := f_ra_59 (s := s) hr h8 hS aR hA rc C CL m (q + 1) N (row ||| ((x.toInt64 : Int64) <<< (((8 : Int32) * nI q : Int32).toInt64 &&& 63))) (by omega) (by omega) (fun k hk => by
      rw [bl_or, hv k hk, bl_sh x (show q < 8 by omega) hk hlo]
      by_cases d : k / 8 = q
      · have d1 : 8 * q ≤ k := by omega
        have d2 : k < 8 * q + 8 := by omega
        have d3 : k - 8 * q = k % 8 := by omega
        have d4 : ¬ k / 8 < q := by omega
        have d5 : k / 8 < q + 1 := by omega
        rw [d3]
        simp only [d1, d2, d4, d5, decide_true, decide_false, Bool.true_and, Bool.false_and, Bool.false_or]
        rw [d, ← hx]
      · have d0 : (k / 8 < q + 1) = (k / 8 < q) := by apply propext; omega
        have d1 : (decide (8 * q ≤ k) && (decide (k < 8 * q + 8) && bt x (k - 8 * q))) = false := by
          by_cases z : 8 * q ≤ k
          · have : ¬ k < 8 * q + 8 := by omega
            simp [this]
          · simp [z]
        rw [d1]
        simp only [d0, Bool.or_false])
    obtain ⟨v, b1, b2⟩ := ih
    refine ⟨v, ?_, b2⟩
    rw [fX0_rideAll_59, hr, if_neg (nI_ge (by omega) (by omega)), a1, bd1_s]
    by_cases c : aR q = -1
    · rw [if_pos c, stp_n, stp_n, nI_1]
      rw [if_pos c] at hx
      rw [hx] at b1
      exact b1
    · rw [if_neg c, stp_n, stp_n, nI_1]
      rw [if_neg c] at hx
      rw [hx] at b1
      exact b1
theorem f_arr {h s r : St} {S : Int32} (hk : Tok s) (hs : Sts h s) (hR : RidV h s r S (wyT s (-1) (-1))) : ∃ aR : Nat → Int32, (∀ q, q < nrS s → fX4_arrivesBehind h r (nI q) = some (aR q) ∧ (aR q = -1 ∨ ∃ n, n ≤ 242 ∧ aR q = nI n)) ∧ ∀ t, Rdy h s t S (wyT s (-1) (-1)) → ∃ t', fX9_runs t = some t' ∧ Frm t t' ∧ ∀ q, q < nrS s → t' 28 q = aR q := by
  have h20 := nsS_20 hk
  have hl := wyT_len s (-1) (-1)
  obtain ⟨u0, r0, -⟩ := Rdy_exD hk hs S (fs := wyT s (-1) (-1)) (by omega) (wyT_lt hk _ _)
  obtain ⟨t0, hf, j, w, fl, a1, a2, a3⟩ := hR u0 r0
  refine ⟨t0 28, fun q hq => ⟨q_arrives a2.1 a2.2.2.2.2.1 hq, ?_⟩, fun t ht => ?_⟩
  · rcases arr_first a2 hq with ⟨b, -⟩ | ⟨i, b1, b2, -⟩
    · exact Or.inl b
    · refine Or.inr ⟨whn (r) i, ?_, b2⟩
      have m1 := Rws_mono a2.1.2.2.1 b1 (Nat.le_refl _)
      have m2 : whn r j = w := a2.2.1
      have m3 : w ≤ 242 := a2.2.2.2.2.2.1
      omega
  · obtain ⟨t', hf', j', w', fl', c1, c2, c3⟩ := hR t ht
    refine ⟨t', c1, c3, fun q hq => ?_⟩
    have e1 := q_arrives c2.1 c2.2.2.2.2.1 hq
    rw [q_arrives a2.1 a2.2.2.2.2.1 hq] at e1
    exact (Option.some.inj e1).symm
theorem f_ra_15 {h s : St} (hk : Tok s) (hs : Sts h s) (hH : HsT h s) : ∀ (m S N : Nat) (r C : St) (CL : Lt), m + S = 2 ^ nlS s → m < N → R0 r → (∀ k, k < S → ArrV h s (nI k) (CL 4 k)) → ∃ r' CL', fX0_rideAll_15 h N (nI S) r C CL = some (r', C, CL') ∧ R0 r' ∧ ∀ k, k < 2 ^ nlS s → ArrV h s (nI k) (CL' 4 k)
  | 0, S, N, r, C, CL, e, hN, h0, hA => by
    obtain ⟨N, rfl⟩ : ∃ M, N = M + 1 := ⟨N - 1, by omega⟩
    have l8 := nlS_8 hk
    have h256 := p2_256 l8
    have ep := p2f ⟨nlS s, by omega⟩
    simp only at ep
    refine ⟨r, CL, ?_, h0, fun k hk2 => hA k (by omega)⟩
    rw [fX0_rideAll_15, hH.1.2.1, ep, if_pos (nI_le (by omega) (by omega))]
  | m + 1, S, N, r, C, CL, e, hN, h0, hA => by
    obtain ⟨N, rfl⟩ : ∃ M, N = M + 1 := ⟨N - 1, by omega⟩
    have l8 := nlS_8 hk
    have r8 := nrS_8 hk
    have h256 := p2_256 l8
    have ep := p2f ⟨nlS s, by omega⟩
    simp only at ep
    obtain ⟨r1, r2, a1, a2, a3, a4⟩ := ride_told (r0 := r) hk hs hH (nI S) (-1) (-1) h0
    obtain ⟨aR, b1, b2⟩ := f_arr hk hs a4
    obtain ⟨v, c1, c2⟩ := f_ra_59 (s := s) hH.1.1 r8 (show S < 256 by omega) aR b1 (fX0_rideAll_15 h N) C CL (nrS s) 0 300 0 (by omega) (by omega) (fun k hk2 => by rw [bl_zero]; simp)
    have hV : ArrV h s (nI S) v := fun t ht => by
      obtain ⟨t', d1, d2, d3⟩ := b2 t ht
      refine ⟨t', d1, d2, fun q hq => ?_⟩
      rw [d3 q hq]
      exact ⟨c2 q hq, (b1 q hq).2⟩
    obtain ⟨r', CL', g1, g2, g3⟩ := f_ra_15 hk hs hH m (S + 1) N r2 C (tS CL 4 S v) (by omega) (by omega) a3 (fun k hk2 => by
      rw [tS_s]
      by_cases d : k = S
      · rw [d, uL_s]; exact hV
      · rw [uL_o d]; exact hA k (by omega))
    refine ⟨r', CL', ?_, g2, g3⟩
    rw [fX0_rideAll_15, hH.1.2.1, ep, if_neg (nI_ge (by omega) (by omega)), if_neg (show ¬ 256 ≤ nI S from nI_ge (b := 256) (by omega) (by decide)), a1, bd1_s, a2, bd1_s]
    exact c1.trans g1
theorem f_rideAll {h s r c : St} {cL : Lt} (hk : Tok s) (hs : Sts h s) (hH : HsT h s) (h0 : R0 r) (hC : ChC h s c cL) : ∃ r' c' cL', fX0_rideAll h r c cL = some (r', c', cL') ∧ R0 r' ∧ c' 0 2 = 1 ∧ ∀ k, k < 2 ^ nlS s → ArrV h s (nI k) (cL' 4 k) := by
  have h256 := p2_256 (nlS_8 hk)
  unfold fX0_rideAll
  rcases hC with c0 | ⟨c0, c1⟩
  · rw [if_pos c0, stp_n]
    obtain ⟨r', CL', g1, g2, g3⟩ := f_ra_15 hk hs hH (2 ^ nlS s) 0 300 r (sS c 0 2 1) cL (by omega) (by omega) h0 (fun k hk2 => absurd hk2 (by omega))
    exact ⟨r', _, CL', g1, g2, by rw [sS_s, upd_s], g3⟩
  · rw [if_neg (by rw [c0]; decide)]
    exact ⟨r, c, cL, rfl, h0, c0, c1⟩
/-! the sum -/
def FmB (cL : Lt) (q T k : Nat) : Bool := decide (¬ by8 (cL 4 k) q = 255 ∧ ¬ nI T < by8 (cL 4 k) q)
theorem f_work_12 {h R C : St} {nl c q T : Nat} (h3 : h 0 3 = nI nl) (h8 : nl ≤ 8) (hc : c ≤ 16) (cL : Lt) : ∀ (m S N : Nat) (CL : Lt), m + S = 2 ^ nl → m < N → CL 4 = cL 4 → CL 0 4 = lN (sm (FmB cL q T) c nl S) → ∃ CL', fX0_work_12 h N (nI c) (nI q) (nI T) (nI S) R C CL = some (R, C, CL') ∧ CL' 4 = cL 4 ∧ CL' 0 4 = lN (sm (FmB cL q T) c nl (2 ^ nl) / Nat.gcd (sm (FmB cL q T) c nl (2 ^ nl)) (2 ^ (4 * nl))) ∧ CL' 0 5 = lN (2 ^ (4 * nl) / Nat.gcd (sm (FmB cL q T) c nl (2 ^ nl)) (2 ^ (4 * nl)))
  | 0, S, N, CL, e, hN, h4, h04 => by
    obtain ⟨N, rfl⟩ : ∃ M, N = M + 1 := ⟨N - 1, by omega⟩
    have h256 := p2_256 h8
    have ep := p2f ⟨nl, by omega⟩
    have e4 := p4f ⟨nl, by omega⟩
    simp only at ep e4
    have eS : S = 2 ^ nl := by omega
    rw [eS] at h04
    obtain ⟨CL', a1, a2, a3, a4⟩ := f_shorten (h := h) (r := R) (c := C) (m := 4 * nl) (A := sm (FmB cL q T) c nl (2 ^ nl)) (CL := tS CL 0 5 (lN (2 ^ (4 * nl)))) (by omega) (by rw [tS_s, uL_o (by decide)]; exact h04) (by rw [tS_s, uL_s]) (sm_62 _ hc h8 h256)
    refine ⟨CL', ?_, by rw [a4, tS_o (by decide)]; exact h4, a2, a3⟩
    rw [fX0_work_12, h3, ep, if_pos (nI_le (by omega) (by omega)), e4, stp_n, a1, bd1_s]
  | m + 1, S, N, CL, e, hN, h4, h04 => by
    obtain ⟨N, rfl⟩ : ∃ M, N = M + 1 := ⟨N - 1, by omega⟩
    have h256 := p2_256 h8
    have ep := p2f ⟨nl, by omega⟩
    simp only at ep
    have ih := fun CL => f_work_12 (R := R) (C := C) (q := q) (T := T) h3 h8 hc cL m (S + 1) N CL (by omega) (by omega)
    rw [fX0_work_12, h3, ep, if_neg (nI_ge (by omega) (by omega)), if_neg (show ¬ 256 ≤ nI S from nI_ge (b := 256) (by omega) (by decide)), chk_nI (show S < 256 by omega) (by decide), stp_n, ix_nI (by omega), h4, f_byteOf, bd1_s]
    by_cases d1 : by8 (cL 4 S) q = 255
    · have f0 : FmB cL q T S = false := by unfold FmB; simp [d1]
      rw [if_pos d1, stp_n, nI_1]
      exact ih CL h4 (by rw [h04, sm, f0]; rfl)
    · rw [if_neg d1]
      by_cases d2 : nI T < by8 (cL 4 S) q
      · have f0 : FmB cL q T S = false := by unfold FmB; simp [d2]
        rw [if_pos d2, stp_n, nI_1]
        exact ih CL h4 (by rw [h04, sm, f0]; rfl)
      · have f1 : FmB cL q T S = true := by unfold FmB; simp [d1, d2]
        have wt : fX0_weightOf h R C CL (nI S) (nI c) = _ := f_weightOf_5 (r := R) (c0 := C) (cL := CL) h3 h8 hc (nI S) nl 0 300 (by omega) (by omega)
        rw [if_neg d2, wt, bd1_s, h04, lN_add, stp_n, stp_n, nI_1]
        exact ih (tS CL 0 4 (lN (sm (FmB cL q T) c nl S + pw (nI S) c nl))) (by rw [tS_o (by decide)]; exact h4) (by rw [tS_s, uL_s, sm, f1]; rfl)
/-! the reference -/
theorem f_mb_27 {u : St} {nl c : Nat} (h6 : u 0 6 = nI nl) (h8 : nl ≤ 8) (hc : c ≤ 16) (rc : Int32 → Int32 → Int32 → Int32 → Int64 → Int32 → St → Option (Int64 × St)) (q T x : Int32) (sum : Int64) (S : Int32) : ∀ (m l N : Nat), m + l = nl → m < N → fX9_maybeOf_27 rc N (nI c) q T x sum S (lN (pw S c l)) (nI l) u = fX9_maybeOf_27 rc 1 (nI c) q T x sum S (lN (pw S c nl)) (nI nl) u
  | 0, l, N, e, hN => by
    obtain ⟨N, rfl⟩ : ∃ M, N = M + 1 := ⟨N - 1, by omega⟩
    have el : l = nl := by omega
    rw [el, fX9_maybeOf_27, fX9_maybeOf_27, h6, if_pos (nI_le (Nat.le_refl _) (by omega)), if_pos (nI_le (Nat.le_refl _) (by omega))]
  | m + 1, l, N, e, hN => by
    obtain ⟨N, rfl⟩ : ∃ M, N = M + 1 := ⟨N - 1, by omega⟩
    have ih := f_mb_27 h6 h8 hc rc q T x sum S m (l + 1) N (by omega) (by omega)
    rw [pw] at ih
    rw [fX9_maybeOf_27, h6, if_neg (nI_ge (by omega) (by omega)), f_isIn _ (show l < 32 by omega), bd1_s]
    cases d : bt S l
    · rw [d] at ih
      rw [if_pos bF, stp_n, stp_n, s16 hc, lN_mul, nI_1]
      exact ih
    · rw [d] at ih
      rw [if_neg bTn, stp_n, stp_n, nI_l (by omega), lN_mul, nI_1]
      exact ih
theorem f_mb_10 {h s : St} {c q T : Nat} (hk : Tok s) (hc : c ≤ 16) (hq : q < nrS s) (x : Int32) (cL : Lt) (hV : ∀ k, k < 2 ^ nlS s → ArrV h s (nI k) (cL 4 k)) : ∀ (m S N : Nat) (u : St), m + S = 2 ^ nlS s → m < N → Rdw h s u → Dur s u → ∃ u', fX9_maybeOf_10 N (nI c) (nI q) (nI T) x (lN (sm (FmB cL q T) c (nlS s) S)) (nI S) u = some ((if x = 0 then lN (sm (FmB cL q T) c (nlS s) (2 ^ nlS s) / Nat.gcd (sm (FmB cL q T) c (nlS s) (2 ^ nlS s)) (2 ^ (4 * nlS s))) else lN (2 ^ (4 * nlS s) / Nat.gcd (sm (FmB cL q T) c (nlS s) (2 ^ nlS s)) (2 ^ (4 * nlS s)))), u') ∧ Dur s u'
  | 0, S, N, u, e, hN, hW, hD => by
    obtain ⟨N, rfl⟩ : ∃ M, N = M + 1 := ⟨N - 1, by omega⟩
    have l8 := nlS_8 hk
    have h256 := p2_256 l8
    have ep := p2f ⟨nlS s, by omega⟩
    have e4 := p4f ⟨nlS s, by omega⟩
    simp only at ep e4
    refine ⟨u, ?_, hD⟩
    rw [fX9_maybeOf_10, hW.1.2.1, ep, if_pos (nI_le (by omega) (by omega)), e4, show S = 2 ^ nlS s by omega, f_lowest (by omega) (sm_62 _ hc l8 h256), bd1_s]
  | m + 1, S, N, u, e, hN, hW, hD => by
    obtain ⟨N, rfl⟩ : ∃ M, N = M + 1 := ⟨N - 1, by omega⟩
    have l8 := nlS_8 hk
    have r8 := nrS_8 hk
    have h256 := p2_256 l8
    have ep := p2f ⟨nlS s, by omega⟩
    simp only at ep
    obtain ⟨t', a1, a2, a3⟩ := hV S (by omega) (sS u 0 15 (nI S)) (Rdw_S hW (nI S) (nI S) (fun _ _ => rfl))
    have hW' := Rdw_frm a2 (Rdw_0 (nI S) hW)
    have hD' := (Dur_0 (nI S) hD).tr a2.dur
    obtain ⟨b1, b2⟩ := a3 q hq
    have eF : bt (arB t' (nI T) (nrS s)) q = FmB cL q T S := by
      rw [bt_arB _ _ (show q < 32 by omega) _ (by omega)]
      unfold FmB
      rw [b1]
      rcases b2 with z | ⟨n, n1, n2⟩
      · rw [z]; simp
      · have m1 : ¬ nI n = -1 := nI_nm (by omega)
        have m2 : ¬ nI n = 255 := by rw [show (255 : Int32) = nI 255 from rfl, nI_eq (by omega) (by omega)]; omega
        rw [n2, if_neg m1]
        by_cases hh : nI T < nI n
        · rw [decide_eq_true hq, decide_eq_false m1, decide_eq_true hh, decide_eq_false (fun z => z.2 hh)]; rfl
        · rw [decide_eq_true hq, decide_eq_false m1, decide_eq_false hh, decide_eq_true ⟨m2, hh⟩]; rfl
    have w27 := f_mb_27 (u := u) hW.1.2.1 l8 hc (fX9_maybeOf_10 N) (nI q) (nI T) x (lN (sm (FmB cL q T) c (nlS s) S)) (nI S) (nlS s) 0 300 (by omega) (by omega)
    obtain ⟨u', g1, g2⟩ := f_mb_10 hk hc hq x cL hV m (S + 1) N t' (by omega) (by omega) hW' hD'
    refine ⟨u', ?_, g2⟩
    rw [fX9_maybeOf_10, hW.1.2.1, ep, if_neg (nI_ge (by omega) (by omega))]
    refine Eq.trans w27 ?_
    rw [fX9_maybeOf_27, hW.1.2.1, if_pos (nI_le (Nat.le_refl _) (by omega)), stp_n, a1, bd1_s, f_arrivedNow hW'.1.1 r8, bd1_s, f_isIn _ (show q < 32 by omega), bd1_s, eF]
    rw [sm] at g1
    cases d : FmB cL q T S
    · rw [d] at g1
      rw [if_pos bF, stp_n, stp_n, nI_1, Int64.add_zero]
      exact g1
    · rw [d] at g1
      rw [if_neg bTn, stp_n, stp_n, nI_1, lN_add]
      exact g1
/-- both -/
theorem maybe_of {z : Nat → St} {y : Nat → Lt} {s u : St} {c q T : Nat} (H : Rel z y s) (F : Fsh z y s) (D : Dur s u) (hc : c ≤ 16) (hq : q < nrS s) : ∃ r' c' cL', fX0_work (z 8) (z 10) (z 12) (y 12) (nI c) (nI q) (nI T) = some (r', c', cL') ∧ R0 r' ∧ ChC (z 8) s c' cL' ∧ ∀ x, ∃ u', fX9_maybeOf u (nI c) (nI q) (nI T) x = some ((if x = 0 then cL' 0 4 else cL' 0 5), u') ∧ Dur s u' := by
  have hk := H.1.1
  have l8 := nlS_8 hk
  have h256 := p2_256 l8
  obtain ⟨r', c', cL1, a1, a2, a3, a4⟩ := f_rideAll hk H.2.1 F.1 H.2.2.2.2.2.2.1 F.2.2.2.2
  obtain ⟨CL', b1, b2, b3, b4⟩ := f_work_12 (R := r') (C := c') (q := q) (T := T) F.1.1.2.1 l8 hc cL1 (2 ^ nlS s) 0 300 (tS cL1 0 4 0) (by omega) (by omega) (by rw [tS_o (by decide)]) (by rw [tS_s, uL_s]; rfl)
  refine ⟨r', c', CL', ?_, a2, Or.inr ⟨a3, fun k hk2 => by rw [b2]; exact a4 k hk2⟩, fun x => ?_⟩
  · unfold fX0_work
    rw [a1, bd3_s, stp_n]
    exact b1
  · obtain ⟨t, d1, d2, d3⟩ := f_asTold (Tok_x D.tx hk)
    rw [Tld_x D.tx] at d3
    have D1 := D.tr d2
    obtain ⟨u', g1, g2⟩ := f_mb_10 (T := T) hk hc hq x cL1 a4 (2 ^ nlS s) 0 300 t (by omega) (by omega) (Rdw_told hk (Sts_d D1.tx H.2.1) d3) D1
    refine ⟨u', ?_, g2⟩
    unfold fX9_maybeOf
    rw [d1, bd1_s, b3, b4]
    exact g1
theorem Rel_ch {z : Nat → St} {y : Nat → Lt} {s r' c' : St} {cL' : Lt} (H : Rel z y s) (F : Fsh z y s) (hz : z 0 0 10 = 0) (h0 : R0 r') (hC : ChC (z 8) s c' cL') : Rel (va_up (va_up z 10 r') 12 c') (va_up y 12 cL') s ∧ Fsh (va_up (va_up z 10 r') 12 c') (va_up y 12 cL') s := by
  obtain ⟨f1, f2, f3, f4, f5⟩ := F
  have F' : Fsh (va_up (va_up z 10 r') 12 c') (va_up y 12 cL') s := ⟨f1, f2, f3, f4, hC⟩
  refine ⟨?_, F'⟩
  obtain ⟨h1, h2, h3, h4, h5, h6, h7, h8⟩ := H
  refine ⟨⟨h1.1, fun κ hκ => ?_⟩, h2, h3, fun o ho => ?_, h5, h6, h0, Or.inr ⟨hz, F'⟩⟩
  · rw [up_o (by omega), up_o (by omega)]; exact h1.2 κ hκ
  · rw [up_o (by omega), up_o (by omega)]; exact h4 o ho
theorem f_no2 : fX9_no (-2) = some (-9223372036854775806) := by decide +kernel
theorem c_maybe {z : Nat → St} {y : Nat → Lt} {s : St} (H : Rel z y s) (x1 x2 x3 x4 : Int32) : AnsL (fX8_maybe z y x1 x2 x3 x4) (fX9_maybe s x1 x2 x3 x4) := by
  unfold fX8_maybe fX9_maybe
  obtain ⟨z', a1, a2, a3, a4⟩ := f_freshen H
  have hk := H.1.1
  have n8 := nrS_8 hk
  rw [a1, bd1_s, f_no2, bd1_s]
  rcases rng x1 16 (by decide) with h | ⟨c, hc, rfl⟩
  · rw [show fX9_in x1 0 16 = some 0 from in_out h, bd1_s, if_pos z00]
    refine ⟨-9223372036854775806, z', y, s, ?_, rfl, a2⟩
    by_cases d : x1 < 0
    · rw [if_pos d]
    · rw [if_neg d, if_pos (show 16 < x1 from h.resolve_left d)]
  · rw [in_in (b := 16) hc (by decide) rfl, bd1_s, if_neg n10, if_neg (nI_pos (by omega)), if_neg (show ¬ 16 < nI c from nI_nlt (b := c) (a := 16) hc (by decide))]
    rcases rng2 x2 (nrS s) (by omega) with h | ⟨q, hq, rfl⟩
    · obtain ⟨u, b1, b2, b3⟩ := isRider_out hk h
      rw [noRider_out n8 a3.1.1.1 h, bd1_s, if_neg n10, b1, bd2_s, if_pos z00, bd1_s]
      exact ⟨_, _, _, _, rfl, rfl, Rel_d b2 a2⟩
    · obtain ⟨u, b1, b2, b3⟩ := isRider_in hk hq
      rw [noRider_in n8 a3.1.1.1 hq, bd1_s, if_pos z00, b1, bd2_s, if_neg n10]
      rcases rng x3 255 (by decide) with h | ⟨T, hT, rfl⟩
      · rw [noStep_out h, isSteps_out h, bd1_s, bd1_s, if_neg n10, if_pos z00, bd1_s]
        exact ⟨_, _, _, _, rfl, rfl, Rel_d b2 a2⟩
      · rw [noStep_in hT, isSteps_in hT, bd1_s, bd1_s, if_pos z00, if_neg n10]
        rcases rng x4 1 (by decide) with h | ⟨k, hk2, rfl⟩
        · rw [show fX9_in x4 0 1 = some 0 from in_out h, bd1_s, if_pos z00, bd1_s]
          refine ⟨-9223372036854775806, z', y, u, ?_, rfl, Rel_d b2 a2⟩
          by_cases d : x4 < 0
          · rw [if_pos d]
          · rw [if_neg d, if_neg (show ¬ x4 ≤ 1 from i_le (h.resolve_left d))]
        · rw [in_in (b := 1) hk2 (by decide) rfl, bd1_s, if_neg n10, if_neg (nI_pos (by omega)), if_pos (show nI k ≤ 1 from nI_le (b := 1) hk2 (by decide))]
          obtain ⟨r', c', cL', d1, d2, d3, d4⟩ := maybe_of (T := T) a2 a3 b2 hc hq
          obtain ⟨u', e1, e2⟩ := d4 (nI k)
          have R' := Rel_d e2 (Rel_ch a2 a3 a4 d2 d3).1
          rw [d1, bd3_s, stp_n, stp_n, stp_n, e1, bd2_s]
          by_cases g : nI k = 0
          · rw [if_pos g, if_pos g]
            exact ⟨_, _, _, _, rfl, rfl, R'⟩
          · rw [if_neg g, if_neg g]
            exact ⟨_, _, _, _, rfl, rfl, R'⟩
