/-! ===== what all have heard: eight bits each in a long ===== -/
def bl (v : Int64) (k : Nat) : Bool := v.toBitVec.getLsbD k
theorem bl_or (x y : Int64) (k : Nat) : bl (x ||| y) k = (bl x k || bl y k) := by simp [bl]
theorem bl_zero (k : Nat) : bl 0 k = false := by simp [bl]
def by8 (v : Int64) (q : Nat) : Int32 := ((((v : Int64).toUInt64 >>> (((8 : Int32) * nI q : Int32).toInt64.toUInt64 &&& Int64.toUInt64 63)).toInt64 : Int64).toInt32) &&& 255
theorem f_byteOf (v : Int64) (q : Nat) : fX8_byteOf v (nI q) = some (by8 v q) := rfl
theorem sR8 : ∀ q : Fin 8, (UInt64.mod (((8 : Int32) * nI q.val : Int32).toInt64.toUInt64 &&& Int64.toUInt64 63) 64).toBitVec = BitVec.ofNat 64 (8 * q.val) := by decide
theorem sL8 : ∀ q : Fin 8, ((((8 : Int32) * nI q.val : Int32).toInt64 &&& 63).toBitVec.smod 64) = BitVec.ofNat 64 (8 * q.val) := by decide
theorem bt_by8 (v : Int64) {q k : Nat} (hq : q < 8) (hk : k < 32) : bt (by8 v q) k = (decide (k < 8) && bl v (8 * q + k)) := by
  unfold by8
  rw [bt_and, bt_255 hk, Bool.and_comm]
  congr 1
  show ((v.toBitVec >>> (UInt64.mod (((8 : Int32) * nI q : Int32).toInt64.toUInt64 &&& Int64.toUInt64 63) 64).toBitVec).signExtend 32).getLsbD k = v.toBitVec.getLsbD (8 * q + k)
  have e := sR8 ⟨q, hq⟩
  simp only at e
  rw [e, BitVec.getLsbD_signExtend]
  have h64 : k < 64 := by omega
  simp only [hk, h64, decide_true, Bool.true_and, if_true, BitVec.ushiftRight_eq', BitVec.toNat_ofNat, BitVec.getLsbD_ushiftRight]
  rw [Nat.mod_eq_of_lt (show 8 * q < 2 ^ 64 by omega)]
theorem bl_sh (x : Int32) {q k : Nat} (hq : q < 8) (hk : k < 64) (hx : ∀ i, i < 32 → bt x i = true → i < 8) : bl ((x.toInt64 : Int64) <<< (((8 : Int32) * nI q : Int32).toInt64 &&& 63)) k = (decide (8 * q ≤ k) && (decide (k < 8 * q + 8) && bt x (k - 8 * q))) := by
  show ((x.toBitVec.signExtend 64) <<< ((((8 : Int32) * nI q : Int32).toInt64 &&& 63).toBitVec.smod 64)).getLsbD k = _
  have e := sL8 ⟨q, hq⟩
  simp only at e
  rw [e, BitVec.shiftLeft_eq', BitVec.toNat_ofNat, Nat.mod_eq_of_lt (show 8 * q < 2 ^ 64 by omega), BitVec.getLsbD_shiftLeft, BitVec.getLsbD_signExtend]
  have hx2 : ∀ i, 8 ≤ i → bt x i = false := fun i hi => by
    by_cases c : i < 32
    · cases d : bt x i
      · rfl
      · exact absurd (hx i c d) (by omega)
    · exact bt_ge _ (by omega)
  have hm : x.toBitVec.msb = false := by
    rw [BitVec.msb_eq_getLsbD_last]
    exact hx2 31 (by decide)
  by_cases c1 : 8 * q ≤ k
  · by_cases c2 : k < 8 * q + 8
    · have d1 : k - 8 * q < 32 := by omega
      have d2 : k - 8 * q < 64 := by omega
      have d3 : ¬ k < 8 * q := by omega
      simp only [hk, c1, c2, d1, d2, d3, decide_true, decide_false, Bool.true_and, if_true, Bool.not_false]
      rfl
    · have d3 : ¬ k < 8 * q := by omega
      simp only [hk, c1, c2, d3, decide_true, decide_false, Bool.true_and, Bool.not_false, Bool.false_and]
      have d2 : k - 8 * q < 64 := by omega
      simp only [d2, decide_true, Bool.true_and]
      split
      · exact hx2 _ (by omega)
      · exact hm
  · have d3 : k < 8 * q := by omega
    simp [c1, d3]
theorem f_share_45 (rid told : Int32) (all : Int64) (ht : ∀ i, i < 32 → bt told i = true → i < 8) : ∀ (m n N : Nat) (v : Int64), m + n = 8 → m < N → (∀ k, k < 64 → bl v k = (bl all k || (decide (k / 8 < n) && (bt rid (k / 8) && bt told (k % 8))))) → ∃ v', fX4_share_45 N rid told v (nI n) = some v' ∧ ∀ k, k < 64 → bl v' k = (bl all k || (bt rid (k / 8) && bt told (k % 8)))
  | 0, n, N, v, e, hN, hv => by
    obtain ⟨N, rfl⟩ : ∃ M, N = M + 1 := ⟨N - 1, by omega⟩
    refine ⟨v, ?_, fun k hk => ?_⟩
    · rw [fX4_share_45, show n = 8 by omega, if_pos (by decide)]
    · rw [hv k hk]
      have : k / 8 < n := by omega
      simp [this]
  | m + 1, n, N, v, e, hN, hv => by
    obtain ⟨N, rfl⟩ : ∃ M, N = M + 1 := ⟨N - 1, by omega⟩
    rw [fX4_share_45, if_neg (by rw [show (8 : Int32) = nI 8 from rfl, nI_le' (by omega) (by omega)]; omega), f_has _ (show n < 32 by omega), bd1_s]
    cases c : bt rid n
    · rw [if_pos (by simp), stp_n, nI_1]
      refine f_share_45 rid told all ht m (n + 1) N v (by omega) (by omega) (fun k hk => ?_)
      rw [hv k hk]
      by_cases d : k / 8 = n
      · rw [d, c]; simp
      · have : (k / 8 < n + 1) = (k / 8 < n) := by apply propext; omega
        simp [this]
    · rw [if_neg (by simp), stp_n, stp_n, nI_1]
      refine f_share_45 rid told all ht m (n + 1) N _ (by omega) (by omega) (fun k hk => ?_)
      rw [bl_or, hv k hk, bl_sh told (show n < 8 by omega) hk ht]
      by_cases d : k / 8 = n
      · have d1 : 8 * n ≤ k := by omega
        have d2 : k < 8 * n + 8 := by omega
        have d3 : k - 8 * n = k % 8 := by omega
        simp [d, c, d1, d2, d3]
      · have d0 : (k / 8 < n + 1) = (k / 8 < n) := by apply propext; omega
        have d1 : (decide (8 * n ≤ k) && (decide (k < 8 * n + 8) && bt told (k - 8 * n))) = false := by
          by_cases z : 8 * n ≤ k
          · have : ¬ k < 8 * n + 8 := by omega
            simp [this]
          · simp [z]
        rw [d1]
        simp [d0]
theorem f_share_6 (rid ab : Int32) (all : Int64) : ∀ (m n N : Nat), m + n = 8 → m < N → fX4_share_6 N all rid (tlS rid ab (by8 all) n) (nI n) = fX4_share_45 300 rid (tlS rid ab (by8 all) 8) all 0
  | 0, n, N, e, hN => by
    obtain ⟨N, rfl⟩ : ∃ M, N = M + 1 := ⟨N - 1, by omega⟩
    rw [fX4_share_6, show n = 8 by omega, if_pos (by decide)]
  | m + 1, n, N, e, hN => by
    obtain ⟨N, rfl⟩ : ∃ M, N = M + 1 := ⟨N - 1, by omega⟩
    have ih := f_share_6 rid ab all m (n + 1) N (by omega) (by omega)
    rw [tlS] at ih
    rw [fX4_share_6, if_neg (by rw [show (8 : Int32) = nI 8 from rfl, nI_le' (by omega) (by omega)]; omega), f_has _ (show n < 32 by omega), bd1_s]
    cases c : bt rid n
    · rw [c] at ih
      rw [if_pos (by simp), stp_n, nI_1]
      exact ih
    · rw [c] at ih
      rw [if_neg (by simp), f_byteOf, bd1_s, stp_n, stp_n, nI_1]
      exact ih
theorem by8_lo (v : Int64) {q : Nat} (hq : q < 8) : ∀ i, i < 32 → bt (by8 v q) i = true → i < 8 := fun i hi hb => by
  rw [bt_by8 v hq hi] at hb
  simp only [Bool.and_eq_true, decide_eq_true_eq] at hb
  exact hb.1
theorem tlS_lo {rid ab : Int32} {hd : Nat → Int32} (ha : ∀ i, i < 32 → bt ab i = true → i < 8) (hh : ∀ q, q < 8 → ∀ i, i < 32 → bt (hd q) i = true → i < 8) : ∀ n, n ≤ 8 → ∀ i, i < 32 → bt (tlS rid ab hd n) i = true → i < 8
  | 0, _, i, hi, hb => ha i hi hb
  | n + 1, hn, i, hi, hb => by
    rw [tlS] at hb
    cases c : bt rid n
    · rw [c] at hb
      exact tlS_lo ha hh n (by omega) i hi hb
    · rw [c] at hb
      simp only [if_true] at hb
      rw [bt_or, Bool.or_eq_true] at hb
      rcases hb with hb | hb
      · exact tlS_lo ha hh n (by omega) i hi hb
      · exact hh n (by omega) i hi hb
theorem f_share (rid ab : Int32) (all : Int64) (ha : ∀ i, i < 32 → bt ab i = true → i < 8) : ∃ v, fX4_share all rid ab = some v ∧ ∀ q, q < 8 → by8 v q = if bt rid q then by8 all q ||| tlS rid ab (by8 all) 8 else by8 all q := by
  have ht := tlS_lo (rid := rid) ha (fun q hq => by8_lo all hq) 8 (Nat.le_refl _)
  obtain ⟨v, h1, h2⟩ := f_share_45 rid (tlS rid ab (by8 all) 8) all ht 8 0 300 all (by omega) (by omega) (fun k hk => by simp)
  refine ⟨v, ?_, fun q hq => ?_⟩
  · unfold fX4_share
    exact (f_share_6 rid ab all 8 0 300 (by omega) (by omega)).trans h1
  · apply bt_ext
    intro k hk
    rw [bt_by8 v hq hk]
    by_cases c8 : k < 8
    · rw [h2 (8 * q + k) (by omega), show (8 * q + k) / 8 = q by omega, show (8 * q + k) % 8 = k by omega]
      cases c : bt rid q
      · simp only [c8, decide_true, Bool.true_and, Bool.false_and, Bool.or_false, Bool.false_eq_true, if_false]
        rw [bt_by8 all hq hk]; simp [c8]
      · simp only [c8, decide_true, Bool.true_and, if_true]
        rw [bt_or, bt_by8 all hq hk]; simp [c8]
    · simp only [c8, decide_false, Bool.false_and]
      have n1 : bt (by8 all q) k = false := by rw [bt_by8 all hq hk]; simp [c8]
      cases c : bt rid q
      · simp only [Bool.false_eq_true, if_false]; exact n1.symm
      · simp only [if_true]
        rw [bt_or, n1]
        cases d : bt (tlS rid ab (by8 all) 8) k
        · rfl
        · exact absurd (ht k hk d) c8
theorem f_heard_4 (h r : St) {n : Nat} (hn : r 0 9 = nI n) (h45 : n ≤ 45) (ha : ∀ i q, i < n → q < 32 → bt (r 6 i) q = true → q < 8) : ∀ (m i N : Nat) (all : Int64), m + i = n → m < N → (∀ q, q < 8 → by8 all q = hdR r i q) → ∃ v, fX4_heard_4 h r N all (nI i) = some v ∧ ∀ q, q < 8 → by8 v q = hdR r n q
  | 0, i, N, all, e, hN, hv => by
    obtain ⟨N, rfl⟩ : ∃ M, N = M + 1 := ⟨N - 1, by omega⟩
    refine ⟨all, ?_, ?_⟩
    · rw [fX4_heard_4, hn, if_pos (by rw [nI_le' (by omega) (by omega)]; omega)]
    · rw [show n = i by omega]; exact hv
  | m + 1, i, N, all, e, hN, hv => by
    obtain ⟨N, rfl⟩ : ∃ M, N = M + 1 := ⟨N - 1, by omega⟩
    rw [fX4_heard_4, hn, if_neg (by rw [nI_le' (by omega) (by omega)]; omega), rd_nI rfl (show i < 45 by omega) (by decide)]
    by_cases c : r 5 i = 0
    · rw [if_pos c, stp_n, nI_1]
      refine f_heard_4 h r hn h45 ha m (i + 1) N all (by omega) (by omega) (fun q hq => ?_)
      rw [hdR, c, bt_zero, hv q hq]; rfl
    · rw [if_neg c, rd_nI rfl (show i < 45 by omega) (by decide), rd_nI rfl (show i < 45 by omega) (by decide)]
      obtain ⟨v, h1, h2⟩ := f_share (r 5 i) (r 6 i) all (fun k hk hb => ha i k (by omega) hk hb)
      rw [h1, bd1_s, stp_n, nI_1]
      refine f_heard_4 h r hn h45 ha m (i + 1) N v (by omega) (by omega) (fun q hq => ?_)
      rw [h2 q hq, hdR, hv q hq, tlS_e (g := hdR r i) (fun p hp _ => hv p hp)]
theorem by8_0 {q : Nat} (hq : q < 8) : by8 0 q = 0 := by
  apply bt_ext
  intro k hk
  rw [bt_by8 0 hq hk, bl_zero, bt_zero]; simp
theorem q_heard {h r t : St} {nr nl hf j w fl : Nat} (H : Rid h r t nr nl hf j w fl) : ∃ v, fX4_heard h r = some v ∧ ∀ q, q < nr → by8 v q = t 33 q := by
  have h8 := Rid_nr H
  have hj : j ≤ 44 := H.2.2.2.2.1
  have hA := H.2.2.2.2.2.2.2.2.2.2
  have hl : nl ≤ 8 := H.1.1.2.1.2.2
  obtain ⟨v, h1, h2⟩ := f_heard_4 h r (n := j + 1) H.1.2.2.1.1 (by omega) (fun i q hi hq hb => by have := hA i q (by omega) hq hb; omega) (j + 1) 0 300 0 (by omega) (by omega) (fun q hq => by rw [by8_0 hq, hdR])
  refine ⟨v, h1, fun q hq => ?_⟩
  rw [h2 q (by omega), (H.1.2.2.2.2.2.1.1 q hq).2.2.2.2]
