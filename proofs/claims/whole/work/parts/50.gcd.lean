/-! ===== longs as numbers; lowest terms ===== -/
theorem lT {n : Nat} (h : n < 2 ^ 62) : (lN n).toInt = (n : Int) := lg_ofNat_toInt (by omega)
theorem lN_dv {a b : Nat} (ha : a < 2 ^ 62) (hb : b < 2 ^ 62) : lN a / lN b = lN (a / b) := by
  have hd : a / b ≤ a := Nat.div_le_self a b
  apply Int64.toInt_inj.mp
  rw [Int64.toInt_div, lT ha, lT hb, lT (show a / b < 2 ^ 62 by omega), ← Int.ofNat_tdiv]
  generalize a / b = q at hd ⊢
  exact Int.bmod_eq_of_le (by omega) (by omega)
theorem lN_md {a b : Nat} (ha : a < 2 ^ 62) (hb : b < 2 ^ 62) : lN a - lN a / lN b * lN b = lN (a % b) := by
  have h := Nat.mod_add_div a b
  rw [Nat.mul_comm] at h
  rw [lN_dv ha hb, lN_mul, lN_sub (Nat.div_mul_le_self a b)]
  congr 1
  omega
theorem lN_z {b : Nat} (hb : b < 2 ^ 62) : (lg_cmp (lN b) 0 = 0) = (b = 0) := by
  apply propext
  rw [lg_cmp_eq]
  constructor
  · intro h
    have := congrArg Int64.toInt h
    rw [lT hb] at this
    have e : (0 : Int64).toInt = 0 := by decide
    rw [e] at this
    omega
  · intro h; rw [h]; rfl
theorem lN_nz {b : Nat} (hb : b < 2 ^ 62) (h : 0 < b) : ¬ lN b = 0 := fun z => by
  have := (lN_z hb).mp (by rw [z]; decide)
  omega
theorem lN_l1 {b : Nat} (hb : b < 2 ^ 62) : (lg_cmp (lN b) 1 ≤ 0) = (b ≤ 1) := by
  apply propext
  rw [lg_cmp_le, Int64.le_iff_toInt_le, lT hb]
  have e : (1 : Int64).toInt = 1 := by decide
  rw [e]
  omega
theorem asr_t {β : Type} {c : Prop} [Decidable c] {k : Option β} (h : c) : asr c k = k := if_pos h
theorem mod_half {b r k : Nat} (h0 : 0 < r) (hr : r < b) (hb : b < 2 ^ (k + 1)) : b % r < 2 ^ k := by
  rw [Nat.pow_succ] at hb
  by_cases c : 2 * r ≤ b
  · have := Nat.mod_lt b h0
    omega
  · rw [Nat.mod_eq_sub_mod (by omega), Nat.mod_eq_of_lt (by omega)]
    omega
theorem low_6 {A B : Nat} (x : Int32) : ∀ (k a b N : Nat), b < 2 ^ k → 2 * k + 1 ≤ N → a < 2 ^ 62 → b < 2 ^ 62 → 0 < Nat.gcd a b → fX9_lowest_6 N (lN A) (lN B) x (lN a) (lN b) = some (if x = 0 then lN A / lN (Nat.gcd a b) else lN B / lN (Nat.gcd a b)) := by
  have fin : ∀ (N a : Nat), a < 2 ^ 62 → 0 < Nat.gcd a 0 → fX9_lowest_6 (N + 1) (lN A) (lN B) x (lN a) (lN 0) = some (if x = 0 then lN A / lN (Nat.gcd a 0) else lN B / lN (Nat.gcd a 0)) := by
    intro N a ha hg
    rw [Nat.gcd_zero_right] at hg ⊢
    rw [fX9_lowest_6, if_pos (by rw [lN_z (by decide)])]
    by_cases c : x = 0
    · rw [if_pos c, if_pos c, asr_t (lN_nz ha hg)]
    · rw [if_neg c, if_neg c, asr_t (lN_nz ha hg)]
  intro k
  induction k with
  | zero =>
    intro a b N hb hN ha hb2 hg
    obtain ⟨N, rfl⟩ : ∃ M, N = M + 1 := ⟨N - 1, by omega⟩
    have : b = 0 := by
      rw [Nat.pow_zero] at hb
      omega
    subst this
    exact fin N a ha hg
  | succ k ih =>
    intro a b N hb hN ha hb2 hg
    obtain ⟨N, rfl⟩ : ∃ M, N = M + 2 := ⟨N - 2, by omega⟩
    by_cases c : b = 0
    · subst c
      exact fin (N + 1) a ha hg
    · have e1 : fX9_lowest_6 (N + 2) (lN A) (lN B) x (lN a) (lN b) = fX9_lowest_6 (N + 1) (lN A) (lN B) x (lN b) (lN (a % b)) := by
        rw [fX9_lowest_6, if_neg (by rw [lN_z hb2]; exact c), asr_t (lN_nz hb2 (by omega)), stp_n, lN_md ha hb2]
      have g1 : Nat.gcd a b = Nat.gcd b (a % b) := by rw [Nat.gcd_comm a b, Nat.gcd_rec b a, Nat.gcd_comm]
      have hr : a % b < b := Nat.mod_lt a (by omega)
      rw [e1, g1]
      rw [g1] at hg
      by_cases d : a % b = 0
      · rw [d] at hg ⊢
        exact fin N b hb2 hg
      · have e2 : fX9_lowest_6 (N + 1) (lN A) (lN B) x (lN b) (lN (a % b)) = fX9_lowest_6 N (lN A) (lN B) x (lN (a % b)) (lN (b % (a % b))) := by
          rw [fX9_lowest_6, if_neg (by rw [lN_z (by omega)]; exact d), asr_t (lN_nz (by omega) (by omega)), stp_n, lN_md hb2 (by omega)]
        have g2 : Nat.gcd b (a % b) = Nat.gcd (a % b) (b % (a % b)) := by rw [Nat.gcd_comm b, Nat.gcd_rec (a % b) b, Nat.gcd_comm]
        have h2 := mod_half (show 0 < a % b by omega) hr hb
        have h3 : b % (a % b) ≤ b := Nat.mod_le _ _
        rw [e2, g2]
        rw [g2] at hg
        exact ih (a % b) (b % (a % b)) N h2 (by omega) (by omega) (by omega) hg
/-- halving while both are even -/
theorem sh_16 {h r c' : St} : ∀ (m i N A : Nat) (CL : Lt), m < N → i + m ≤ 32 → CL 0 4 = lN A → CL 0 5 = lN (2 ^ m) → 0 < A → A < 2 ^ 62 → ∃ CL', fX0_shorten_16 h r c' N (nI i) CL = some CL' ∧ CL' 0 4 = lN (A / Nat.gcd A (2 ^ m)) ∧ CL' 0 5 = lN (2 ^ m / Nat.gcd A (2 ^ m)) ∧ CL' 4 = CL 4
  | 0, i, N, A, CL, hN, hi, h4, h5, hA, hA2 => by
    obtain ⟨N, rfl⟩ : ∃ M, N = M + 1 := ⟨N - 1, by omega⟩
    refine ⟨CL, ?_, ?_, ?_, rfl⟩
    · rw [fX0_shorten_16, h5]
      by_cases c : (32 : Int32) ≤ nI i
      · rw [if_pos c]
      · rw [if_neg c, if_pos (by rw [lN_l1 (by decide)]; decide)]
    · rw [h4, Nat.pow_zero, Nat.gcd_one_right, Nat.div_one]
    · rw [h5, Nat.pow_zero, Nat.gcd_one_right, Nat.div_one]
  | m + 1, i, N, A, CL, hN, hi, h4, h5, hA, hA2 => by
    obtain ⟨N, rfl⟩ : ∃ M, N = M + 1 := ⟨N - 1, by omega⟩
    have hp : 2 ^ (m + 1) ≤ 2 ^ 32 := Nat.pow_le_pow_right (by decide) (by omega)
    have hp1 : 1 ≤ 2 ^ m := Nat.one_le_two_pow
    have e2 : 2 ^ (m + 1) = 2 ^ m * 2 := Nat.pow_succ 2 m
    have two : (2 : Int64) = lN 2 := rfl
    rw [fX0_shorten_16, if_neg (show ¬ (32 : Int32) ≤ nI i from nI_ge (b := 32) (by omega) (by decide)), h5, if_neg (by rw [lN_l1 (by omega)]; omega), h4, two, lN_md hA2 (by decide)]
    by_cases c : A % 2 = 0
    · rw [if_pos (by rw [lN_z (by omega)]; exact c), lN_dv hA2 (by decide), stp_n]
      have f5 : tS CL 0 4 (lN (A / 2)) 0 5 = lN (2 ^ (m + 1)) := by rw [tS_s, uL_o (by decide)]; exact h5
      rw [f5, lN_dv (by omega) (by decide), stp_n, stp_n, nI_1]
      obtain ⟨CL', a1, a2, a3, a4⟩ := sh_16 (h := h) (r := r) (c' := c') m (i + 1) N (A / 2) (tS (tS CL 0 4 (lN (A / 2))) 0 5 (lN (2 ^ (m + 1) / 2))) (by omega) (by omega) (by rw [tS_s, uL_o (by decide), tS_s, uL_s]) (by rw [tS_s, uL_s, e2, Nat.mul_div_cancel _ (by decide)]) (by omega) (by omega)
      have eg : Nat.gcd A (2 ^ (m + 1)) = Nat.gcd (A / 2) (2 ^ m) * 2 := by
        rw [e2]
        have eA : A = A / 2 * 2 := by omega
        rw (config := { occs := .pos [1] }) [eA]
        rw [Nat.gcd_mul_right]
      refine ⟨CL', a1, ?_, ?_, ?_⟩
      · rw [a2, eg, Nat.mul_comm (Nat.gcd (A / 2) (2 ^ m)) 2, ← Nat.div_div_eq_div_mul]
      · rw [a3, eg, e2, Nat.mul_div_mul_right _ _ (by decide)]
      · rw [a4]; rfl
    · rw [if_neg (by rw [lN_z (by omega)]; exact c)]
      have eg : Nat.gcd A (2 ^ (m + 1)) = 1 := by
        have h2 : Nat.Coprime A 2 := by
          show Nat.gcd A 2 = 1
          rw [Nat.gcd_comm, Nat.gcd_rec, show A % 2 = 1 by omega]
          exact Nat.gcd_one_left 2
        exact h2.pow_right (m + 1)
      refine ⟨CL, rfl, ?_, ?_, rfl⟩
      · rw [eg, Nat.div_one]; exact h4
      · rw [eg, Nat.div_one]; exact h5
theorem f_shorten {h r c : St} {m A : Nat} {CL : Lt} (hm : m ≤ 32) (h4 : CL 0 4 = lN A) (h5 : CL 0 5 = lN (2 ^ m)) (hA : A < 2 ^ 62) : ∃ CL', fX0_shorten h r c CL = some CL' ∧ CL' 0 4 = lN (A / Nat.gcd A (2 ^ m)) ∧ CL' 0 5 = lN (2 ^ m / Nat.gcd A (2 ^ m)) ∧ CL' 4 = CL 4 := by
  unfold fX0_shorten
  rw [h4]
  have hp1 : 1 ≤ 2 ^ m := Nat.one_le_two_pow
  by_cases c : A = 0
  · rw [if_pos (by rw [lN_z hA]; exact c), stp_n]
    refine ⟨tS CL 0 5 1, ?_, ?_, ?_, ?_⟩
    · rw [fX0_shorten_16, if_neg (by decide)]
      have : tS CL 0 5 1 0 5 = lN 1 := by rw [tS_s, uL_s]; rfl
      rw [this, if_pos (by rw [lN_l1 (by decide)]; decide)]
    · rw [tS_s, uL_o (by decide), h4, c, Nat.zero_div]
    · rw [tS_s, uL_s, c, Nat.gcd_zero_left, Nat.div_self (by omega)]; rfl
    · rfl
  · rw [if_neg (by rw [lN_z hA]; exact c)]
    exact sh_16 m 0 300 A CL (by omega) (by omega) h4 h5 (by omega) hA
theorem f_lowest {m A : Nat} (hm : m ≤ 32) (hA : A < 2 ^ 62) (x : Int32) : fX9_lowest (lN A) (lN (2 ^ m)) x = some (if x = 0 then lN (A / Nat.gcd A (2 ^ m)) else lN (2 ^ m / Nat.gcd A (2 ^ m))) := by
  have hp : 2 ^ m ≤ 2 ^ 32 := Nat.pow_le_pow_right (by decide) hm
  have hp1 : 1 ≤ 2 ^ m := Nat.one_le_two_pow
  have hg : 0 < Nat.gcd A (2 ^ m) := Nat.gcd_pos_of_pos_right A (by omega)
  have hg2 : Nat.gcd A (2 ^ m) ≤ 2 ^ m := Nat.gcd_le_right A (by omega)
  unfold fX9_lowest
  rw [low_6 x 33 A (2 ^ m) 300 (by omega) (by omega) hA (by omega) hg, lN_dv hA (by omega), lN_dv (by omega) (by omega)]
