/-! ===== the class' questions over the rows ===== -/
theorem fst1_no {p : Nat → Bool} {v : Nat → Int32} : ∀ {n : Nat}, (∀ i, i < n → p i = false) → fst1 p v n = -1
  | 0, _ => rfl
  | n + 1, h => by
    rw [fst1, fst1_no (fun i hi => h i (by omega)), if_pos rfl, h n (by omega)]
    rfl
theorem fst1_at {p : Nat → Bool} {v : Nat → Int32} {i : Nat} (h1 : ∀ k, k < i → p k = false) (h2 : p i = true) (h3 : ¬ v i = -1) : ∀ {n : Nat}, i < n → fst1 p v n = v i
  | 0, h => absurd h (by omega)
  | n + 1, h => by
    rw [fst1]
    by_cases c : i = n
    · subst c
      rw [fst1_no h1, if_pos rfl, h2]
      rfl
    · rw [fst1_at h1 h2 h3 (by omega : i < n), if_neg h3]
theorem f_arrivesBehind_2 (h r : St) {n q : Nat} (hn : r 0 9 = nI n) (h45 : n ≤ 45) (hq : q < 32) (h2 : ∀ i, i < n → ¬ r 2 i = -1) : ∀ (m i N : Nat), m + i = n → m < N → (∀ k, k < i → bt (r 8 k) q = false) → fX4_arrivesBehind_2 h r N (nI q) (nI i) = some (fst1 (fun i => bt (r 8 i) q) (r 2) n)
  | 0, i, N, e, hN, hb => by
    obtain ⟨N, rfl⟩ : ∃ M, N = M + 1 := ⟨N - 1, by omega⟩
    rw [fX4_arrivesBehind_2, hn, if_pos (by rw [nI_le' (by omega) (by omega)]; omega), fst1_no (fun k hk => hb k (by omega))]
  | m + 1, i, N, e, hN, hb => by
    obtain ⟨N, rfl⟩ : ∃ M, N = M + 1 := ⟨N - 1, by omega⟩
    rw [fX4_arrivesBehind_2, hn, if_neg (by rw [nI_le' (by omega) (by omega)]; omega), chk_nI (by omega) (by decide), stp_n, ix_nI (by omega), f_has _ hq, bd1_s]
    cases c : bt (r 8 i) q
    · rw [if_pos (by simp), stp_n, nI_1]
      exact f_arrivesBehind_2 h r hn h45 hq h2 m (i + 1) N (by omega) (by omega) (fun k hk => by
        by_cases z : k = i
        · rw [z, c]
        · exact hb k (by omega))
    · rw [if_neg (by simp), chk_nI (by omega) (by decide), stp_n, fst1_at hb c (h2 i (by omega)) (by omega)]
theorem f_getsInBehind_2 (h r : St) {n q : Nat} (hn : r 0 9 = nI n) (h45 : n ≤ 45) (hq : q < 32) (h2 : ∀ i, i < n → ¬ r 2 i = -1) : ∀ (m i N : Nat), m + i = n → m < N → (∀ k, k < i → bt (r 5 k) q = false) → fX4_getsInBehind_2 h r N (nI q) (nI i) = some (fst1 (fun i => bt (r 5 i) q) (r 2) n)
  | 0, i, N, e, hN, hb => by
    obtain ⟨N, rfl⟩ : ∃ M, N = M + 1 := ⟨N - 1, by omega⟩
    rw [fX4_getsInBehind_2, hn, if_pos (by rw [nI_le' (by omega) (by omega)]; omega), fst1_no (fun k hk => hb k (by omega))]
  | m + 1, i, N, e, hN, hb => by
    obtain ⟨N, rfl⟩ : ∃ M, N = M + 1 := ⟨N - 1, by omega⟩
    rw [fX4_getsInBehind_2, hn, if_neg (by rw [nI_le' (by omega) (by omega)]; omega), chk_nI (by omega) (by decide), stp_n, ix_nI (by omega), f_has _ hq, bd1_s]
    cases c : bt (r 5 i) q
    · rw [if_pos (by simp), stp_n, nI_1]
      exact f_getsInBehind_2 h r hn h45 hq h2 m (i + 1) N (by omega) (by omega) (fun k hk => by
        by_cases z : k = i
        · rw [z, c]
        · exact hb k (by omega))
    · rw [if_neg (by simp), chk_nI (by omega) (by decide), stp_n, fst1_at hb c (h2 i (by omega)) (by omega)]
theorem f_known_4 (h r : St) {n q : Nat} (hn : r 0 9 = nI n) (h45 : n ≤ 45) (hq : q < 32) : ∀ (m i N : Nat), m + i = n → m < N → fX4_known_4 h r N (nI q) (knR r q i) (nI i) = some (knR r q n)
  | 0, i, N, e, hN => by
    obtain ⟨N, rfl⟩ : ∃ M, N = M + 1 := ⟨N - 1, by omega⟩
    rw [fX4_known_4, hn, if_pos (by rw [nI_le' (by omega) (by omega)]; omega), show i = n by omega]
  | m + 1, i, N, e, hN => by
    obtain ⟨N, rfl⟩ : ∃ M, N = M + 1 := ⟨N - 1, by omega⟩
    have ih := f_known_4 h r hn h45 hq m (i + 1) N (by omega) (by omega)
    rw [fX4_known_4, hn, if_neg (by rw [nI_le' (by omega) (by omega)]; omega), chk_nI (by omega) (by decide), stp_n, ix_nI (by omega), f_has _ hq, bd1_s]
    rw [knR] at ih
    cases c : bt (r 5 i) q
    · rw [c] at ih
      rw [if_pos (by simp), stp_n, nI_1]
      exact ih
    · rw [c] at ih
      rw [if_neg (by simp), chk_nI (by omega) (by decide), stp_n, stp_n, stp_n, nI_1]
      exact ih
theorem f_timesRefused_4 (h r : St) {n q : Nat} (hn : r 0 9 = nI n) (h45 : n ≤ 45) (hq : q < 32) : ∀ (m i N : Nat), m + i = n → m < N → fX4_timesRefused_4 h r N (nI q) (cnt1 (fun i => bt (r 9 i) q) i) (nI i) = some (cnt1 (fun i => bt (r 9 i) q) n)
  | 0, i, N, e, hN => by
    obtain ⟨N, rfl⟩ : ∃ M, N = M + 1 := ⟨N - 1, by omega⟩
    rw [fX4_timesRefused_4, hn, if_pos (by rw [nI_le' (by omega) (by omega)]; omega), show i = n by omega]
  | m + 1, i, N, e, hN => by
    obtain ⟨N, rfl⟩ : ∃ M, N = M + 1 := ⟨N - 1, by omega⟩
    have ih := f_timesRefused_4 h r hn h45 hq m (i + 1) N (by omega) (by omega)
    rw [fX4_timesRefused_4, hn, if_neg (by rw [nI_le' (by omega) (by omega)]; omega), chk_nI (by omega) (by decide), stp_n, stp_n, stp_n, ix_nI (by omega), bt_get _ hq, nI_1]
    rw [cnt1] at ih
    cases c : bt (r 9 i) q
    · rw [c] at ih
      simp only [Bool.false_eq_true, if_false, Int32.add_zero] at ih ⊢
      exact ih
    · rw [c] at ih
      simp only [if_true] at ih ⊢
      exact ih
theorem f_refusesInRow_2 (h r : St) {n : Nat} (hn : r 0 9 = nI n) (h45 : n ≤ 45) : ∀ (m i N : Nat), m + i = n → m < N → (∀ k, k < i → (!decide (r 9 k = 0)) = false) → fX4_refusesInRow_2 h r N (nI i) = some (fst1 (fun i => !decide (r 9 i = 0)) (fun i => nI i) n)
  | 0, i, N, e, hN, hb => by
    obtain ⟨N, rfl⟩ : ∃ M, N = M + 1 := ⟨N - 1, by omega⟩
    rw [fX4_refusesInRow_2, hn, if_pos (by rw [nI_le' (by omega) (by omega)]; omega), fst1_no (fun k hk => hb k (by omega))]
  | m + 1, i, N, e, hN, hb => by
    obtain ⟨N, rfl⟩ : ∃ M, N = M + 1 := ⟨N - 1, by omega⟩
    rw [fX4_refusesInRow_2, hn, if_neg (by rw [nI_le' (by omega) (by omega)]; omega), chk_nI (by omega) (by decide), stp_n, ix_nI (by omega)]
    by_cases c : r 9 i = 0
    · rw [if_pos c, stp_n, nI_1]
      exact f_refusesInRow_2 h r hn h45 m (i + 1) N (by omega) (by omega) (fun k hk => by
        by_cases z : k = i
        · rw [z, c]; rfl
        · exact hb k (by omega))
    · rw [if_neg c, fst1_at (v := fun i => nI i) hb (by simp [c]) (nI_nm (by omega)) (by omega)]
