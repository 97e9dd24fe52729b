/-! ===== how many have arrived ===== -/
def cnb (x : Int32) : Nat → Int32
  | 0 => 0
  | n + 1 => if bt x n then cnb x n + 1 else cnb x n
theorem bt_255f : ∀ k : Fin 32, bt 255 k.val = decide (k.val < 8) := by decide
theorem bt_255 {k : Nat} (hk : k < 32) : bt 255 k = decide (k < 8) := bt_255f ⟨k, hk⟩
theorem lo8 {v : Int32} (h : ∀ k, k < 32 → bt v k = true → k < 8) : ∃ m, m < 256 ∧ v = nI m := by
  have e : v &&& 255 = v := by
    apply bt_ext
    intro k hk
    rw [bt_and, bt_255 hk]
    cases c : bt v k
    · rfl
    · simp [h k hk c]
  refine ⟨v.toBitVec.toNat, ?_, ?_⟩
  · rw [← e, Int32.toBitVec_and, BitVec.toNat_and]
    have h5 : (255 : Int32).toBitVec.toNat = 255 := by decide
    rw [h5]
    exact Nat.lt_of_le_of_lt Nat.and_le_right (by decide)
  · apply Int32.toBitVec_inj.mp
    show v.toBitVec = BitVec.ofNat 32 v.toBitVec.toNat
    simp
theorem bitc : ∀ m : Fin 256, fJ6_bitCount_0f7a4 (nI m.val) = some (cnb (nI m.val) 8) := by decide +kernel
theorem Mn_le {r : St} {j q : Nat} (h : Mn r j) : ∀ {k i : Nat}, i ≤ k → k ≤ j → bt (r 8 i) q = true → bt (r 8 k) q = true := by
  intro k
  induction k with
  | zero => intro i hi _ hb; rw [show i = 0 by omega] at hb; exact hb
  | succ k ih =>
    intro i hi hk hb
    by_cases c : i = k + 1
    · rw [c] at hb; exact hb
    · exact h k q (by omega) (ih (by omega) (by omega) hb)
theorem Rid_8 {h r t : St} {nr nl hf j w fl q : Nat} (H : Rid h r t nr nl hf j w fl) (hq : q < 32) (hb : bt (r 8 j) q = true) : q < nr := H.1.2.2.2.1.2.2.2.2.2.2.2.2.1 q hq hb
theorem Rid_nr {h r t : St} {nr nl hf j w fl : Nat} (H : Rid h r t nr nl hf j w fl) : nr ≤ 8 := H.1.1.1.2.2
/-- the first row in which a rider has arrived -/
theorem arr_first {h r t : St} {nr nl hf j w fl q : Nat} (H : Rid h r t nr nl hf j w fl) (hq : q < nr) : (t 28 q = -1 ∧ ∀ i, i ≤ j → bt (r 8 i) q = false) ∨ ∃ i, i ≤ j ∧ t 28 q = nI (whn r i) ∧ bt (r 8 i) q = true ∧ ∀ k, k < i → bt (r 8 k) q = false := by
  obtain ⟨⟨hH, hL, hR, hC, hI, hP, hV⟩, -⟩ := H
  rw [(hP.1 q hq).2.1]
  rcases fst1_cs (fun i => bt (r 8 i) q) (j + 1) with a | ⟨i, h1, h2, h3⟩
  · exact Or.inl ⟨fst1_no a, fun i hi => a i (by omega)⟩
  · refine Or.inr ⟨i, by omega, ?_, h2, h3⟩
    rw [fst1_at h3 h2 (Rws_2 hR i h1) h1, (hR.2.1 i (by omega)).1]
theorem arr_iff {h r t : St} {nr nl hf j w fl q : Nat} (H : Rid h r t nr nl hf j w fl) (hq : q < nr) : (t 28 q = -1) = (bt (r 8 j) q = false) := by
  apply propext
  rcases arr_first H hq with ⟨a, b⟩ | ⟨i, h1, h2, h3, h4⟩
  · exact ⟨fun _ => b j (Nat.le_refl _), fun _ => a⟩
  · have hb := Mn_le H.2.2.2.2.2.2.2.2.2.1 h1 (Nat.le_refl _) h3
    rw [h2, hb]
    have hw := (H.1.2.2.1.2.1 i h1).2.1
    exact ⟨fun z => absurd z (nI_nm (by omega)), fun z => by cases z⟩
theorem cnb_up {x : Int32} {n : Nat} : ∀ m, n ≤ m → (∀ k, n ≤ k → k < m → bt x k = false) → cnb x m = cnb x n
  | 0, hm, _ => by rw [show n = 0 by omega]
  | m + 1, hm, h => by
    by_cases c : n = m + 1
    · rw [c]
    · rw [cnb, h m (by omega) (by omega)]
      exact cnb_up m (by omega) (fun k h1 h2 => h k h1 (by omega))
theorem q_many {h r t : St} {nr nl hf j w fl : Nat} (H : Rid h r t nr nl hf j w fl) : fX4_howManyArrived h r = some (cnb (r 8 j) nr) := by
  have h8 := Rid_nr H
  have hj : j ≤ 44 := H.2.2.2.2.1
  obtain ⟨m, hm, em⟩ := lo8 (v := r 8 j) (fun k hk hb => by have := Rid_8 H hk hb; omega)
  have hc : cnb (r 8 j) 8 = cnb (r 8 j) nr := cnb_up 8 h8 (fun k h1 h2 => by
    cases c : bt (r 8 j) k
    · rfl
    · exact absurd (Rid_8 H (by omega) c) (by omega))
  unfold fX4_howManyArrived
  rw [H.1.2.2.1.1, nI_p, chk_nI (by omega) (by decide), stp_n, ix_nI (by omega), ← hc, em, bitc ⟨m, hm⟩, bd1_s]
/-- how many have arrived: the reference's count -/
theorem f_sumOf_8 {h r t : St} {nr nl hf j w fl : Nat} (H : Rid h r t nr nl hf j w fl) (x : Int32) : ∀ (m k N : Nat), m + k = nr → m < N → fX9_sumOf_8 N x (cnb (r 8 j) k) (nI k) t = some ((if x = 0 then t 0 2 else if x = 1 then t 0 6 else if x = 2 then t 0 9 else cnb (r 8 j) nr), t)
  | 0, k, N, e, hN => by
    obtain ⟨N, rfl⟩ : ∃ M, N = M + 1 := ⟨N - 1, by omega⟩
    have h8 := Rid_nr H
    have ek : k = nr := by omega
    rw [fX9_sumOf_8, H.1.1.1.2.1, if_pos (by rw [nI_le' (by omega) (by omega)]; omega), ek]
    by_cases c0 : x = 0
    · rw [if_pos c0, if_pos c0]
    · rw [if_neg c0, if_neg c0]
      by_cases c1 : x = 1
      · rw [if_pos c1, if_pos c1]
      · rw [if_neg c1, if_neg c1]
        by_cases c2 : x = 2
        · rw [if_pos c2, if_pos c2]
        · rw [if_neg c2, if_neg c2]
  | m + 1, k, N, e, hN => by
    obtain ⟨N, rfl⟩ : ∃ M, N = M + 1 := ⟨N - 1, by omega⟩
    have h8 := Rid_nr H
    have ih := f_sumOf_8 H x m (k + 1) N (by omega) (by omega)
    rw [cnb] at ih
    rw [fX9_sumOf_8, H.1.1.1.2.1, if_neg (by rw [nI_le' (by omega) (by omega)]; omega), rd_nI rfl (show k < 8 by omega) (by decide)]
    simp only [arr_iff H (show k < nr by omega), stp_n, nI_1]
    cases c : bt (r 8 j) k
    · rw [c] at ih
      rw [if_pos rfl, Int32.add_zero]
      exact ih.trans (by rw [H.1.1.1.2.1])
    · rw [c] at ih
      rw [if_neg (by decide)]
      exact ih.trans (by rw [H.1.1.1.2.1])
theorem f_dayOf_64 {h r t : St} {nr nl hf j w fl : Nat} (H : Rid h r t nr nl hf j w fl) (x : Int32) : ∀ (m k N : Nat), m + k = nr → m < N → fX9_dayOf_64 N x (cnb (r 8 j) k) (nI k) t = some ((if x = 0 then cnb (r 8 j) nr else t 0 16), t)
  | 0, k, N, e, hN => by
    obtain ⟨N, rfl⟩ : ∃ M, N = M + 1 := ⟨N - 1, by omega⟩
    have h8 := Rid_nr H
    have ek : k = nr := by omega
    rw [fX9_dayOf_64, H.1.1.1.2.1, if_pos (by rw [nI_le' (by omega) (by omega)]; omega), ek]
    by_cases c0 : x = 0
    · rw [if_pos c0, if_pos c0]
    · rw [if_neg c0, if_neg c0]
  | m + 1, k, N, e, hN => by
    obtain ⟨N, rfl⟩ : ∃ M, N = M + 1 := ⟨N - 1, by omega⟩
    have h8 := Rid_nr H
    have ih := f_dayOf_64 H x m (k + 1) N (by omega) (by omega)
    rw [cnb] at ih
    rw [fX9_dayOf_64, H.1.1.1.2.1, if_neg (by rw [nI_le' (by omega) (by omega)]; omega), rd_nI rfl (show k < 8 by omega) (by decide)]
    simp only [arr_iff H (show k < nr by omega), stp_n, nI_1]
    cases c : bt (r 8 j) k
    · rw [c] at ih
      rw [if_pos rfl, Int32.add_zero]
      exact ih
    · rw [c] at ih
      rw [if_neg (by decide)]
      exact ih
/-- who has arrived behind a step: the reference's bits -/
def arB (t : St) (T : Int32) : Nat → Int32
  | 0 => 0
  | n + 1 => if t 28 n = -1 ∨ T < t 28 n then arB t T n else arB t T n ||| ((1 : Int32) <<< (nI n &&& 31))
theorem bt_arB (t : St) (T : Int32) {q : Nat} (hq : q < 32) : ∀ n, n ≤ 32 → bt (arB t T n) q = (decide (q < n) && (!decide (t 28 q = -1) && !decide (T < t 28 q)))
  | 0, _ => by rw [arB, bt_zero]; simp
  | n + 1, hn => by
    have ih := bt_arB t T hq n (by omega)
    rw [arB]
    by_cases c : t 28 n = -1 ∨ T < t 28 n
    · rw [if_pos c, ih]
      by_cases e : q = n
      · subst e
        rcases c with c | c <;> simp [c]
      · simp [show (q < n + 1) = (q < n) by apply propext; omega]
    · rw [if_neg c, bt_or, ih, bt_one (by omega)]
      by_cases e : q = n
      · subst e
        have c1 : ¬ t 28 q = -1 := fun z => c (Or.inl z)
        have c2 : ¬ T < t 28 q := fun z => c (Or.inr z)
        simp [c1, c2]
      · simp [e, show (q < n + 1) = (q < n) by apply propext; omega]
theorem f_arrivedNow_4 {t : St} {nr : Nat} (hr : t 0 2 = nI nr) (h8 : nr ≤ 8) (T : Int32) : ∀ (m k N : Nat), m + k = nr → m < N → fX9_arrivedNow_4 t N T (arB t T k) (nI k) = some (arB t T nr)
  | 0, k, N, e, hN => by
    obtain ⟨N, rfl⟩ : ∃ M, N = M + 1 := ⟨N - 1, by omega⟩
    rw [fX9_arrivedNow_4, hr, if_pos (by rw [nI_le' (by omega) (by omega)]; omega), show k = nr by omega]
  | m + 1, k, N, e, hN => by
    obtain ⟨N, rfl⟩ : ∃ M, N = M + 1 := ⟨N - 1, by omega⟩
    have ih := f_arrivedNow_4 hr h8 T m (k + 1) N (by omega) (by omega)
    rw [arB] at ih
    rw [fX9_arrivedNow_4, hr, if_neg (by rw [nI_le' (by omega) (by omega)]; omega), rd_nI rfl (show k < 8 by omega) (by decide)]
    by_cases c : t 28 k = -1
    · rw [if_pos (Or.inl c)] at ih
      rw [if_pos c, stp_n, stp_n, or_z, nI_1, ih]
    · rw [if_neg c, rd_nI rfl (show k < 8 by omega) (by decide)]
      by_cases c2 : T < t 28 k
      · rw [if_pos (Or.inr c2)] at ih
        rw [if_pos c2, stp_n, stp_n, or_z, nI_1, ih]
      · rw [if_neg (fun z => z.elim c c2)] at ih
        rw [if_neg c2, stp_n, stp_n, nI_1, ih]
theorem f_arrivedNow {t : St} {nr : Nat} (hr : t 0 2 = nI nr) (h8 : nr ≤ 8) (T : Int32) : fX9_arrivedNow t T = some (arB t T nr) := f_arrivedNow_4 hr h8 T nr 0 300 (by omega) (by omega)
/-- .. and the class' row of that step -/
theorem q_arrivedRow {h r t : St} {nr nl hf j w fl k T : Nat} (H : Rid h r t nr nl hf j w fl) (hT : T < 1000) (hk : k ≤ j) (h3 : whn r k ≤ T) (h4 : k = j ∨ T < whn r (k + 1)) : r 8 k = arB t (nI T) nr := by
  have h8 := Rid_nr H
  have hM := H.2.2.2.2.2.2.2.2.2.1
  have hR := H.1.2.2.1
  apply bt_ext
  intro q hq
  rw [bt_arB _ _ hq nr (by omega)]
  by_cases c : q < nr
  · simp only [c, decide_true, Bool.true_and]
    rcases arr_first H c with ⟨a, b⟩ | ⟨i, g1, g2, g3, g4⟩
    · rw [b k hk, a]; simp
    · have hw := (hR.2.1 i g1).2.1
      rw [g2]
      have e1 : decide (nI (whn r i) = -1) = false := by simp [nI_nm (show whn r i < 2 ^ 31 by omega)]
      rw [e1]
      by_cases d : i ≤ k
      · rw [Mn_le hM d hk g3]
        have := Rws_mono hR d hk
        have e2 : ¬ nI T < nI (whn r i) := by rw [nI_lt' (by omega) (by omega)]; omega
        simp [e2]
      · rw [g4 k (by omega)]
        have h5 : T < whn r (k + 1) := by
          rcases h4 with z | z
          · omega
          · exact z
        have := Rws_mono hR (show k + 1 ≤ i by omega) g1
        have e2 : nI T < nI (whn r i) := by rw [nI_lt' (by omega) (by omega)]; omega
        simp [e2]
  · simp only [c, decide_false, Bool.false_and]
    cases d : bt (r 8 k) q
    · rfl
    · exact absurd (Rid_8 H hq (Mn_le hM hk (Nat.le_refl _) d)) c
theorem q_arrivedEnd {h r t : St} {nr nl hf j w fl : Nat} (H : Rid h r t nr nl hf j w fl) : fX9_arrivedNow t 255 = some (r 8 j) := by
  have hw : whn r j = w := H.2.1
  have hw2 : w ≤ 242 := H.2.2.2.2.2.1
  rw [f_arrivedNow H.1.1.1.2.1 (Rid_nr H), q_arrivedRow (T := 255) H (by omega) (Nat.le_refl _) (by omega) (Or.inl rfl)]
  rfl
theorem all_fin : ∀ n : Fin 9, ∀ m : Fin 256, m.val < 2 ^ n.val → ((cnb (nI m.val) n.val = nI n.val) ↔ (nI m.val = ((1 : Int32) <<< (nI n.val &&& 31)) - 1)) := by decide +kernel
theorem q_all {h r t : St} {nr nl hf j w fl : Nat} (H : Rid h r t nr nl hf j w fl) : fX4_allArrived h r = some (if r 8 j = ((1 : Int32) <<< (nI nr &&& 31)) - 1 then 1 else 0) := by
  have h8 := Rid_nr H
  obtain ⟨m, hm, em⟩ := lo8 (v := r 8 j) (fun k hk hb => by have := Rid_8 H hk hb; omega)
  have hlt : m < 2 ^ nr := by
    have e : (r 8 j).toBitVec.toNat = m := by
      rw [em]
      show (BitVec.ofNat 32 m).toNat = m
      rw [BitVec.toNat_ofNat, Nat.mod_eq_of_lt (by omega)]
    rw [← e]
    refine Nat.lt_pow_two_of_testBit _ (fun i hi => ?_)
    show (r 8 j).toBitVec.getLsbD i = false
    by_cases c : i < 32
    · cases d : bt (r 8 j) i
      · exact d
      · exact absurd (Rid_8 H c d) (by omega)
    · exact BitVec.getLsbD_of_ge _ _ (by omega)
  have a := all_fin ⟨nr, by omega⟩ ⟨m, hm⟩ hlt
  simp only at a
  unfold fX4_allArrived
  rw [q_many H, bd1_s, H.1.1.1.1, em]
  by_cases c : nI m = ((1 : Int32) <<< (nI nr &&& 31)) - 1
  · rw [if_pos c, if_pos (a.mpr c)]
  · rw [if_neg c, if_neg (fun z => c (a.mp z))]
