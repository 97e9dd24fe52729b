/-! ===== texts: what a text says ===== -/
theorem nI_mul (a b : Nat) : nI a * nI b = nI (a * b) := (Int32.ofNat_mul a b).symm
def mS (κ k b : Nat) : Bool := if κ = 2 then decide (48 ≤ b ∧ b ≤ 57) else if k % 4 = 3 then decide (b = 59) else decide ((if κ = 0 ∧ k % 4 = 0 then 49 else 48) ≤ b ∧ b ≤ (if κ = 1 ∧ k % 4 = 2 then 55 else 57))
theorem mayF : ∀ κ : Fin 3, ∀ k : Fin 31, ∀ b : Fin 256, fX7_mayStand (fun _ _ => nI κ.val) (nI k.val) (nI b.val) = some (if mS κ.val k.val b.val then 1 else 0) := by decide +kernel
theorem f_mayStand {t : St} {κ k b : Nat} (ht : t 0 0 = nI κ) (hκ : κ < 3) (hk : k < 31) (hb : b < 256) : fX7_mayStand t (nI k) (nI b) = some (if mS κ k b then 1 else 0) := by
  have e : fX7_mayStand t (nI k) (nI b) = fX7_mayStand (fun _ _ => t 0 0) (nI k) (nI b) := rfl
  rw [e, ht]
  exact mayF ⟨κ, hκ⟩ ⟨k, hk⟩ ⟨b, hb⟩
def ffE (κ n : Nat) : Int32 := if κ = 2 ∨ n = 0 ∨ n % 4 = 3 then -1 else nI n
def ffS (κ n : Nat) (B : Nat → Nat) : Nat → Nat → Int32
  | 0, _ => ffE κ n
  | m + 1, i => if mS κ i (B i) then ffS κ n B m (i + 1) else nI i
/-- a text of the class: kind κ, n bytes B -/
def Tx (t : St) (κ n : Nat) (B : Nat → Nat) : Prop := t 0 0 = nI κ ∧ κ < 3 ∧ t 0 1 = nI (if κ = 2 then 20 else 31) ∧ t 0 3 = nI n ∧ n ≤ (if κ = 2 then 20 else 31) ∧ ∀ k, k < n → t 3 k = nI (B k) ∧ B k < 256
theorem Tx_n {t : St} {κ n : Nat} {B : Nat → Nat} (h : Tx t κ n B) : n ≤ 31 := by
  have := h.2.2.2.2.1
  split at this <;> omega
theorem md_fin : ∀ n : Fin 32, (nI n.val - nI n.val / 4 * 4 = 3 ↔ n.val % 4 = 3) ∧ (nI n.val + 1) / 4 = nI ((n.val + 1) / 4) := by decide +kernel
theorem ffE_e {t : St} {κ n : Nat} {B : Nat → Nat} (h : Tx t κ n B) : (if t 0 0 = 2 then (some ((-1))) else (if (t 0 3) = 0 then (some ((-1))) else (if ((t 0 3) - (t 0 3) / 4 * 4) = 3 then (some ((-1))) else (some (t 0 3))))) = some (ffE κ n) := by
  have hn := Tx_n h
  obtain ⟨h1, h2, h3, h4, h5, h6⟩ := h
  have m := (md_fin ⟨n, by omega⟩).1
  simp only at m
  rw [h1, h4]
  unfold ffE
  by_cases c : κ = 2
  · rw [c, if_pos (show nI 2 = 2 from rfl), if_pos (Or.inl rfl)]
  · rw [if_neg (by rw [show (2 : Int32) = nI 2 from rfl, nI_eq (by omega) (by omega)]; exact c)]
    by_cases c2 : n = 0
    · rw [c2, if_pos (show nI 0 = 0 from rfl), if_pos (Or.inr (Or.inl rfl))]
    · rw [if_neg (nI_ne0 (by omega) (by omega))]
      by_cases c3 : n % 4 = 3
      · rw [if_pos (m.mpr c3), if_pos (Or.inr (Or.inr c3))]
      · rw [if_neg (fun z => c3 (m.mp z)), if_neg (by omega)]
theorem f_firstFault_2 {t : St} {κ n : Nat} {B : Nat → Nat} (h : Tx t κ n B) : ∀ (m i N : Nat), m + i = n → m < N → fX7_firstFault_2 t N (nI i) = some (ffS κ n B m i)
  | 0, i, N, e, hN => by
    obtain ⟨N, rfl⟩ : ∃ M, N = M + 1 := ⟨N - 1, by omega⟩
    have hn := Tx_n h
    rw [fX7_firstFault_2, if_pos (by rw [h.2.2.2.1, nI_le' (by omega) (by omega)]; omega), ffE_e h]
    rfl
  | m + 1, i, N, e, hN => by
    obtain ⟨N, rfl⟩ : ∃ M, N = M + 1 := ⟨N - 1, by omega⟩
    have hn := Tx_n h
    have ih := f_firstFault_2 h m (i + 1) N (by omega) (by omega)
    obtain ⟨h1, h2, h3, h4, h5, h6⟩ := id h
    obtain ⟨b1, b2⟩ := h6 i (by omega)
    rw [fX7_firstFault_2, if_neg (by rw [h4, nI_le' (by omega) (by omega)]; omega), if_neg (by rw [show (31 : Int32) = nI 31 from rfl, nI_le' (by omega) (by omega)]; omega), rd_nI rfl (show i < 31 by omega) (by decide), b1, f_mayStand h1 h2 (by omega) b2, bd1_s, ffS]
    cases c : mS κ i (B i)
    · rw [if_pos (by simp)]; rfl
    · rw [if_neg (by simp), stp_n, nI_1, ih]; rfl
theorem f_firstFault {t : St} {κ n : Nat} {B : Nat → Nat} (h : Tx t κ n B) : fX7_firstFault t = some (ffS κ n B n 0) := f_firstFault_2 h n 0 300 (by omega) (by have := Tx_n h; omega)
theorem ffS_m1 {κ n : Nat} {B : Nat → Nat} (hn : n ≤ 31) : ∀ (m i : Nat), m + i = n → ffS κ n B m i = -1 → (∀ k, i ≤ k → k < n → mS κ k (B k) = true) ∧ (κ = 2 ∨ n = 0 ∨ n % 4 = 3)
  | 0, i, e, h => by
    rw [ffS, ffE] at h
    refine ⟨fun k a b => absurd b (by omega), ?_⟩
    by_cases c : κ = 2 ∨ n = 0 ∨ n % 4 = 3
    · exact c
    · rw [if_neg c] at h
      exact absurd h (nI_nm (by omega))
  | m + 1, i, e, h => by
    rw [ffS] at h
    cases c : mS κ i (B i)
    · rw [c] at h
      exact absurd h (nI_nm (by omega))
    · rw [c] at h
      obtain ⟨a, b⟩ := ffS_m1 hn m (i + 1) (by omega) h
      refine ⟨fun k h1 h2 => ?_, b⟩
      by_cases d : k = i
      · rw [d]; exact c
      · exact a k (by omega) h2
/-- how many parts -/
def prt (κ n : Nat) (B : Nat → Nat) : Nat := if ffS κ n B n 0 = -1 then (if κ = 2 then n else (n + 1) / 4) else 0
theorem prt_20 {n : Nat} {B : Nat → Nat} {t : St} (h : Tx t 2 n B) : prt 2 n B ≤ 20 ∧ (∀ k, k < prt 2 n B → mS 2 k (B k) = true) ∧ prt 2 n B ≤ n := by
  have hn := h.2.2.2.2.1
  rw [if_pos rfl] at hn
  unfold prt
  by_cases c : ffS 2 n B n 0 = -1
  · rw [if_pos c, if_pos rfl]
    exact ⟨hn, fun k hk => (ffS_m1 (by omega) n 0 (by omega) c).1 k (by omega) hk, Nat.le_refl _⟩
  · rw [if_neg c]
    exact ⟨by omega, fun k hk => absurd hk (by omega), by omega⟩
theorem prt_8 {κ n : Nat} {B : Nat → Nat} (hn : n ≤ 31) (hκ : κ ≠ 2) : prt κ n B ≤ 8 ∧ ∀ p, p < prt κ n B → 4 * p + 2 < n ∧ mS κ (4 * p) (B (4 * p)) = true ∧ mS κ (4 * p + 1) (B (4 * p + 1)) = true ∧ mS κ (4 * p + 2) (B (4 * p + 2)) = true := by
  unfold prt
  by_cases c : ffS κ n B n 0 = -1
  · rw [if_pos c, if_neg hκ]
    obtain ⟨a, b⟩ := ffS_m1 hn n 0 (by omega) c
    refine ⟨by omega, fun p hp => ?_⟩
    have h3 : 4 * p + 2 < n := by
      rcases b with b | b | b
      · exact absurd b hκ
      · omega
      · omega
    exact ⟨h3, a _ (by omega) (by omega), a _ (by omega) (by omega), a _ (by omega) (by omega)⟩
  · rw [if_neg c]
    exact ⟨by omega, fun p hp => absurd hp (by omega)⟩
theorem f_parts {t : St} {κ n : Nat} {B : Nat → Nat} (h : Tx t κ n B) : fX7_parts t = some (nI (prt κ n B)) := by
  have hn := Tx_n h
  have m := (md_fin ⟨n, by omega⟩).2
  simp only at m
  unfold fX7_parts prt
  rw [f_firstFault h, bd1_s]
  by_cases c : ffS κ n B n 0 = -1
  · rw [if_pos c, if_pos c, h.1, h.2.2.2.1, m]
    by_cases d : κ = 2
    · rw [d, if_pos (show nI 2 = 2 from rfl), if_pos rfl]
    · rw [if_neg (by rw [show (2 : Int32) = nI 2 from rfl, nI_eq (by have := h.2.1; omega) (by omega)]; exact d), if_neg d]
  · rw [if_neg c, if_neg c]; rfl
/-- a figure of the class' text -/
theorem nI_48 : ∀ b : Fin 256, 48 ≤ b.val → nI b.val - 48 = nI (b.val - 48) := by decide +kernel
theorem f_figure {t : St} {κ n k : Nat} {B : Nat → Nat} (h : Tx t κ n B) (hk : k < n) (hb : 48 ≤ B k) : fX7_figure t (nI k) = some (nI (B k - 48)) := by
  have hn := Tx_n h
  obtain ⟨b1, b2⟩ := h.2.2.2.2.2 k hk
  unfold fX7_figure
  rw [if_neg (nI_pos (by omega)), if_pos (by rw [show (31 : Int32) = nI 31 from rfl, nI_lt' (by omega) (by omega)]; omega), rd_nI rfl (show k < 31 by omega) (by decide), b1, nI_48 ⟨B k, b2⟩ hb]
theorem mS_fig {κ k b : Nat} (h : mS κ k b = true) (hk : κ = 2 ∨ k % 4 ≠ 3) : 48 ≤ b ∧ b ≤ 57 ∧ (κ = 1 → k % 4 = 2 → b ≤ 55) := by
  unfold mS at h
  by_cases c : κ = 2
  · rw [if_pos c] at h
    simp only [decide_eq_true_eq] at h
    exact ⟨h.1, h.2, fun z => by omega⟩
  · rw [if_neg c, if_neg (by omega)] at h
    simp only [decide_eq_true_eq] at h
    obtain ⟨h1, h2⟩ := h
    split at h1 <;> split at h2 <;> refine ⟨by omega, by omega, fun a b => by omega⟩
/-! ===== texts: the reference ===== -/
/-- text κ of the reference: n bytes B -/
def Rx (s : St) (κ n : Nat) (B : Nat → Nat) : Prop := s 1 κ = nI n ∧ n ≤ 31 ∧ κ < 3 ∧ ∀ k, k < n → s 2 (31 * κ + k) = nI (B k) ∧ B k < 256
theorem f_byteAt {s : St} {κ n k : Nat} {B : Nat → Nat} (h : Rx s κ n B) (hk : k < 1000) : fX9_byteAt s (nI κ) (nI k) = some (if k < n then nI (B k) else -1) := by
  obtain ⟨h1, h2, h3, h4⟩ := h
  unfold fX9_byteAt
  rw [rd_nI rfl h3 (by decide), h1]
  by_cases c : k < n
  · rw [if_neg (by rw [nI_le' (by omega) (by omega)]; omega), if_pos c, show (31 : Int32) = nI 31 from rfl, nI_mul, nI_add, rd_nI rfl (show 31 * κ + k < 93 by omega) (by decide), (h4 k c).1]
  · rw [if_pos (by rw [nI_le' (by omega) (by omega)]; omega), if_neg c]
def fig (lo hi b : Nat) : Int32 := if 48 + lo ≤ b ∧ b ≤ 48 + hi then nI (b - 48) else -1
theorem fig_fin : ∀ lo : Fin 2, ∀ hi : Fin 10, ∀ b : Fin 256, bd1 (fX9_in (nI b.val - 48) (nI lo.val) (nI hi.val)) (fun r4 => if r4 = 0 then (some ((-1))) else (some (nI b.val - 48))) = some (fig lo.val hi.val b.val) := by decide +kernel
theorem fig_out : ∀ lo : Fin 2, ∀ hi : Fin 10, bd1 (fX9_in ((-1) - 48) (nI lo.val) (nI hi.val)) (fun r4 => if r4 = 0 then (some ((-1))) else (some ((-1 : Int32) - 48))) = some (-1) := by decide +kernel
theorem f_figureAt {s : St} {κ n k : Nat} {B : Nat → Nat} (h : Rx s κ n B) (hk : k < 1000) {lo hi : Nat} (hlo : lo < 2) (hhi : hi < 10) : fX9_figureAt s (nI κ) (nI k) (nI lo) (nI hi) = some (if k < n then fig lo hi (B k) else -1) := by
  unfold fX9_figureAt
  rw [f_byteAt h hk, bd1_s, stp_n]
  by_cases c : k < n
  · rw [if_pos c, if_pos c]
    exact fig_fin ⟨lo, hlo⟩ ⟨hi, hhi⟩ ⟨B k, (h.2.2.2 k c).2⟩
  · rw [if_neg c, if_neg c]
    exact fig_out ⟨lo, hlo⟩ ⟨hi, hhi⟩
theorem fig_no {lo hi b : Nat} (hb : b < 256) : (fig lo hi b = -1) = ¬ (48 + lo ≤ b ∧ b ≤ 48 + hi) := by
  apply propext
  unfold fig
  by_cases c : 48 + lo ≤ b ∧ b ≤ 48 + hi
  · rw [if_pos c]
    exact ⟨fun z => absurd z (nI_nm (by omega)), fun z => absurd c z⟩
  · rw [if_neg c]
    exact ⟨fun _ => c, fun _ => rfl⟩
/-- how many bytes of the p-th part stand -/
def okB (κ n : Nat) (B : Nat → Nat) (k : Nat) : Bool := decide (k < n) && mS κ k (B k)
def gd (κ n : Nat) (B : Nat → Nat) (p : Nat) : Nat := if okB κ n B (4 * p) = false then 0 else if okB κ n B (4 * p + 1) = false then 1 else if okB κ n B (4 * p + 2) = false then 2 else 3
theorem ok_fig {κ n k : Nat} {B : Nat → Nat} (hk3 : k % 4 ≠ 3) (hκ : κ ≠ 2) (hb : k < n → B k < 256) {lo hi : Nat} (hlo : lo = if κ = 0 ∧ k % 4 = 0 then 1 else 0) (hhi : hi = if κ = 1 ∧ k % 4 = 2 then 7 else 9) : ((if k < n then fig lo hi (B k) else -1) = -1) = (okB κ n B k = false) := by
  unfold okB
  by_cases c : k < n
  · rw [if_pos c, fig_no (hb c)]
    unfold mS
    rw [if_neg hκ, if_neg hk3]
    have e1 : 48 + lo = if κ = 0 ∧ k % 4 = 0 then 49 else 48 := by rw [hlo]; split <;> rfl
    have e2 : 48 + hi = if κ = 1 ∧ k % 4 = 2 then 55 else 57 := by rw [hhi]; split <;> rfl
    rw [e1, e2]
    simp [c]
  · rw [if_neg c]; simp [c]
theorem ffS_part {κ n p : Nat} {B : Nat → Nat} (hκ : κ ≠ 2) (h0 : 0 < n) (hp : 4 * p ≤ n) : ffS κ n B (n - 4 * p) (4 * p) = if gd κ n B p < 3 then nI (4 * p + gd κ n B p) else if n = 4 * p + 3 then -1 else if mS κ (4 * p + 3) (B (4 * p + 3)) then ffS κ n B (n - 4 * (p + 1)) (4 * (p + 1)) else nI (4 * p + 3) := by
  unfold gd okB
  have e1 : ∀ k, n = 4 * p + k → k < 3 → ffE κ n = nI (4 * p + k) := fun k hk h3 => by
    unfold ffE
    rw [if_neg (by omega), hk]
  have e3 : n = 4 * p + 3 → ffE κ n = -1 := fun hk => by unfold ffE; rw [if_pos (by omega)]
  by_cases c0 : n = 4 * p
  · rw [show n - 4 * p = 0 by omega, ffS, e1 0 (by omega) (by omega)]
    have : ¬ 4 * p < n := by omega
    simp [this]
  · obtain ⟨m, hm⟩ : ∃ m, n - 4 * p = m + 1 := ⟨n - 4 * p - 1, by omega⟩
    have d0 : 4 * p < n := by omega
    rw [hm, ffS]
    cases a0 : mS κ (4 * p) (B (4 * p))
    · simp
    · simp only [if_true, d0, decide_true, Bool.true_and, Bool.true_eq_false, if_false]
      by_cases c1 : n = 4 * p + 1
      · rw [show m = 0 by omega, ffS, e1 1 c1 (by omega)]
        have : ¬ 4 * p + 1 < n := by omega
        simp [this]
      · obtain ⟨m1, rfl⟩ : ∃ x, m = x + 1 := ⟨m - 1, by omega⟩
        have d1 : 4 * p + 1 < n := by omega
        rw [ffS]
        cases a1 : mS κ (4 * p + 1) (B (4 * p + 1))
        · simp
        · simp only [if_true, d1, decide_true, Bool.true_and, Bool.true_eq_false, if_false]
          by_cases c2 : n = 4 * p + 2
          · rw [show m1 = 0 by omega, ffS, e1 2 c2 (by omega)]
            have : ¬ 4 * p + 2 < n := by omega
            simp [this]
          · obtain ⟨m2, rfl⟩ : ∃ x, m1 = x + 1 := ⟨m1 - 1, by omega⟩
            have d2 : 4 * p + 2 < n := by omega
            rw [show 4 * p + 1 + 1 = 4 * p + 2 by omega, ffS]
            cases a2 : mS κ (4 * p + 2) (B (4 * p + 2))
            · simp [d2]
            · simp only [if_true, d2, decide_true, Bool.true_and, Bool.true_eq_false, if_false]
              rw [if_neg (by omega)]
              by_cases c3 : n = 4 * p + 3
              · rw [show m2 = 0 by omega, ffS, e3 c3, if_pos c3]
              · obtain ⟨m3, rfl⟩ : ∃ x, m2 = x + 1 := ⟨m2 - 1, by omega⟩
                rw [if_neg c3, show 4 * p + 2 + 1 = 4 * p + 3 by omega, ffS, show n - 4 * (p + 1) = m3 by omega, show 4 * (p + 1) = 4 * p + 3 + 1 by omega]
