/-! ===== texts: the reference reads riders and leavers ===== -/
theorem fig_in {n k lo hi b : Nat} (h : ¬ (if k < n then fig lo hi b else -1) = -1) : (if k < n then fig lo hi b else -1) = nI (b - 48) := by
  by_cases c : k < n
  · rw [if_pos c] at h ⊢
    unfold fig at h ⊢
    by_cases d : 48 + lo ≤ b ∧ b ≤ 48 + hi
    · rw [if_pos d]
    · rw [if_neg d] at h; exact absurd rfl h
  · rw [if_neg c] at h; exact absurd rfl h
theorem okB3 {κ n p : Nat} {B : Nat → Nat} (h : gd κ n B p = 3) : 4 * p + 2 < n := by
  unfold gd at h
  split at h
  · omega
  · split at h
    · omega
    · split at h
      · omega
      · rename_i c
        unfold okB at c
        simp at c
        exact c.1
theorem sS_id (t : St) (c j : Nat) : sS t c j (t c j) = t := by
  unfold sS
  have : upd (t c) j (t c j) = t c := by
    funext i
    by_cases h : i = j
    · rw [h, upd_s]
    · rw [upd_o h]
  rw [this, up_self]
def up0 (u : St) (B : Nat → Nat) (p : Nat) : St := sS (sS (sS u 4 p (nI (B (4 * p) - 48))) 5 p (nI (B (4 * p + 1) - 48))) 6 p (nI (B (4 * p + 2) - 48))
def Ar0 (u : St) (B : Nat → Nat) (p : Nat) : Prop := ∀ k, k < p → u 4 k = nI (B (4 * k) - 48) ∧ u 5 k = nI (B (4 * k + 1) - 48) ∧ u 6 k = nI (B (4 * k + 2) - 48)
def Fr0 (s u : St) : Prop := (∀ c, c ≠ 0 → c ≠ 4 → c ≠ 5 → c ≠ 6 → u c = s c) ∧ ∀ i, i ≠ 2 → u 0 i = s 0 i
theorem Fr0.rf {s : St} : Fr0 s s := ⟨fun _ _ _ _ _ => rfl, fun _ _ => rfl⟩
theorem Fr0.tr {s u v : St} (a : Fr0 s u) (b : Fr0 u v) : Fr0 s v := ⟨fun c h0 h4 h5 h6 => (b.1 c h0 h4 h5 h6).trans (a.1 c h0 h4 h5 h6), fun i h => (b.2 i h).trans (a.2 i h)⟩
theorem up0_fr (u : St) (B : Nat → Nat) (p : Nat) : Fr0 u (up0 u B p) := ⟨fun c h0 h4 h5 h6 => by unfold up0; rw [sS_o h6, sS_o h5, sS_o h4], fun i _ => rfl⟩
theorem Rx_fr0 {u v : St} {κ n : Nat} {B : Nat → Nat} (F : Fr0 u v) (h : Rx u κ n B) : Rx v κ n B := by
  unfold Rx
  rw [F.1 1 (by decide) (by decide) (by decide) (by decide), F.1 2 (by decide) (by decide) (by decide) (by decide)]
  exact h
theorem F1S0 {u : St} {B : Nat → Nat} {p : Nat} : up0 u B p 0 2 = u 0 2 := rfl
theorem f_readsOne0 {u : St} {n p : Nat} {B : Nat → Nat} (h : Rx u 0 n B) (hp : p < 8) : fX9_readsOne u (nI 0) (nI p) (nI (4 * p)) = some (nI (gd 0 n B p), if gd 0 n B p = 3 then up0 u B p else u) := by
  have f1 : fX9_figureAt u (nI 0) (nI (4 * p)) 1 9 = _ := f_figureAt h (show 4 * p < 1000 by omega) (lo := 1) (hi := 9) (by omega) (by omega)
  have f2 : fX9_figureAt u (nI 0) (nI (4 * p + 1)) 0 9 = _ := f_figureAt h (show 4 * p + 1 < 1000 by omega) (lo := 0) (hi := 9) (by omega) (by omega)
  have f3 : fX9_figureAt u (nI 0) (nI (4 * p + 2)) 0 9 = _ := f_figureAt h (show 4 * p + 2 < 1000 by omega) (lo := 0) (hi := 9) (by omega) (by omega)
  have k1 := ok_fig (κ := 0) (n := n) (k := 4 * p) (B := B) (by omega) (by omega) (fun z => (h.2.2.2 _ z).2) (lo := 1) (hi := 9) (by simp) (by simp)
  have k2 := ok_fig (κ := 0) (n := n) (k := 4 * p + 1) (B := B) (by omega) (by omega) (fun z => (h.2.2.2 _ z).2) (lo := 0) (hi := 9) (by rw [if_neg (by omega)]) (by rw [if_neg (by omega)])
  have k3 := ok_fig (κ := 0) (n := n) (k := 4 * p + 2) (B := B) (by omega) (by omega) (fun z => (h.2.2.2 _ z).2) (lo := 0) (hi := 9) (by rw [if_neg (by omega)]) (by rw [if_neg (by omega)])
  unfold fX9_readsOne
  rw [if_pos (show nI 0 = 0 from rfl), f1, bd1_s, nI_1, f2, bd1_s, show nI (4 * p) + 2 = nI (4 * p + 2) from nI_add (4 * p) 2, f3, bd1_s]
  by_cases c1 : okB 0 n B (4 * p) = false
  · have g : gd 0 n B p = 0 := by unfold gd; rw [if_pos c1]
    rw [if_pos (k1.mpr c1), g]; rfl
  · rw [if_neg (fun z => c1 (k1.mp z))]
    by_cases c2 : okB 0 n B (4 * p + 1) = false
    · have g : gd 0 n B p = 1 := by unfold gd; rw [if_neg c1, if_pos c2]
      rw [if_pos (k2.mpr c2), g]; rfl
    · rw [if_neg (fun z => c2 (k2.mp z))]
      by_cases c3 : okB 0 n B (4 * p + 2) = false
      · have g : gd 0 n B p = 2 := by unfold gd; rw [if_neg c1, if_neg c2, if_pos c3]
        rw [if_pos (k3.mpr c3), g]; rfl
      · have g : gd 0 n B p = 3 := by unfold gd; rw [if_neg c1, if_neg c2, if_neg c3]
        have v1 := fig_in (fun z => c1 (k1.mp z))
        have v2 := fig_in (fun z => c2 (k2.mp z))
        have v3 := fig_in (fun z => c3 (k3.mp z))
        rw [if_neg (fun z => c3 (k3.mp z)), g, if_pos rfl, v1, v2, v3]
        rw [wr_nI rfl (show p < 9 by omega) (by decide), wr_nI rfl (show p < 9 by omega) (by decide), wr_nI rfl (show p < 9 by omega) (by decide)]
        rfl
theorem f_readsParts0_37 {n : Nat} {B : Nat → Nat} (hn : n ≤ 31) : ∀ (q p N : Nat) (u : St), p + q = 8 → q < N → 4 * p ≤ n → Rx u 0 n B → u 0 2 = 0 → Ar0 u B p → ∃ u', fX9_readsParts_37 N (nI 0) (nI p) (nI (4 * p)) u = some (ffS 0 n B (n - 4 * p) (4 * p), u') ∧ Fr0 u u' ∧ (ffS 0 n B (n - 4 * p) (4 * p) = -1 → u' 0 2 = nI ((n + 1) / 4) ∧ Ar0 u' B ((n + 1) / 4)) ∧ (¬ ffS 0 n B (n - 4 * p) (4 * p) = -1 → u' 0 2 = 0)
  | 0, p, N, u, e, hN, hp, hR, h0, hA => absurd hp (by omega)
  | q + 1, p, N, u, e, hN, hp, hR, h0, hA => by
    obtain ⟨N, rfl⟩ : ∃ M, N = M + 1 := ⟨N - 1, by omega⟩
    rw [fX9_readsParts_37, rd_nI rfl (show 0 < 3 by decide) (by decide), hR.1]
    by_cases z0 : n = 0
    · have ez : ffS 0 n B (n - 4 * p) (4 * p) = -1 := by
        rw [show n - 4 * p = 0 by omega, ffS, ffE, if_pos (by omega)]
      rw [if_neg (by rw [nI_lt' (by omega) (by omega)]; omega), if_pos (by rw [show (0 : Int32) = nI 0 from rfl, nI_le' (by omega) (by omega)]; omega), ez]
      refine ⟨u, rfl, Fr0.rf, fun _ => ⟨by rw [h0, z0]; rfl, fun k hk => absurd hk (by omega)⟩, fun z => absurd rfl z⟩
    · have hS := ffS_part (κ := 0) (n := n) (p := p) (B := B) (by omega) (by omega) hp
      have one := f_readsOne0 hR (show p < 8 by omega)
      have np : ¬ nI p = 8 := by rw [show (8 : Int32) = nI 8 from rfl, nI_eq (by omega) (by omega)]; omega
      by_cases cA : 4 * p < n
      · rw [if_pos (by rw [nI_lt' (by omega) (by omega)]; exact cA), if_neg np, one, bd2_s]
        by_cases cg : gd 0 n B p < 3
        · rw [if_pos cg] at hS
          have hne : ¬ ffS 0 n B (n - 4 * p) (4 * p) = -1 := by rw [hS]; exact nI_nm (by omega)
          rw [if_neg (by rw [show (3 : Int32) = nI 3 from rfl, nI_le' (by omega) (by omega)]; omega), if_neg (by omega), nI_add, ← hS]
          exact ⟨u, rfl, Fr0.rf, fun z => absurd z hne, fun _ => h0⟩
        · have g3 : gd 0 n B p = 3 := by
            have : gd 0 n B p ≤ 3 := by unfold gd; split; omega; split; omega; split <;> omega
            omega
          rw [if_neg cg] at hS
          have F1 := up0_fr u B p
          have hR1 := Rx_fr0 F1 hR
          have hA1 : Ar0 (up0 u B p) B (p + 1) := by
            intro k hk
            by_cases d : k = p
            · subst d
              unfold up0
              refine ⟨?_, ?_, ?_⟩
              · rw [sS_o (by decide), sS_o (by decide), sS_s, upd_s]
              · rw [sS_o (by decide), sS_s, upd_s]
              · rw [sS_s, upd_s]
            · have := hA k (by omega)
              unfold up0
              rw [sS_old d, sS_old d, sS_old d, sS_old d, sS_old d, sS_old d, sS_old d, sS_old d, sS_old d]
              exact this
          rw [g3, if_pos (show (3 : Int32) ≤ nI 3 by decide), if_pos rfl, stp_n, stp_n, nI_1, show nI (4 * p) + 3 = nI (4 * p + 3) from nI_add (4 * p) 3, rd_nI rfl (show 0 < 3 by decide) (by decide), hR1.1]
          by_cases c3 : n = 4 * p + 3
          · rw [if_pos c3] at hS
            rw [if_pos (by rw [c3]), if_pos (show nI 0 = 0 from rfl), stp_n, if_neg (by decide), stp_n, sS_id, hS]
            refine ⟨_, rfl, F1.tr ⟨fun c hc0 _ _ _ => by rw [sS_o hc0], fun i hi => by rw [sS_s, upd_o hi]⟩, fun _ => ⟨by rw [sS_s, upd_s, c3]; congr 1; omega, ?_⟩, fun z => absurd rfl z⟩
            rw [show (n + 1) / 4 = p + 1 by omega]
            exact hA1
          · rw [if_neg c3] at hS
            rw [if_neg (by rw [nI_eq (by omega) (by omega)]; omega), f_byteAt hR1 (by omega)]
            have ok := okB3 g3
            have c4 : 4 * p + 3 < n := by omega
            rw [if_pos c4, bd1_s]
            have hb := (hR1.2.2.2 (4 * p + 3) c4).2
            have em : mS 0 (4 * p + 3) (B (4 * p + 3)) = decide (B (4 * p + 3) = 59) := by
              unfold mS
              rw [if_neg (by omega), if_pos (by omega)]
            by_cases c5 : B (4 * p + 3) = 59
            · rw [em, c5] at hS
              simp only [decide_true, if_true] at hS
              rw [c5, if_pos (show nI 59 = 59 from rfl), stp_n, nI_1, show 4 * p + 3 + 1 = 4 * (p + 1) by omega]
              obtain ⟨u', a1, a2, a3, a4⟩ := f_readsParts0_37 hn q (p + 1) N (up0 u B p) (by omega) (by omega) (by omega) hR1 (by rw [F1S0]; exact h0) hA1
              rw [hS]
              exact ⟨u', a1, F1.tr a2, a3, a4⟩
            · rw [em] at hS
              simp only [c5, decide_false, Bool.false_eq_true, if_false] at hS
              rw [if_neg (by rw [show (59 : Int32) = nI 59 from rfl, nI_eq (by omega) (by omega)]; exact c5), hS]
              refine ⟨_, rfl, F1, fun z => absurd z (nI_nm (by omega)), fun _ => by rw [F1S0]; exact h0⟩
      · have gz : gd 0 n B p = 0 := by
          unfold gd okB
          have : ¬ 4 * p < n := cA
          simp [this]
        rw [gz] at hS one
        rw [if_pos (by omega)] at hS
        have hne : ¬ ffS 0 n B (n - 4 * p) (4 * p) = -1 := by rw [hS]; exact nI_nm (by omega)
        rw [if_neg (by rw [nI_lt' (by omega) (by omega)]; exact cA), if_neg (by rw [show (0 : Int32) = nI 0 from rfl, nI_le' (by omega) (by omega)]; omega), if_neg np, one, bd2_s, if_neg (by decide), if_neg (by omega), nI_add, ← hS]
        exact ⟨u, rfl, Fr0.rf, fun z => absurd z hne, fun _ => h0⟩
def up1 (u : St) (B : Nat → Nat) (p : Nat) : St := sS (sS u 8 p (nI (10 * (B (4 * p) - 48) + (B (4 * p + 1) - 48)))) 9 p (nI (B (4 * p + 2) - 48))
def Ar1 (u : St) (B : Nat → Nat) (p : Nat) : Prop := ∀ k, k < p → u 8 k = nI (10 * (B (4 * k) - 48) + (B (4 * k + 1) - 48)) ∧ u 9 k = nI (B (4 * k + 2) - 48)
def Fr1 (s u : St) : Prop := (∀ c, c ≠ 0 → c ≠ 8 → c ≠ 9 → u c = s c) ∧ ∀ i, i ≠ 6 → u 0 i = s 0 i
theorem Fr1.rf {s : St} : Fr1 s s := ⟨fun _ _ _ _ => rfl, fun _ _ => rfl⟩
theorem Fr1.tr {s u v : St} (a : Fr1 s u) (b : Fr1 u v) : Fr1 s v := ⟨fun c h0 h8 h9 => (b.1 c h0 h8 h9).trans (a.1 c h0 h8 h9), fun i h => (b.2 i h).trans (a.2 i h)⟩
theorem up1_fr (u : St) (B : Nat → Nat) (p : Nat) : Fr1 u (up1 u B p) := ⟨fun c h0 h8 h9 => by unfold up1; rw [sS_o h9, sS_o h8], fun i _ => rfl⟩
theorem Rx_fr1 {u v : St} {κ n : Nat} {B : Nat → Nat} (F : Fr1 u v) (h : Rx u κ n B) : Rx v κ n B := by
  unfold Rx
  rw [F.1 1 (by decide) (by decide) (by decide), F.1 2 (by decide) (by decide) (by decide)]
  exact h
theorem F1S1 {u : St} {B : Nat → Nat} {p : Nat} : up1 u B p 0 6 = u 0 6 := rfl
theorem f_readsOne1 {u : St} {n p : Nat} {B : Nat → Nat} (h : Rx u 1 n B) (hp : p < 8) : fX9_readsOne u (nI 1) (nI p) (nI (4 * p)) = some (nI (gd 1 n B p), if gd 1 n B p = 3 then up1 u B p else u) := by
  have f1 : fX9_figureAt u (nI 1) (nI (4 * p)) 0 9 = _ := f_figureAt h (show 4 * p < 1000 by omega) (lo := 0) (hi := 9) (by omega) (by omega)
  have f2 : fX9_figureAt u (nI 1) (nI (4 * p + 1)) 0 9 = _ := f_figureAt h (show 4 * p + 1 < 1000 by omega) (lo := 0) (hi := 9) (by omega) (by omega)
  have f3 : fX9_figureAt u (nI 1) (nI (4 * p + 2)) 0 7 = _ := f_figureAt h (show 4 * p + 2 < 1000 by omega) (lo := 0) (hi := 7) (by omega) (by omega)
  have k1 := ok_fig (κ := 1) (n := n) (k := 4 * p) (B := B) (by omega) (by omega) (fun z => (h.2.2.2 _ z).2) (lo := 0) (hi := 9) (by simp) (by simp)
  have k2 := ok_fig (κ := 1) (n := n) (k := 4 * p + 1) (B := B) (by omega) (by omega) (fun z => (h.2.2.2 _ z).2) (lo := 0) (hi := 9) (by rw [if_neg (by omega)]) (by rw [if_neg (by omega)])
  have k3 := ok_fig (κ := 1) (n := n) (k := 4 * p + 2) (B := B) (by omega) (by omega) (fun z => (h.2.2.2 _ z).2) (lo := 0) (hi := 7) (by rw [if_neg (by omega)]) (by rw [if_pos ⟨rfl, by omega⟩])
  unfold fX9_readsOne
  rw [if_neg (show ¬ nI 1 = 0 by decide), f1, bd1_s, nI_1, f2, bd1_s, show nI (4 * p) + 2 = nI (4 * p + 2) from nI_add (4 * p) 2, f3, bd1_s]
  by_cases c1 : okB 1 n B (4 * p) = false
  · have g : gd 1 n B p = 0 := by unfold gd; rw [if_pos c1]
    rw [if_pos (k1.mpr c1), g]; rfl
  · rw [if_neg (fun z => c1 (k1.mp z))]
    by_cases c2 : okB 1 n B (4 * p + 1) = false
    · have g : gd 1 n B p = 1 := by unfold gd; rw [if_neg c1, if_pos c2]
      rw [if_pos (k2.mpr c2), g]; rfl
    · rw [if_neg (fun z => c2 (k2.mp z))]
      by_cases c3 : okB 1 n B (4 * p + 2) = false
      · have g : gd 1 n B p = 2 := by unfold gd; rw [if_neg c1, if_neg c2, if_pos c3]
        rw [if_pos (k3.mpr c3), g]; rfl
      · have g : gd 1 n B p = 3 := by unfold gd; rw [if_neg c1, if_neg c2, if_neg c3]
        have v1 := fig_in (fun z => c1 (k1.mp z))
        have v2 := fig_in (fun z => c2 (k2.mp z))
        have v3 := fig_in (fun z => c3 (k3.mp z))
        rw [if_neg (fun z => c3 (k3.mp z)), g, if_pos rfl, v1, v2, v3, show (10 : Int32) = nI 10 from rfl, nI_mul, nI_add]
        rw [wr_nI rfl (show p < 9 by omega) (by decide), wr_nI rfl (show p < 9 by omega) (by decide)]
        rfl
theorem f_readsParts1_37 {n : Nat} {B : Nat → Nat} (hn : n ≤ 31) : ∀ (q p N : Nat) (u : St), p + q = 8 → q < N → 4 * p ≤ n → Rx u 1 n B → u 0 6 = 0 → Ar1 u B p → ∃ u', fX9_readsParts_37 N (nI 1) (nI p) (nI (4 * p)) u = some (ffS 1 n B (n - 4 * p) (4 * p), u') ∧ Fr1 u u' ∧ (ffS 1 n B (n - 4 * p) (4 * p) = -1 → u' 0 6 = nI ((n + 1) / 4) ∧ Ar1 u' B ((n + 1) / 4)) ∧ (¬ ffS 1 n B (n - 4 * p) (4 * p) = -1 → u' 0 6 = 0)
  | 0, p, N, u, e, hN, hp, hR, h0, hA => absurd hp (by omega)
  | q + 1, p, N, u, e, hN, hp, hR, h0, hA => by
    obtain ⟨N, rfl⟩ : ∃ M, N = M + 1 := ⟨N - 1, by omega⟩
    rw [fX9_readsParts_37, rd_nI rfl (show 1 < 3 by decide) (by decide), hR.1]
    by_cases z0 : n = 0
    · have ez : ffS 1 n B (n - 4 * p) (4 * p) = -1 := by
        rw [show n - 4 * p = 0 by omega, ffS, ffE, if_pos (by omega)]
      rw [if_neg (by rw [nI_lt' (by omega) (by omega)]; omega), if_pos (by rw [show (0 : Int32) = nI 0 from rfl, nI_le' (by omega) (by omega)]; omega), ez]
      refine ⟨u, rfl, Fr1.rf, fun _ => ⟨by rw [h0, z0]; rfl, fun k hk => absurd hk (by omega)⟩, fun z => absurd rfl z⟩
    · have hS := ffS_part (κ := 1) (n := n) (p := p) (B := B) (by omega) (by omega) hp
      have one := f_readsOne1 hR (show p < 8 by omega)
      have np : ¬ nI p = 8 := by rw [show (8 : Int32) = nI 8 from rfl, nI_eq (by omega) (by omega)]; omega
      by_cases cA : 4 * p < n
      · rw [if_pos (by rw [nI_lt' (by omega) (by omega)]; exact cA), if_neg np, one, bd2_s]
        by_cases cg : gd 1 n B p < 3
        · rw [if_pos cg] at hS
          have hne : ¬ ffS 1 n B (n - 4 * p) (4 * p) = -1 := by rw [hS]; exact nI_nm (by omega)
          rw [if_neg (by rw [show (3 : Int32) = nI 3 from rfl, nI_le' (by omega) (by omega)]; omega), if_neg (by omega), nI_add, ← hS]
          exact ⟨u, rfl, Fr1.rf, fun z => absurd z hne, fun _ => h0⟩
        · have g3 : gd 1 n B p = 3 := by
            have : gd 1 n B p ≤ 3 := by unfold gd; split; omega; split; omega; split <;> omega
            omega
          rw [if_neg cg] at hS
          have F1 := up1_fr u B p
          have hR1 := Rx_fr1 F1 hR
          have hA1 : Ar1 (up1 u B p) B (p + 1) := by
            intro k hk
            by_cases d : k = p
            · subst d
              unfold up1
              refine ⟨?_, ?_⟩
              · rw [sS_o (by decide), sS_s, upd_s]
              · rw [sS_s, upd_s]
            · have := hA k (by omega)
              unfold up1
              rw [sS_old d, sS_old d, sS_old d, sS_old d]
              exact this
          rw [g3, if_pos (show (3 : Int32) ≤ nI 3 by decide), if_pos rfl, stp_n, stp_n, nI_1, show nI (4 * p) + 3 = nI (4 * p + 3) from nI_add (4 * p) 3, rd_nI rfl (show 1 < 3 by decide) (by decide), hR1.1]
          by_cases c3 : n = 4 * p + 3
          · rw [if_pos c3] at hS
            rw [if_pos (by rw [c3]), if_neg (show ¬ nI 1 = 0 by decide), stp_n, if_pos (show nI 1 = 1 from rfl), stp_n, sS_id, hS]
            refine ⟨_, rfl, F1.tr ⟨fun c hc0 _ _ => by rw [sS_o hc0], fun i hi => by rw [sS_s, upd_o hi]⟩, fun _ => ⟨by rw [sS_s, upd_s, c3]; congr 1; omega, ?_⟩, fun z => absurd rfl z⟩
            rw [show (n + 1) / 4 = p + 1 by omega]
            exact hA1
          · rw [if_neg c3] at hS
            rw [if_neg (by rw [nI_eq (by omega) (by omega)]; omega), f_byteAt hR1 (by omega)]
            have ok := okB3 g3
            have c4 : 4 * p + 3 < n := by omega
            rw [if_pos c4, bd1_s]
            have hb := (hR1.2.2.2 (4 * p + 3) c4).2
            have em : mS 1 (4 * p + 3) (B (4 * p + 3)) = decide (B (4 * p + 3) = 59) := by
              unfold mS
              rw [if_neg (by omega), if_pos (by omega)]
            by_cases c5 : B (4 * p + 3) = 59
            · rw [em, c5] at hS
              simp only [decide_true, if_true] at hS
              rw [c5, if_pos (show nI 59 = 59 from rfl), stp_n, nI_1, show 4 * p + 3 + 1 = 4 * (p + 1) by omega]
              obtain ⟨u', a1, a2, a3, a4⟩ := f_readsParts1_37 hn q (p + 1) N (up1 u B p) (by omega) (by omega) (by omega) hR1 (by rw [F1S1]; exact h0) hA1
              rw [hS]
              exact ⟨u', a1, F1.tr a2, a3, a4⟩
            · rw [em] at hS
              simp only [c5, decide_false, Bool.false_eq_true, if_false] at hS
              rw [if_neg (by rw [show (59 : Int32) = nI 59 from rfl, nI_eq (by omega) (by omega)]; exact c5), hS]
              refine ⟨_, rfl, F1, fun z => absurd z (nI_nm (by omega)), fun _ => by rw [F1S1]; exact h0⟩
      · have gz : gd 1 n B p = 0 := by
          unfold gd okB
          have : ¬ 4 * p < n := cA
          simp [this]
        rw [gz] at hS one
        rw [if_pos (by omega)] at hS
        have hne : ¬ ffS 1 n B (n - 4 * p) (4 * p) = -1 := by rw [hS]; exact nI_nm (by omega)
        rw [if_neg (by rw [nI_lt' (by omega) (by omega)]; exact cA), if_neg (by rw [show (0 : Int32) = nI 0 from rfl, nI_le' (by omega) (by omega)]; omega), if_neg np, one, bd2_s, if_neg (by decide), if_neg (by omega), nI_add, ← hS]
        exact ⟨u, rfl, Fr1.rf, fun z => absurd z hne, fun _ => h0⟩
