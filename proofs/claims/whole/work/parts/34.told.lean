/-! ===== texts: the reference reads stops, and all ===== -/
def Fr2 (s u : St) : Prop := (∀ c, c ≠ 0 → c ≠ 11 → u c = s c) ∧ ∀ i, i ≠ 9 → u 0 i = s 0 i
theorem Fr2.rf {s : St} : Fr2 s s := ⟨fun _ _ _ => rfl, fun _ _ => rfl⟩
theorem Fr2.tr {s u v : St} (a : Fr2 s u) (b : Fr2 u v) : Fr2 s v := ⟨fun c h0 h1 => (b.1 c h0 h1).trans (a.1 c h0 h1), fun i h => (b.2 i h).trans (a.2 i h)⟩
theorem Rx_fr2 {u v : St} {κ n : Nat} {B : Nat → Nat} (F : Fr2 u v) (h : Rx u κ n B) : Rx v κ n B := by
  unfold Rx
  rw [F.1 1 (by decide) (by decide), F.1 2 (by decide) (by decide)]
  exact h
theorem f_readsStops_7 {n : Nat} {B : Nat → Nat} (hn : n ≤ 20) : ∀ (m k N : Nat) (u : St), m + k = n → m < N → Rx u 2 n B → u 0 9 = 0 → (∀ i, i < k → u 11 i = nI (B i - 48)) → ∃ u', fX9_readsStops_7 N (nI k) u = some (ffS 2 n B m k, u') ∧ Fr2 u u' ∧ (ffS 2 n B m k = -1 → u' 0 9 = nI n ∧ ∀ i, i < n → u' 11 i = nI (B i - 48)) ∧ (¬ ffS 2 n B m k = -1 → u' 0 9 = 0)
  | 0, k, N, u, e, hN, hR, h0, hA => by
    obtain ⟨N, rfl⟩ : ∃ M, N = M + 1 := ⟨N - 1, by omega⟩
    have ez : ffS 2 n B 0 k = -1 := by rw [ffS, ffE, if_pos (Or.inl rfl)]
    rw [fX9_readsStops_7, rd_nI (x := 2) (w := 2) rfl (by decide) (by decide), hR.1, if_pos (by rw [nI_le' (by omega) (by omega)]; omega), rd_nI (x := 2) (w := 2) rfl (by decide) (by decide), hR.1, stp_n, ez]
    refine ⟨_, rfl, ⟨fun c h0 h1 => by rw [sS_o h0], fun i hi => by rw [sS_s, upd_o hi]⟩, fun _ => ⟨by rw [sS_s, upd_s], fun i hi => ?_⟩, fun z => absurd rfl z⟩
    rw [sS_o (by decide)]
    exact hA i (by omega)
  | m + 1, k, N, u, e, hN, hR, h0, hA => by
    obtain ⟨N, rfl⟩ : ∃ M, N = M + 1 := ⟨N - 1, by omega⟩
    have hk : k < n := by omega
    have f1 : fX9_figureAt u 2 (nI k) 0 9 = _ := f_figureAt hR (show k < 1000 by omega) (lo := 0) (hi := 9) (by omega) (by omega)
    have hb := (hR.2.2.2 k hk).2
    have em : mS 2 k (B k) = decide (48 ≤ B k ∧ B k ≤ 57) := by unfold mS; rw [if_pos rfl]
    rw [if_pos hk] at f1
    rw [fX9_readsStops_7, rd_nI (x := 2) (w := 2) rfl (by decide) (by decide), hR.1, if_neg (by rw [nI_le' (by omega) (by omega)]; omega), f1, bd1_s, ffS, em]
    by_cases c : 48 ≤ B k ∧ B k ≤ 57
    · have e1 : fig 0 9 (B k) = nI (B k - 48) := by unfold fig; rw [if_pos (by omega)]
      simp only [c, and_self, decide_true, if_true]
      rw [e1, if_neg (nI_nm (by omega)), wr_nI rfl (show k < 20 by omega) (by decide), stp_n, nI_1]
      have F1 : Fr2 u (sS u 11 k (nI (B k - 48))) := ⟨fun c h0 h1 => by rw [sS_o h1], fun i _ => rfl⟩
      obtain ⟨u', a1, a2, a3, a4⟩ := f_readsStops_7 hn m (k + 1) N (sS u 11 k (nI (B k - 48))) (by omega) (by omega) (Rx_fr2 F1 hR) h0 (fun i hi => by
        rw [sS_s]
        by_cases d : i = k
        · rw [d, upd_s]
        · rw [upd_o d]; exact hA i (by omega))
      exact ⟨u', a1, F1.tr a2, a3, a4⟩
    · have e1 : fig 0 9 (B k) = -1 := by unfold fig; rw [if_neg (by omega)]
      have c' : decide (48 ≤ B k ∧ B k ≤ 57) = false := by simp only [decide_eq_false_iff_not]; exact c
      simp only [c', Bool.false_eq_true, if_false]
      rw [e1, if_pos rfl]
      exact ⟨u, rfl, Fr2.rf, fun z => absurd z (nI_nm (by omega)), fun _ => h0⟩
/-! what the texts of a state say -/
def tn (s : St) (κ : Nat) : Nat := ix (s 1 κ)
def tb (s : St) (κ k : Nat) : Nat := ix (s 2 (31 * κ + k))
def Tok (s : St) : Prop := Rx s 0 (tn s 0) (tb s 0) ∧ Rx s 1 (tn s 1) (tb s 1) ∧ Rx s 2 (tn s 2) (tb s 2) ∧ tn s 2 ≤ 20
def nrS (s : St) : Nat := prt 0 (tn s 0) (tb s 0)
def nlS (s : St) : Nat := prt 1 (tn s 1) (tb s 1)
def nsS (s : St) : Nat := prt 2 (tn s 2) (tb s 2)
def hvS (s : St) (k : Nat) : Nat := tb s 0 (4 * k) - 48
def frS (s : St) (k : Nat) : Nat := tb s 0 (4 * k + 1) - 48
def toS (s : St) (k : Nat) : Nat := tb s 0 (4 * k + 2) - 48
def laT (s : St) (l : Nat) : Nat := 10 * (tb s 1 (4 * l) - 48) + (tb s 1 (4 * l + 1) - 48)
def lwT (s : St) (l : Nat) : Nat := tb s 1 (4 * l + 2) - 48
def stS (s : St) (i : Nat) : Nat := tb s 2 i - 48
theorem nrS_8 {s : St} (h : Tok s) : nrS s ≤ 8 := (prt_8 h.1.2.1 (by decide)).1
theorem nlS_8 {s : St} (h : Tok s) : nlS s ≤ 8 := (prt_8 h.2.1.2.1 (by decide)).1
theorem nsS_20 {s : St} (h : Tok s) : nsS s ≤ 20 := by
  unfold nsS prt
  have := h.2.2.2
  split
  · rw [if_pos rfl]; exact this
  · omega
theorem lwT_8 {s : St} (h : Tok s) {l : Nat} (hl : l < nlS s) : lwT s l < 8 := by
  obtain ⟨a, b, c, d⟩ := (prt_8 h.2.1.2.1 (by decide)).2 l hl
  have := (mS_fig d (Or.inr (by omega))).2.2 rfl (by omega)
  unfold lwT; omega
theorem stS_10 {s : St} (h : Tok s) {i : Nat} (hi : i < nsS s) : stS s i < 10 := by
  unfold nsS prt at hi
  split at hi
  · rename_i c
    rw [if_pos rfl] at hi
    have hn := h.2.2.2
    have := (mS_fig ((ffS_m1 (by omega) _ 0 (by omega) c).1 i (by omega) hi) (Or.inl rfl))
    unfold stS; omega
  · omega
/-- t has read the texts of s -/
def Rdd (t s : St) : Prop := t 0 2 = nI (nrS s) ∧ t 0 6 = nI (nlS s) ∧ t 0 9 = nI (nsS s) ∧ (∀ k, k < nrS s → t 4 k = nI (hvS s k) ∧ t 5 k = nI (frS s k) ∧ t 6 k = nI (toS s k)) ∧ (∀ l, l < nlS s → t 8 l = nI (laT s l) ∧ t 9 l = nI (lwT s l)) ∧ ∀ i, i < nsS s → t 11 i = nI (stS s i)
def FrR (s u : St) : Prop := (∀ c, c ≠ 0 → c ≠ 4 → c ≠ 5 → c ≠ 6 → c ≠ 8 → c ≠ 9 → c ≠ 11 → u c = s c) ∧ ∀ i, i ≠ 2 → i ≠ 6 → i ≠ 9 → u 0 i = s 0 i
theorem f_reads3 {s : St} (h : Tok s) : ∃ a b c u, fX9_readsParts s 0 = some (ffS 0 (tn s 0) (tb s 0) (tn s 0) 0, a) ∧ fX9_readsParts a 1 = some (ffS 1 (tn s 1) (tb s 1) (tn s 1) 0, b) ∧ fX9_readsStops b = some (ffS 2 (tn s 2) (tb s 2) (tn s 2) 0, u) ∧ c = u ∧ FrR s u ∧ Rdd u s := by
  obtain ⟨h0, h1, h2, h20⟩ := h
  have F0 : Fr0 s (sS s 0 2 0) := ⟨fun c h0 _ _ _ => by rw [sS_o h0], fun i hi => by rw [sS_s, upd_o hi]⟩
  obtain ⟨a, a1, a2, a3, a4⟩ := f_readsParts0_37 h0.2.1 8 0 300 (sS s 0 2 0) (by omega) (by omega) (by omega) (Rx_fr0 F0 h0) (by rw [sS_s, upd_s]) (fun k hk => absurd hk (by omega))
  have Fa := F0.tr a2
  have e0 : fX9_readsParts s 0 = some (ffS 0 (tn s 0) (tb s 0) (tn s 0) 0, a) := by
    unfold fX9_readsParts
    rw [if_pos rfl, stp_n, if_neg (by decide), stp_n, sS_id]
    exact a1
  have h1a := Rx_fr0 Fa h1
  have F1 : Fr1 a (sS a 0 6 0) := ⟨fun c h0 _ _ => by rw [sS_o h0], fun i hi => by rw [sS_s, upd_o hi]⟩
  obtain ⟨b, b1, b2, b3, b4⟩ := f_readsParts1_37 h1.2.1 8 0 300 (sS a 0 6 0) (by omega) (by omega) (by omega) (Rx_fr1 F1 h1a) (by rw [sS_s, upd_s]) (fun k hk => absurd hk (by omega))
  have Fb := F1.tr b2
  have e1 : fX9_readsParts a 1 = some (ffS 1 (tn s 1) (tb s 1) (tn s 1) 0, b) := by
    unfold fX9_readsParts
    rw [if_neg (by decide), stp_n, sS_id, if_pos rfl, stp_n]
    exact b1
  have h2b := Rx_fr1 Fb (Rx_fr0 Fa h2)
  have F2 : Fr2 b (sS b 0 9 0) := ⟨fun c h0 _ => by rw [sS_o h0], fun i hi => by rw [sS_s, upd_o hi]⟩
  obtain ⟨u, c1, c2, c3, c4⟩ := f_readsStops_7 h20 (tn s 2) 0 300 (sS b 0 9 0) (by omega) (by omega) (Rx_fr2 F2 h2b) (by rw [sS_s, upd_s]) (fun k hk => absurd hk (by omega))
  have Fc := F2.tr c2
  have e2 : fX9_readsStops b = some (ffS 2 (tn s 2) (tb s 2) (tn s 2) 0, u) := by
    unfold fX9_readsStops
    rw [stp_n]
    exact c1
  rw [show 4 * 0 = 0 from rfl, Nat.sub_zero] at a3 a4 b3 b4
  refine ⟨a, b, u, u, e0, e1, e2, rfl, ⟨fun c n0 n4 n5 n6 n8 n9 n11 => ?_, fun i n2 n6 n9 => ?_⟩, ?_, ?_, ?_, ?_, ?_, ?_⟩
  · rw [Fc.1 c n0 n11, Fb.1 c n0 n8 n9, Fa.1 c n0 n4 n5 n6]
  · rw [Fc.2 i n9, Fb.2 i n6, Fa.2 i n2]
  · rw [Fc.2 2 (by decide), Fb.2 2 (by decide)]
    unfold nrS prt
    by_cases c : ffS 0 (tn s 0) (tb s 0) (tn s 0) 0 = -1
    · rw [if_pos c, if_neg (by decide), (a3 c).1]
    · rw [if_neg c, a4 c]; rfl
  · rw [Fc.2 6 (by decide)]
    unfold nlS prt
    by_cases c : ffS 1 (tn s 1) (tb s 1) (tn s 1) 0 = -1
    · rw [if_pos c, if_neg (by decide), (b3 c).1]
    · rw [if_neg c, b4 c]; rfl
  · unfold nsS prt
    by_cases c : ffS 2 (tn s 2) (tb s 2) (tn s 2) 0 = -1
    · rw [if_pos c, if_pos rfl, (c3 c).1]
    · rw [if_neg c, c4 c]; rfl
  · intro k hk
    unfold nrS prt at hk
    by_cases c : ffS 0 (tn s 0) (tb s 0) (tn s 0) 0 = -1
    · rw [if_pos c, if_neg (by decide)] at hk
      rw [Fc.1 4 (by decide) (by decide), Fb.1 4 (by decide) (by decide) (by decide), Fc.1 5 (by decide) (by decide), Fb.1 5 (by decide) (by decide) (by decide), Fc.1 6 (by decide) (by decide), Fb.1 6 (by decide) (by decide) (by decide)]
      exact (a3 c).2 k hk
    · rw [if_neg c] at hk; exact absurd hk (by omega)
  · intro k hk
    unfold nlS prt at hk
    by_cases c : ffS 1 (tn s 1) (tb s 1) (tn s 1) 0 = -1
    · rw [if_pos c, if_neg (by decide)] at hk
      rw [Fc.1 8 (by decide) (by decide), Fc.1 9 (by decide) (by decide)]
      exact (b3 c).2 k hk
    · rw [if_neg c] at hk; exact absurd hk (by omega)
  · intro k hk
    unfold nsS prt at hk
    by_cases c : ffS 2 (tn s 2) (tb s 2) (tn s 2) 0 = -1
    · rw [if_pos c, if_pos rfl] at hk
      exact (c3 c).2 k hk
    · rw [if_neg c] at hk; exact absurd hk (by omega)
theorem f_faultOf {s : St} (h : Tok s) : ∃ u, FrR s u ∧ Rdd u s ∧ ∀ κ, κ < 3 → fX9_faultOf s (nI κ) = some (ffS κ (tn s κ) (tb s κ) (tn s κ) 0, u) := by
  obtain ⟨a, b, c, u, e0, e1, e2, -, F, R⟩ := f_reads3 h
  refine ⟨u, F, R, fun κ hκ => ?_⟩
  unfold fX9_faultOf
  rw [e0, bd2_s, e1, bd2_s, e2, bd2_s]
  by_cases c0 : κ = 0
  · rw [c0, if_pos (show nI 0 = 0 from rfl)]
  · rw [if_neg (nI_ne0 (by omega) (by omega))]
    by_cases c1 : κ = 1
    · rw [c1, if_pos (show nI 1 = 1 from rfl)]
    · rw [show κ = 2 by omega, if_neg (by decide)]
theorem f_reads {s : St} (h : Tok s) : ∃ u, FrR s u ∧ Rdd u s ∧ fX9_reads s = some u := by
  obtain ⟨u, F, R, e⟩ := f_faultOf h
  refine ⟨u, F, R, ?_⟩
  unfold fX9_reads
  have := e 0 (by omega)
  rw [show fX9_faultOf s 0 = _ from this, bd2_s]
/-! ===== as told ===== -/
/-- what a call may not change in the reference, but for its own work -/
def Dur (s u : St) : Prop := (u 1 = s 1 ∧ u 2 = s 2 ∧ u 36 = s 36 ∧ u 37 = s 37) ∧ (u 39 = s 39 ∧ u 40 = s 40 ∧ u 41 = s 41 ∧ u 42 = s 42) ∧ u 0 11 = s 0 11 ∧ u 0 12 = s 0 12 ∧ u 0 34 = s 0 34 ∧ u 0 43 = s 0 43
theorem Dur.rf {s : St} : Dur s s := ⟨⟨rfl, rfl, rfl, rfl⟩, ⟨rfl, rfl, rfl, rfl⟩, rfl, rfl, rfl, rfl⟩
theorem Dur.tr {s u v : St} (a : Dur s u) (b : Dur u v) : Dur s v := by
  obtain ⟨⟨a1, a2, a3, a4⟩, ⟨a5, a6, a7, a8⟩, a9, a10, a11, a12⟩ := a
  obtain ⟨⟨b1, b2, b3, b4⟩, ⟨b5, b6, b7, b8⟩, b9, b10, b11, b12⟩ := b
  exact ⟨⟨b1.trans a1, b2.trans a2, b3.trans a3, b4.trans a4⟩, ⟨b5.trans a5, b6.trans a6, b7.trans a7, b8.trans a8⟩, b9.trans a9, b10.trans a10, b11.trans a11, b12.trans a12⟩
theorem FrR.dur {s u : St} (F : FrR s u) : Dur s u := by
  refine ⟨⟨?_, ?_, ?_, ?_⟩, ⟨?_, ?_, ?_, ?_⟩, ?_, ?_, ?_, ?_⟩
  all_goals first
    | exact F.1 _ (by decide) (by decide) (by decide) (by decide) (by decide) (by decide) (by decide)
    | exact F.2 _ (by decide) (by decide) (by decide)
theorem Frm.dur {s u : St} (F : Frm s u) : Dur s u := by
  refine ⟨⟨?_, ?_, ?_, ?_⟩, ⟨?_, ?_, ?_, ?_⟩, ?_, ?_, ?_, ?_⟩
  all_goals first
    | exact F.1 _ (by decide) (by decide) (by decide) (by decide) (by decide) (by decide) (by decide) (by decide) (by decide) (by decide)
    | exact F.2 _ (by decide) (by decide) (by decide) (by decide) (by decide) (by decide) (by decide) (by decide)
/-- what texts say depends on the texts alone -/
theorem tn_e {s u : St} (e1 : u 1 = s 1) : tn u = tn s := by funext κ; unfold tn; rw [e1]
theorem tb_e {s u : St} (e2 : u 2 = s 2) : tb u = tb s := by funext κ k; unfold tb; rw [e2]
theorem Tok_d {s u : St} (D : Dur s u) (h : Tok s) : Tok u := by
  unfold Tok Rx
  rw [tn_e D.1.1, tb_e D.1.2.1, D.1.1, D.1.2.1]
  exact h
theorem S_d {s u : St} (D : Dur s u) : nrS u = nrS s ∧ nlS u = nlS s ∧ nsS u = nsS s ∧ hvS u = hvS s ∧ frS u = frS s ∧ toS u = toS s ∧ laT u = laT s ∧ lwT u = lwT s ∧ stS u = stS s := by
  have e1 := tn_e D.1.1
  have e2 := tb_e D.1.2.1
  refine ⟨?_, ?_, ?_, ?_, ?_, ?_, ?_, ?_, ?_⟩
  · unfold nrS; rw [e1, e2]
  · unfold nlS; rw [e1, e2]
  · unfold nsS; rw [e1, e2]
  · funext k; unfold hvS; rw [e2]
  · funext k; unfold frS; rw [e2]
  · funext k; unfold toS; rw [e2]
  · funext k; unfold laT; rw [e2]
  · funext k; unfold lwT; rw [e2]
  · funext k; unfold stS; rw [e2]
theorem Rdd_d {t s u : St} (D : Dur s u) : Rdd t u ↔ Rdd t s := by
  obtain ⟨e1, e2, e3, e4, e5, e6, e7, e8, e9⟩ := S_d D
  unfold Rdd
  rw [e1, e2, e3, e4, e5, e6, e7, e8, e9]
/-- ready to run as told -/
def Tld (t s : St) : Prop := Rdd t s ∧ t 0 13 = nI (nsS s) ∧ (∀ i, i < nsS s → t 15 i = nI (stS s i)) ∧ t 0 15 = 255
theorem f_asTold_14 {s : St} {n : Nat} (hn : n ≤ 20) (v : Nat → Int32) : ∀ (m k N : Nat) (u : St), m + k = n → m < N → u 0 9 = nI n → u 11 = v → (∀ i, i < k → u 15 i = v i) → ∃ u', fX9_asTold_14 N (nI k) u = some u' ∧ (∀ c, c ≠ 0 → c ≠ 15 → u' c = u c) ∧ (∀ i, i ≠ 15 → u' 0 i = u 0 i) ∧ u' 0 15 = 255 ∧ ∀ i, i < n → u' 15 i = v i
  | 0, k, N, u, e, hN, h9, h11, h15 => by
    obtain ⟨N, rfl⟩ : ∃ M, N = M + 1 := ⟨N - 1, by omega⟩
    rw [fX9_asTold_14, h9, if_pos (by rw [nI_le' (by omega) (by omega)]; omega), stp_n]
    exact ⟨_, rfl, fun c h0 _ => by rw [sS_o h0], fun i hi => by rw [sS_s, upd_o hi], by rw [sS_s, upd_s], fun i hi => by rw [sS_o (by decide)]; exact h15 i (by omega)⟩
  | m + 1, k, N, u, e, hN, h9, h11, h15 => by
    obtain ⟨N, rfl⟩ : ∃ M, N = M + 1 := ⟨N - 1, by omega⟩
    rw [fX9_asTold_14, h9, if_neg (by rw [nI_le' (by omega) (by omega)]; omega), rd_nI rfl (show k < 20 by omega) (by decide), wr_nI rfl (show k < 22 by omega) (by decide), stp_n, nI_1]
    obtain ⟨u', a1, a2, a3, a4, a5⟩ := f_asTold_14 (s := s) hn v m (k + 1) N (sS u 15 k (u 11 k)) (by omega) (by omega) h9 (by rw [sS_o (by decide)]; exact h11) (fun i hi => by
      rw [sS_s]
      by_cases d : i = k
      · rw [d, upd_s, h11]
      · rw [upd_o d]; exact h15 i (by omega))
    exact ⟨u', a1, fun c h0 h1 => by rw [a2 c h0 h1, sS_o h1], fun i hi => by rw [a3 i hi]; rfl, a4, a5⟩
theorem f_asTold {s : St} (h : Tok s) : ∃ t, fX9_asTold s = some t ∧ Dur s t ∧ Tld t s := by
  obtain ⟨u, F, R, e⟩ := f_reads h
  obtain ⟨r1, r2, r3, r4, r5, r6⟩ := id R
  obtain ⟨t, a1, a2, a3, a4, a5⟩ := f_asTold_14 (s := s) (nsS_20 h) (u 11) (nsS s) 0 300 (sS u 0 13 (u 0 9)) (by omega) (by have := nsS_20 h; omega) r3 rfl (fun i hi => absurd hi (by omega))
  have D1 : Dur u t := by
    refine ⟨⟨?_, ?_, ?_, ?_⟩, ⟨?_, ?_, ?_, ?_⟩, ?_, ?_, ?_, ?_⟩
    all_goals first
      | exact a2 _ (by decide) (by decide)
      | exact a3 _ (by decide)
  refine ⟨t, ?_, F.dur.tr D1, ⟨?_, ?_, ?_, ?_, ?_, ?_⟩, ?_, ?_, a4⟩
  · unfold fX9_asTold
    rw [e, bd1_s, stp_n]
    exact a1
  · rw [a3 2 (by decide)]; exact r1
  · rw [a3 6 (by decide)]; exact r2
  · rw [a3 9 (by decide)]; exact r3
  · intro k hk
    rw [a2 4 (by decide) (by decide), a2 5 (by decide) (by decide), a2 6 (by decide) (by decide)]
    exact r4 k hk
  · intro k hk
    rw [a2 8 (by decide) (by decide), a2 9 (by decide) (by decide)]
    exact r5 k hk
  · intro k hk
    rw [a2 11 (by decide) (by decide)]
    exact r6 k hk
  · rw [a3 13 (by decide)]; exact r3
  · intro i hi
    rw [a5 i hi]; exact r6 i hi
