/-! ===== the class takes leavers and stops; freshen ===== -/
def HL (q : St) (B : Nat → Nat) (r : Nat) : Prop := ∀ l, l < r → q 10 l = nI (10 * (B (4 * l) - 48) + (B (4 * l + 1) - 48)) ∧ q 11 l = nI (B (4 * l + 2) - 48)
theorem f_takeLeavers_15 {t : St} {n : Nat} {B : Nat → Nat} (hT : Tx t 1 n B) : ∀ (m r N : Nat) (q : St), m + r = prt 1 n B → m < N → q 0 3 = nI (prt 1 n B) → HL q B r → ∃ q', fX2_takeLeavers_15 t N (nI r) q = some q' ∧ HL q' B (prt 1 n B) ∧ (∀ c, c ≠ 10 → c ≠ 11 → q' c = q c)
  | 0, r, N, q, e, hN, h2, hH => by
    obtain ⟨N, rfl⟩ : ∃ M, N = M + 1 := ⟨N - 1, by omega⟩
    have h8 := (prt_8 (B := B) (Tx_n hT) (show (1 : Nat) ≠ 2 by decide)).1
    refine ⟨q, ?_, by rw [show prt 1 n B = r by omega]; exact hH, fun _ _ _ => rfl⟩
    rw [fX2_takeLeavers_15, h2, if_pos (by rw [nI_le' (by omega) (by omega)]; omega)]
  | m + 1, r, N, q, e, hN, h2, hH => by
    obtain ⟨N, rfl⟩ : ∃ M, N = M + 1 := ⟨N - 1, by omega⟩
    obtain ⟨h8, hp⟩ := prt_8 (B := B) (Tx_n hT) (show (1 : Nat) ≠ 2 by decide)
    obtain ⟨p1, p2, p3, p4⟩ := hp r (by omega)
    have hr : r < 8 := by omega
    have f1 := f_figure hT (show 4 * r < n by omega) (mS_fig p2 (Or.inr (by omega))).1
    have f2 := f_figure hT (show 4 * r + 1 < n by omega) (mS_fig p3 (Or.inr (by omega))).1
    have f3 := f_figure hT (show 4 * r + 2 < n by omega) (mS_fig p4 (Or.inr (by omega))).1
    rw [fX2_takeLeavers_15, h2, if_neg (by rw [nI_le' (by omega) (by omega)]; omega), show (4 : Int32) = nI 4 from rfl, nI_mul, f1, bd1_s, nI_1, f2, bd1_s, wr_nI rfl hr (by decide), show nI (4 * r) + 2 = nI (4 * r + 2) from nI_add (4 * r) 2, f3, bd1_s, wr_nI rfl hr (by decide), show (10 : Int32) = nI 10 from rfl, nI_mul, nI_add, stp_n, nI_1]
    obtain ⟨q', a1, a2, a3⟩ := f_takeLeavers_15 hT m (r + 1) N (sS (sS q 10 r (nI (10 * (B (4 * r) - 48) + (B (4 * r + 1) - 48)))) 11 r (nI (B (4 * r + 2) - 48))) (by omega) (by omega) h2 (fun l hl => by
      rw [sS_o (show (10 : Nat) ≠ 11 by decide), sS_s, sS_s]
      by_cases d : l = r
      · rw [d, upd_s, upd_s]; exact ⟨rfl, rfl⟩
      · rw [upd_o d, upd_o d, sS_o (by decide)]; exact hH l (by omega))
    exact ⟨q', a1, a2, fun c h10 h11 => by rw [a3 c h10 h11, sS_o h11, sS_o h10]⟩
theorem f_takeLeavers {h t : St} {n : Nat} {B : Nat → Nat} (hT : Tx t 1 n B) : ∃ h', fX2_takeLeavers h t = some h' ∧ HL h' B (prt 1 n B) ∧ h' 0 3 = nI (prt 1 n B) ∧ (∀ c, c ≠ 0 → c ≠ 10 → c ≠ 11 → h' c = h c) ∧ ∀ i, i ≠ 3 → h' 0 i = h 0 i := by
  have h8 := (prt_8 (B := B) (Tx_n hT) (show (1 : Nat) ≠ 2 by decide)).1
  unfold fX2_takeLeavers
  rw [f_parts hT, bd1_s, min8 h8, stp_n]
  obtain ⟨q', a1, a2, a3⟩ := f_takeLeavers_15 hT (prt 1 n B) 0 300 (sS h 0 3 (nI (prt 1 n B))) (by omega) (by omega) rfl (fun k hk => absurd hk (by omega))
  refine ⟨q', a1, a2, ?_, fun c n0 h10 h11 => ?_, fun i n3 => ?_⟩
  · rw [a3 0 (by decide) (by decide)]; rfl
  · rw [a3 c h10 h11, sS_o n0]
  · rw [a3 0 (by decide) (by decide), sS_s, upd_o n3]
theorem f_takeStops_15 {t : St} {n : Nat} {B : Nat → Nat} (hT : Tx t 2 n B) : ∀ (m r N : Nat) (q : St), m + r = prt 2 n B → m < N → q 0 4 = nI (prt 2 n B) → (∀ i, i < r → q 12 i = nI (B i - 48)) → ∃ q', fX2_takeStops_15 t N (nI r) q = some q' ∧ (∀ i, i < prt 2 n B → q' 12 i = nI (B i - 48)) ∧ (∀ c, c ≠ 12 → q' c = q c)
  | 0, r, N, q, e, hN, h2, hH => by
    obtain ⟨N, rfl⟩ : ∃ M, N = M + 1 := ⟨N - 1, by omega⟩
    have h20 := (prt_20 hT).1
    refine ⟨q, ?_, by rw [show prt 2 n B = r by omega]; exact hH, fun _ _ => rfl⟩
    rw [fX2_takeStops_15, h2, if_pos (by rw [nI_le' (by omega) (by omega)]; omega)]
  | m + 1, r, N, q, e, hN, h2, hH => by
    obtain ⟨N, rfl⟩ : ∃ M, N = M + 1 := ⟨N - 1, by omega⟩
    obtain ⟨h20, hp, hpn⟩ := prt_20 hT
    have f1 := f_figure hT (show r < n by omega) (mS_fig (hp r (by omega)) (Or.inl rfl)).1
    rw [fX2_takeStops_15, h2, if_neg (by rw [nI_le' (by omega) (by omega)]; omega), f1, bd1_s, wr_nI rfl (show r < 20 by omega) (by decide), stp_n, nI_1]
    obtain ⟨q', a1, a2, a3⟩ := f_takeStops_15 hT m (r + 1) N (sS q 12 r (nI (B r - 48))) (by omega) (by omega) h2 (fun l hl => by
      rw [sS_s]
      by_cases d : l = r
      · rw [d, upd_s]
      · rw [upd_o d]; exact hH l (by omega))
    exact ⟨q', a1, a2, fun c h12 => by rw [a3 c h12, sS_o h12]⟩
theorem f_takeStops {h t : St} {n : Nat} {B : Nat → Nat} (hT : Tx t 2 n B) : ∃ h', fX2_takeStops h t = some h' ∧ (∀ i, i < prt 2 n B → h' 12 i = nI (B i - 48)) ∧ h' 0 4 = nI (prt 2 n B) ∧ (∀ c, c ≠ 0 → c ≠ 12 → h' c = h c) ∧ ∀ i, i ≠ 4 → h' 0 i = h 0 i := by
  have h20 := (prt_20 hT).1
  have e20 : (if (20 : Int32) < nI (prt 2 n B) then 20 else nI (prt 2 n B)) = nI (prt 2 n B) := by
    rw [if_neg (by rw [show (20 : Int32) = nI 20 from rfl, nI_lt' (by omega) (by omega)]; omega)]
  unfold fX2_takeStops
  rw [f_parts hT, bd1_s, e20, stp_n]
  obtain ⟨q', a1, a2, a3⟩ := f_takeStops_15 hT (prt 2 n B) 0 300 (sS h 0 4 (nI (prt 2 n B))) (by omega) (by omega) rfl (fun k hk => absurd hk (by omega))
  refine ⟨q', a1, a2, ?_, fun c n0 h12 => ?_, fun i n3 => ?_⟩
  · rw [a3 0 (by decide)]; rfl
  · rw [a3 c h12, sS_o n0]
  · rw [a3 0 (by decide), sS_s, upd_o n3]
/-! ===== class and reference ===== -/
/-- the house has taken the texts of s -/
def HsT (h s : St) : Prop := (h 0 2 = nI (nrS s) ∧ h 0 3 = nI (nlS s) ∧ h 0 4 = nI (nsS s)) ∧ (∀ k, k < nrS s → h 7 k = nI (hvS s k) ∧ h 8 k = nI (frS s k) ∧ h 9 k = nI (toS s k)) ∧ (∀ l, l < nlS s → h 10 l = nI (laT s l) ∧ h 11 l = nI (lwT s l)) ∧ (∀ i, i < nsS s → h 12 i = nI (stS s i)) ∧ (∀ f k, f < 10 → k < 32 → bt (h 13 f) k = (decide (k < nrS s) && decide (frS s k = f)) ∧ bt (h 14 f) k = (decide (k < nrS s) && decide (toS s k = f))) ∧ ∀ k, k < 32 → bt (h 0 5) k = (decide (k < nrS s) && decide (frS s k = toS s k))
theorem HsT_d {h s u : St} (D : Dur s u) : HsT h u ↔ HsT h s := by
  obtain ⟨e1, e2, e3, e4, e5, e6, e7, e8, e9⟩ := S_d D
  unfold HsT
  rw [e1, e2, e3, e4, e5, e6, e7, e8, e9]
/-- settings: HALF, LIMIT -/
def Sts (h s : St) : Prop := ∃ hf, hf ≤ 8 ∧ h 0 0 = nI hf ∧ s 0 11 = nI hf ∧ h 0 1 = s 0 12
/-- the texts of both -/
def TxR (z : Nat → St) (s : St) : Prop := Tok s ∧ ∀ κ, κ < 3 → Tx (z (κ + 1)) κ (tn s κ) (tb s κ)
theorem frS_lt {s : St} {k : Nat} (h : Tok s) (hk : k < nrS s) : frS s k < 10 ∧ toS s k < 10 := by
  obtain ⟨a, b, c, d⟩ := (prt_8 h.1.2.1 (by decide)).2 k hk
  have m2 := mS_fig c (Or.inr (by omega))
  have m3 := mS_fig d (Or.inr (by omega))
  unfold frS toS
  omega
theorem Hou_of {h s t : St} (hk : Tok s) (hH : HsT h s) (hR : Rdd t s) {hf : Nat} (h1 : hf ≤ 8) (h2 : h 0 0 = nI hf) (h3 : t 0 11 = nI hf) (h4 : h 0 1 = t 0 12) : Hou h t (nrS s) (nlS s) hf := by
  obtain ⟨⟨a1, a2, a3⟩, a4, a5, a6, a7, a8⟩ := hH
  obtain ⟨b1, b2, b3, b4, b5, b6⟩ := hR
  have n8 := nrS_8 hk
  refine ⟨⟨a1, b1, n8⟩, ⟨a2, b2, nlS_8 hk⟩, ⟨h2, h3, h1⟩, h4, fun q hq => ?_, fun l hl => ?_, fun f k hf hk2 => ?_, fun k hk2 => ?_⟩
  · obtain ⟨c1, c2, c3⟩ := a4 q hq
    obtain ⟨d1, d2, d3⟩ := b4 q hq
    rw [c1, c2, c3, d1, d2, d3]
    exact ⟨rfl, rfl, rfl⟩
  · rw [(a5 l hl).1, (b5 l hl).1]
  · obtain ⟨c1, c2⟩ := a7 f k hf hk2
    rw [c1, c2]
    by_cases c : k < nrS s
    · obtain ⟨d1, d2, d3⟩ := b4 k c
      have := frS_lt hk c
      rw [d2, d3]
      simp only [nI_eq (show frS s k < 2 ^ 31 by omega) (show f < 2 ^ 31 by omega), nI_eq (show toS s k < 2 ^ 31 by omega) (show f < 2 ^ 31 by omega)]
      exact ⟨trivial, trivial⟩
    · simp [c]
  · rw [a8 k hk2]
    by_cases c : k < nrS s
    · obtain ⟨d1, d2, d3⟩ := b4 k c
      have := frS_lt hk c
      rw [d2, d3]
      simp only [nI_eq (show frS s k < 2 ^ 31 by omega) (show toS s k < 2 ^ 31 by omega)]
    · simp [c]
/-- stops told, without a and b -/
def wyT (s : St) (a b : Int32) : List Nat := lst (stS s) a b (nsS s) 0
theorem f_stopsT {h s r : St} (hk : Tok s) (hH : HsT h s) (a b : Int32) : fX4_goToStops h r a b = goL h (wyT s a b) r := f_goToStops r hH.1.2.2 (nsS_20 hk) hH.2.2.2.1
theorem wyT_lt {s : St} (hk : Tok s) (a b : Int32) : ∀ f, f ∈ wyT s a b → f < 10 := lst_lt (stS s) a b (n := nsS s) (fun i hi => stS_10 hk hi) (nsS s) 0 (by omega)
theorem wyT_len (s : St) (a b : Int32) : (wyT s a b).length ≤ nsS s := lst_len _ _ _ _ _
/-- the whole row of stops -/
theorem lst_all (st : Nat → Nat) : ∀ m i, (∀ k, i ≤ k → k < i + m → ¬ nI k = -1) → (lst st (-1) (-1) m i).length = m ∧ ∀ k, k < m → (lst st (-1) (-1) m i).getD k 0 = st (i + k)
  | 0, i, _ => ⟨rfl, fun k hk => absurd hk (by omega)⟩
  | m + 1, i, h => by
    obtain ⟨a, b⟩ := lst_all st m (i + 1) (fun k h1 h2 => h k (by omega) (by omega))
    have c : ¬ nI i = -1 := h i (by omega) (by omega)
    rw [lst, if_neg (by rintro (z | z) <;> exact c z)]
    refine ⟨by rw [List.length_cons, a], fun k hk => ?_⟩
    cases k with
    | zero => rfl
    | succ k =>
      rw [List.getD_cons_succ, b k (by omega)]
      congr 1; omega
theorem wyT_all {s : St} (hk : Tok s) : (wyT s (-1) (-1)).length = nsS s ∧ ∀ k, k < nsS s → (wyT s (-1) (-1)).getD k 0 = stS s k := by
  have h20 := nsS_20 hk
  obtain ⟨a, b⟩ := lst_all (stS s) (nsS s) 0 (fun k h1 h2 => nI_nm (by omega))
  exact ⟨a, fun k hk => (b k hk).trans (by rw [Nat.zero_add])⟩
theorem Way_told {t s : St} (hk : Tok s) (hT : Tld t s) : Way t (wyT s (-1) (-1)) := by
  obtain ⟨a, b⟩ := wyT_all hk
  have h20 := nsS_20 hk
  refine ⟨by rw [a]; exact hT.2.1, fun i hi => ?_, by omega, wyT_lt hk _ _⟩
  rw [a] at hi
  rw [b i hi]
  exact hT.2.2.1 i hi
