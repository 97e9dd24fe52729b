/-! ===== the class takes what the texts say ===== -/
theorem f_fill_5 {nA : Nat} (hA : nA ≤ 200) (a : Nat → Int32) (x : Int32) : fJ7_fill_53178_5 nA 300 x 0 (nI nA) a = some (fil (fun _ => x) a nA) := by
  have key := forP (fun n k s => fJ7_fill_53178_5 nA n x (nI k) (nI nA) s) nA (fun k => fil (fun _ => x) a k) (some (fil (fun _ => x) a nA)) ?_ ?_ 300 (by omega)
  · rw [fil_0] at key
    exact key
  · intro n k hk
    show fJ7_fill_53178_5 nA (n + 1) x (nI k) (nI nA) (fil (fun _ => x) a k) = fJ7_fill_53178_5 nA n x (nI (k + 1)) (nI nA) (fil (fun _ => x) a (k + 1))
    rw [fJ7_fill_53178_5, if_neg (by rw [nI_le' (by omega) (by omega)]; omega), chk_nI hk (by omega), stp_n, stp_n, ix_nI (by omega), nI_1, fil_s (fun _ => x) a k]
  · intro n
    show fJ7_fill_53178_5 nA (n + 1) x (nI nA) (nI nA) (fil (fun _ => x) a nA) = _
    rw [fJ7_fill_53178_5, if_pos (by rw [nI_le' (by omega) (by omega)]; exact Nat.le_refl _)]
theorem f_fill {nA : Nat} (hA : nA ≤ 200) (a : Nat → Int32) (x : Int32) : fJ7_fill_53178 nA a x = some (fil (fun _ => x) a nA) := f_fill_5 hA a x
def bit1 (r : Nat) : Int32 := (1 : Int32) <<< (nI r &&& 31)
def nfS (q : St) (r a b f : Nat) : St :=
  let q1 := if a = f then sS q 13 f (q 13 f ||| bit1 r) else q
  if b = f then sS q1 14 f (q1 14 f ||| bit1 r) else q1
theorem f_noteFloors_s {q : St} {r a b f N : Nat} (hr : r < 8) (hf : f < 10) (ha : a < 10) (hb : b < 10) (h8 : q 8 r = nI a) (h9 : q 9 r = nI b) : fX2_noteFloors_2 (N + 1) (nI r) (nI f) q = fX2_noteFloors_2 N (nI r) (nI (f + 1)) (nfS q r a b f) := by
  rw [fX2_noteFloors_2, if_neg (by rw [show (10 : Int32) = nI 10 from rfl, nI_le' (by omega) (by omega)]; omega), rd_nI rfl hr (by decide), h8]
  unfold nfS
  by_cases c : a = f
  · rw [if_pos (by rw [c]), rd_nI rfl hf (by decide), wr_nI rfl hf (by decide), rd_nI rfl hr (by decide)]
    have e9 : sS q 13 f (q 13 f ||| (1 : Int32) <<< (nI r &&& 31)) 9 r = nI b := h9
    rw [e9, if_pos c]
    by_cases d : b = f
    · rw [if_pos (by rw [d]), rd_nI rfl hf (by decide), wr_nI rfl hf (by decide), stp_n, nI_1, if_pos d]
      rfl
    · rw [if_neg (by rw [nI_eq (by omega) (by omega)]; exact d), stp_n, nI_1, if_neg d]
      rfl
  · rw [if_neg (by rw [nI_eq (by omega) (by omega)]; exact c), rd_nI rfl hr (by decide), h9, if_neg c]
    by_cases d : b = f
    · rw [if_pos (by rw [d]), rd_nI rfl hf (by decide), wr_nI rfl hf (by decide), stp_n, nI_1, if_pos d]
      rfl
    · rw [if_neg (by rw [nI_eq (by omega) (by omega)]; exact d), stp_n, nI_1, if_neg d]
theorem nfS_o {q : St} {r a b f c : Nat} (h1 : c ≠ 13) (h2 : c ≠ 14) : nfS q r a b f c = q c := by
  unfold nfS
  split
  · rw [sS_o h2]
    split
    · rw [sS_o h1]
    · rfl
  · split
    · rw [sS_o h1]
    · rfl
theorem nfS_13 {q : St} {r a b f g : Nat} : nfS q r a b f 13 g = (if a = f ∧ g = f then q 13 g ||| bit1 r else q 13 g) ∧ nfS q r a b f 14 g = (if b = f ∧ g = f then q 14 g ||| bit1 r else q 14 g) := by
  unfold nfS
  by_cases c : a = f <;> by_cases d : b = f <;> by_cases e : g = f
  all_goals simp [c, d, e, sS_c, upd_s]
  all_goals try rw [upd_o e]
  all_goals try rw [upd_o e]
  all_goals try exact ⟨rfl, rfl⟩
theorem f_noteFloors_2 {r a b : Nat} (hr : r < 8) (ha : a < 10) (hb : b < 10) : ∀ (m f N : Nat) (q : St), m + f = 10 → m < N → q 8 r = nI a → q 9 r = nI b → ∃ q', fX2_noteFloors_2 N (nI r) (nI f) q = some q' ∧ (∀ c, c ≠ 13 → c ≠ 14 → q' c = q c) ∧ ∀ g, g < 10 → q' 13 g = (if f ≤ g ∧ g = a then q 13 g ||| bit1 r else q 13 g) ∧ q' 14 g = (if f ≤ g ∧ g = b then q 14 g ||| bit1 r else q 14 g)
  | 0, f, N, q, e, hN, h8, h9 => by
    obtain ⟨N, rfl⟩ : ∃ M, N = M + 1 := ⟨N - 1, by omega⟩
    refine ⟨q, ?_, fun _ _ _ => rfl, fun g hg => ?_⟩
    · rw [fX2_noteFloors_2, if_pos (by rw [show (10 : Int32) = nI 10 from rfl, nI_le' (by omega) (by omega)]; omega)]
    · rw [if_neg (by omega), if_neg (by omega)]; exact ⟨rfl, rfl⟩
  | m + 1, f, N, q, e, hN, h8, h9 => by
    obtain ⟨N, rfl⟩ : ∃ M, N = M + 1 := ⟨N - 1, by omega⟩
    rw [f_noteFloors_s hr (by omega) ha hb h8 h9]
    obtain ⟨q', a1, a2, a3⟩ := f_noteFloors_2 hr ha hb m (f + 1) N (nfS q r a b f) (by omega) (by omega) (by rw [nfS_o (by decide) (by decide)]; exact h8) (by rw [nfS_o (by decide) (by decide)]; exact h9)
    refine ⟨q', a1, fun c h1 h2 => (a2 c h1 h2).trans (nfS_o h1 h2), fun g hg => ?_⟩
    obtain ⟨b1, b2⟩ := a3 g hg
    obtain ⟨n1, n2⟩ := nfS_13 (q := q) (r := r) (a := a) (b := b) (f := f) (g := g)
    rw [b1, b2, n1, n2]
    by_cases c : g = f
    · subst c
      rw [if_neg (show ¬ (g + 1 ≤ g ∧ g = a) by omega), if_neg (show ¬ (g + 1 ≤ g ∧ g = b) by omega)]
      refine ⟨?_, ?_⟩
      · by_cases d : a = g
        · rw [if_pos (show a = g ∧ g = g from ⟨d, rfl⟩), if_pos (show g ≤ g ∧ g = a from ⟨Nat.le_refl _, d.symm⟩)]
        · rw [if_neg (show ¬ (a = g ∧ g = g) by omega), if_neg (show ¬ (g ≤ g ∧ g = a) by omega)]
      · by_cases d : b = g
        · rw [if_pos (show b = g ∧ g = g from ⟨d, rfl⟩), if_pos (show g ≤ g ∧ g = b from ⟨Nat.le_refl _, d.symm⟩)]
        · rw [if_neg (show ¬ (b = g ∧ g = g) by omega), if_neg (show ¬ (g ≤ g ∧ g = b) by omega)]
    · have e1 : (f + 1 ≤ g ∧ g = a) = (f ≤ g ∧ g = a) := by apply propext; omega
      have e2 : (f + 1 ≤ g ∧ g = b) = (f ≤ g ∧ g = b) := by apply propext; omega
      rw [if_neg (show ¬ (a = f ∧ g = f) by omega), if_neg (show ¬ (b = f ∧ g = f) by omega)]
      simp only [e1, e2, and_self]
theorem f_noteFloors {r a b : Nat} {q : St} (hr : r < 8) (ha : a < 10) (hb : b < 10) (h8 : q 8 r = nI a) (h9 : q 9 r = nI b) : ∃ q', fX2_noteFloors q (nI r) = some q' ∧ (∀ c, c ≠ 13 → c ≠ 14 → q' c = q c) ∧ ∀ g, g < 10 → q' 13 g = (if g = a then q 13 g ||| bit1 r else q 13 g) ∧ q' 14 g = (if g = b then q 14 g ||| bit1 r else q 14 g) := by
  obtain ⟨q', a1, a2, a3⟩ := f_noteFloors_2 hr ha hb 10 0 300 q (by omega) (by omega) h8 h9
  refine ⟨q', a1, a2, fun g hg => ?_⟩
  have := a3 g hg
  simp only [Nat.zero_le, true_and] at this
  exact this
/-- riders taken up to r -/
def HR (q : St) (B : Nat → Nat) (r : Nat) : Prop := (∀ k, k < r → q 7 k = nI (B (4 * k) - 48) ∧ q 8 k = nI (B (4 * k + 1) - 48) ∧ q 9 k = nI (B (4 * k + 2) - 48)) ∧ (∀ f k, f < 10 → k < 32 → bt (q 13 f) k = (decide (k < r) && decide (B (4 * k + 1) - 48 = f)) ∧ bt (q 14 f) k = (decide (k < r) && decide (B (4 * k + 2) - 48 = f))) ∧ ∀ k, k < 32 → bt (q 0 5) k = (decide (k < r) && decide (B (4 * k + 1) - 48 = B (4 * k + 2) - 48))
theorem bt_bit1 {r k : Nat} (hr : r < 8) : bt (bit1 r) k = decide (k = r) := bt_one (by omega)
theorem HR_s {q q' : St} {B : Nat → Nat} {r a b : Nat} (hr : r < 8) (h : HR q B r) (ea : a = B (4 * r + 1) - 48) (eb : b = B (4 * r + 2) - 48) (h7 : ∀ k, q' 7 k = if k = r then nI (B (4 * r) - 48) else q 7 k) (h8 : ∀ k, q' 8 k = if k = r then nI a else q 8 k) (h9 : ∀ k, q' 9 k = if k = r then nI b else q 9 k) (h13 : ∀ g, g < 10 → q' 13 g = (if g = a then q 13 g ||| bit1 r else q 13 g) ∧ q' 14 g = (if g = b then q 14 g ||| bit1 r else q 14 g)) (h5 : q' 0 5 = if a = b then q 0 5 ||| bit1 r else q 0 5) : HR q' B (r + 1) := by
  obtain ⟨a1, a2, a3⟩ := h
  refine ⟨fun k hk => ?_, fun f k hf hk => ?_, fun k hk => ?_⟩
  · rw [h7 k, h8 k, h9 k]
    by_cases c : k = r
    · subst c
      rw [if_pos rfl, if_pos rfl, if_pos rfl, ea, eb]
      exact ⟨rfl, rfl, rfl⟩
    · rw [if_neg c, if_neg c, if_neg c]
      exact a1 k (by omega)
  · obtain ⟨g1, g2⟩ := h13 f hf
    obtain ⟨b1, b2⟩ := a2 f k hf hk
    rw [g1, g2]
    refine ⟨?_, ?_⟩
    · by_cases c : k = r
      · subst c
        by_cases d : f = a
        · rw [if_pos d, bt_or, bt_bit1 hr, b1, ← ea]; simp [d]
        · rw [if_neg d, b1, ← ea]; simp [show ¬ a = f by omega]
      · have e1 : (k < r + 1) = (k < r) := by apply propext; omega
        simp only [e1]
        rw [← b1]
        by_cases d : f = a
        · rw [if_pos d, bt_or, bt_bit1 hr]; simp [c]
        · rw [if_neg d]
    · by_cases c : k = r
      · subst c
        by_cases d : f = b
        · rw [if_pos d, bt_or, bt_bit1 hr, b2, ← eb]; simp [d]
        · rw [if_neg d, b2, ← eb]; simp [show ¬ b = f by omega]
      · have e1 : (k < r + 1) = (k < r) := by apply propext; omega
        simp only [e1]
        rw [← b2]
        by_cases d : f = b
        · rw [if_pos d, bt_or, bt_bit1 hr]; simp [c]
        · rw [if_neg d]
  · rw [h5]
    by_cases c : k = r
    · subst c
      rw [← ea, ← eb]
      by_cases d : a = b
      · rw [if_pos d, bt_or, bt_bit1 hr]; simp [d]
      · rw [if_neg d, a3 k hk]; simp [d]
    · have e1 : (k < r + 1) = (k < r) := by apply propext; omega
      simp only [e1]
      rw [← a3 k hk]
      by_cases d : a = b
      · rw [if_pos d, bt_or, bt_bit1 hr]; simp [c]
      · rw [if_neg d]
theorem f_takeRiders_36 {t : St} {n : Nat} {B : Nat → Nat} (hT : Tx t 0 n B) : ∀ (m r N : Nat) (q : St), m + r = prt 0 n B → m < N → q 0 2 = nI (prt 0 n B) → HR q B r → ∃ q', fX2_takeRiders_36 t N (nI r) q = some q' ∧ HR q' B (prt 0 n B) ∧ (∀ c, c ≠ 0 → c ≠ 7 → c ≠ 8 → c ≠ 9 → c ≠ 13 → c ≠ 14 → q' c = q c) ∧ ∀ i, i ≠ 5 → q' 0 i = q 0 i
  | 0, r, N, q, e, hN, h2, hH => by
    obtain ⟨N, rfl⟩ : ∃ M, N = M + 1 := ⟨N - 1, by omega⟩
    have h8 := (prt_8 (B := B) (Tx_n hT) (show (0 : Nat) ≠ 2 by decide)).1
    refine ⟨q, ?_, by rw [show prt 0 n B = r by omega]; exact hH, fun _ _ _ _ _ _ _ => rfl, fun _ _ => rfl⟩
    rw [fX2_takeRiders_36, h2, if_pos (by rw [nI_le' (by omega) (by omega)]; omega)]
  | m + 1, r, N, q, e, hN, h2, hH => by
    obtain ⟨N, rfl⟩ : ∃ M, N = M + 1 := ⟨N - 1, by omega⟩
    obtain ⟨h8, hp⟩ := prt_8 (B := B) (Tx_n hT) (show (0 : Nat) ≠ 2 by decide)
    obtain ⟨p1, p2, p3, p4⟩ := hp r (by omega)
    have hr : r < 8 := by omega
    have m1 := mS_fig p2 (Or.inr (by omega))
    have m2 := mS_fig p3 (Or.inr (by omega))
    have m3 := mS_fig p4 (Or.inr (by omega))
    have f1 := f_figure hT (show 4 * r < n by omega) m1.1
    have f2 := f_figure hT (show 4 * r + 1 < n by omega) m2.1
    have f3 := f_figure hT (show 4 * r + 2 < n by omega) m3.1
    obtain ⟨a, ea⟩ : ∃ a, a = B (4 * r + 1) - 48 := ⟨_, rfl⟩
    obtain ⟨b, eb⟩ : ∃ b, b = B (4 * r + 2) - 48 := ⟨_, rfl⟩
    rw [← ea] at f2
    rw [← eb] at f3
    have ha : a < 10 := by omega
    have hb : b < 10 := by omega
    rw [fX2_takeRiders_36, h2, if_neg (by rw [nI_le' (by omega) (by omega)]; omega), show (4 : Int32) = nI 4 from rfl, nI_mul, f1, bd1_s, wr_nI rfl hr (by decide), nI_1, f2, bd1_s, wr_nI rfl hr (by decide), show nI (4 * r) + 2 = nI (4 * r + 2) from nI_add (4 * r) 2, f3, bd1_s, wr_nI rfl hr (by decide), rd_nI rfl hr (by decide), rd_nI rfl hr (by decide)]
    generalize hq3 : sS (sS (sS q 7 r (nI (B (4 * r) - 48))) 8 r (nI a)) 9 r (nI b) = q3
    have e7 : ∀ k, q3 7 k = if k = r then nI (B (4 * r) - 48) else q 7 k := fun k => by rw [← hq3, sS_o (by decide), sS_o (by decide), sS_s]; rfl
    have e8 : ∀ k, q3 8 k = if k = r then nI a else q 8 k := fun k => by rw [← hq3, sS_o (by decide), sS_s, sS_o (by decide)]; rfl
    have e9 : ∀ k, q3 9 k = if k = r then nI b else q 9 k := fun k => by rw [← hq3, sS_s, sS_o (by decide), sS_o (by decide)]; rfl
    have eo : ∀ c, c ≠ 7 → c ≠ 8 → c ≠ 9 → q3 c = q c := fun c h7 h8 h9 => by rw [← hq3, sS_o h9, sS_o h8, sS_o h7]
    have v8 : q3 8 r = nI a := by rw [e8, if_pos rfl]
    have v9 : q3 9 r = nI b := by rw [e9, if_pos rfl]
    rw [v8, v9]
    by_cases cab : a = b
    · rw [if_pos (by rw [cab]), stp_n]
      obtain ⟨q', a1, a2, a3⟩ := f_noteFloors (q := sS q3 0 5 (q3 0 5 ||| (1 : Int32) <<< (nI r &&& 31))) hr ha hb v8 v9
      rw [a1, bd1_s, stp_n, nI_1]
      have hH' : HR q' B (r + 1) := HR_s hr hH ea eb (fun k => by rw [a2 7 (by decide) (by decide)]; exact e7 k) (fun k => by rw [a2 8 (by decide) (by decide)]; exact e8 k) (fun k => by rw [a2 9 (by decide) (by decide)]; exact e9 k) (fun g hg => by
        have := a3 g hg
        rw [sS_o (by decide), sS_o (by decide), eo 13 (by decide) (by decide) (by decide), eo 14 (by decide) (by decide) (by decide)] at this
        exact this) (by
        rw [a2 0 (by decide) (by decide), sS_s, upd_s, if_pos cab, eo 0 (by decide) (by decide) (by decide)]
        rfl)
      obtain ⟨q'', b1, b2, b3, b4⟩ := f_takeRiders_36 hT m (r + 1) N q' (by omega) (by omega) (by
        rw [a2 0 (by decide) (by decide), sS_s, upd_o (by decide), eo 0 (by decide) (by decide) (by decide)]; exact h2) hH'
      refine ⟨q'', b1, b2, fun c n0 n7 n8 n9 n13 n14 => ?_, fun i hi => ?_⟩
      · rw [b3 c n0 n7 n8 n9 n13 n14, a2 c n13 n14, sS_o n0, eo c n7 n8 n9]
      · rw [b4 i hi, a2 0 (by decide) (by decide), sS_s, upd_o hi, eo 0 (by decide) (by decide) (by decide)]
    · rw [if_neg (by rw [nI_eq (by omega) (by omega)]; exact cab)]
      obtain ⟨q', a1, a2, a3⟩ := f_noteFloors (q := q3) hr ha hb v8 v9
      rw [a1, bd1_s, stp_n, nI_1]
      have hH' : HR q' B (r + 1) := HR_s hr hH ea eb (fun k => by rw [a2 7 (by decide) (by decide)]; exact e7 k) (fun k => by rw [a2 8 (by decide) (by decide)]; exact e8 k) (fun k => by rw [a2 9 (by decide) (by decide)]; exact e9 k) (fun g hg => by
        have := a3 g hg
        rw [eo 13 (by decide) (by decide) (by decide), eo 14 (by decide) (by decide) (by decide)] at this
        exact this) (by
        rw [a2 0 (by decide) (by decide), if_neg cab, eo 0 (by decide) (by decide) (by decide)])
      obtain ⟨q'', b1, b2, b3, b4⟩ := f_takeRiders_36 hT m (r + 1) N q' (by omega) (by omega) (by
        rw [a2 0 (by decide) (by decide), eo 0 (by decide) (by decide) (by decide)]; exact h2) hH'
      refine ⟨q'', b1, b2, fun c n0 n7 n8 n9 n13 n14 => ?_, fun i hi => ?_⟩
      · rw [b3 c n0 n7 n8 n9 n13 n14, a2 c n13 n14, eo c n7 n8 n9]
      · rw [b4 i hi, a2 0 (by decide) (by decide), eo 0 (by decide) (by decide) (by decide)]
theorem min8 {n : Nat} (h : n ≤ 8) : (if (8 : Int32) < nI n then 8 else nI n) = nI n := by
  rw [if_neg (by rw [show (8 : Int32) = nI 8 from rfl, nI_lt' (by omega) (by omega)]; omega)]
theorem f_takeRiders {h t : St} {n : Nat} {B : Nat → Nat} (hT : Tx t 0 n B) : ∃ h', fX2_takeRiders h t = some h' ∧ HR h' B (prt 0 n B) ∧ h' 0 2 = nI (prt 0 n B) ∧ (∀ c, c ≠ 0 → c ≠ 7 → c ≠ 8 → c ≠ 9 → c ≠ 13 → c ≠ 14 → h' c = h c) ∧ ∀ i, i ≠ 2 → i ≠ 5 → h' 0 i = h 0 i := by
  have h8 := (prt_8 (B := B) (Tx_n hT) (show (0 : Nat) ≠ 2 by decide)).1
  unfold fX2_takeRiders
  rw [f_parts hT, bd1_s, min8 h8, stp_n, stp_n, f_fill (by decide), bd1_s, stp_n, f_fill (by decide), bd1_s, stp_n]
  obtain ⟨q', a1, a2, a3, a4⟩ := f_takeRiders_36 hT (prt 0 n B) 0 300 (va_up (va_up (sS (sS h 0 2 (nI (prt 0 n B))) 0 5 0) 13 (fil (fun _ => 0) (sS (sS h 0 2 (nI (prt 0 n B))) 0 5 0 13) 10)) 14 (fil (fun _ => 0) (va_up (sS (sS h 0 2 (nI (prt 0 n B))) 0 5 0) 13 (fil (fun _ => 0) (sS (sS h 0 2 (nI (prt 0 n B))) 0 5 0 13) 10) 14) 10)) (by omega) (by omega) rfl ⟨fun k hk => absurd hk (by omega), fun f k hf hk => ⟨by
      rw [up_o (by decide), up_s, fil_in hf, bt_zero]; simp, by
      rw [up_s, fil_in hf, bt_zero]; simp⟩, fun k hk => by
      show bt (0 : Int32) k = _
      rw [bt_zero]; simp⟩
  refine ⟨q', a1, a2, ?_, fun c n0 n7 n8 n9 n13 n14 => ?_, fun i n2 n5 => ?_⟩
  · rw [a4 2 (by decide)]; rfl
  · rw [a3 c n0 n7 n8 n9 n13 n14, up_o n14, up_o n13, sS_o n0, sS_o n0]
  · rw [a4 i n5, up_o (by decide), up_o (by decide), sS_s, upd_o n5, sS_s, upd_o n2]
