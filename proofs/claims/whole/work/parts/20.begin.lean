/-! ===== the start of a ride: the reference ===== -/
def g5 (t : St) (a b c d e : Nat → Int32) : St := va_up (va_up (va_up (va_up (va_up t 27 a) 28 b) 29 c) 32 d) 33 e
theorem g5_27 (t : St) (a b c d e : Nat → Int32) (k : Nat) (x : Int32) : sS (g5 t a b c d e) 27 k x = g5 t (upd a k x) b c d e := by
  funext i
  unfold g5 sS va_up
  by_cases h1 : i = 33
  · simp [h1]
  · by_cases h2 : i = 32
    · simp [h2]
    · by_cases h3 : i = 29
      · simp [h3]
      · by_cases h4 : i = 28
        · simp [h4]
        · by_cases h5 : i = 27
          · simp [h5]
          · simp [h1, h2, h3, h4, h5]
theorem g5_28 (t : St) (a b c d e : Nat → Int32) (k : Nat) (x : Int32) : sS (g5 t a b c d e) 28 k x = g5 t a (upd b k x) c d e := by
  funext i
  unfold g5 sS va_up
  by_cases h1 : i = 33
  · simp [h1]
  · by_cases h2 : i = 32
    · simp [h2]
    · by_cases h3 : i = 29
      · simp [h3]
      · by_cases h4 : i = 28
        · simp [h4]
        · simp [h1, h2, h3, h4]
theorem g5_29 (t : St) (a b c d e : Nat → Int32) (k : Nat) (x : Int32) : sS (g5 t a b c d e) 29 k x = g5 t a b (upd c k x) d e := by
  funext i
  unfold g5 sS va_up
  by_cases h1 : i = 33
  · simp [h1]
  · by_cases h2 : i = 32
    · simp [h2]
    · by_cases h3 : i = 29
      · simp [h3]
      · simp [h1, h2, h3]
theorem g5_32 (t : St) (a b c d e : Nat → Int32) (k : Nat) (x : Int32) : sS (g5 t a b c d e) 32 k x = g5 t a b c (upd d k x) e := by
  funext i
  unfold g5 sS va_up
  by_cases h1 : i = 33
  · simp [h1]
  · by_cases h2 : i = 32
    · simp [h2]
    · simp [h1, h2]
theorem g5_33 (t : St) (a b c d e : Nat → Int32) (k : Nat) (x : Int32) : sS (g5 t a b c d e) 33 k x = g5 t a b c d (upd e k x) := by
  funext i
  unfold g5 sS va_up
  by_cases h1 : i = 33
  · simp [h1]
  · simp [h1]
def aa0 (t : St) (nr q : Nat) : Int32 := if q < nr ∧ t 5 q = t 6 q then 0 else -1
def bgT (t : St) (nr k : Nat) : St := g5 t (fil (fun _ => -1) (t 27) k) (fil (aa0 t nr) (t 28) k) (fil (fun _ => 0) (t 29) k) (fil (fun _ => 0) (t 32) k) (fil (fun _ => 0) (t 33) k)
theorem f_begins_42 (t : St) (o : Option St) {nr : Nat} (hr : t 0 2 = nI nr) (h8 : nr ≤ 8) (ho : bd1 (fX9_notes (bgT t nr 8)) (fun s => some s) = o) : fX9_begins_42 300 0 t = o := by
  have est : bgT t nr 0 = t := by
    unfold bgT g5
    rw [fil_0, fil_0, fil_0, fil_0, fil_0, up_self, up_self, up_self, up_self, up_self]
  have key := forP (fun n k s => fX9_begins_42 n (nI k) s) 8 (fun k => bgT t nr k) o ?_ ?_ 300 (by omega)
  · rw [est] at key
    exact key
  · intro n k hk
    show fX9_begins_42 (n + 1) (nI k) (bgT t nr k) = fX9_begins_42 n (nI (k + 1)) (bgT t nr (k + 1))
    have e1 : nI k + 1 = nI (k + 1) := nI_1 k
    have c0 : ¬ (8 : Int32) ≤ nI k := nI_ge (b := 8) hk (by decide)
    have nx : ∀ x, x = aa0 t nr k → g5 t (upd (fil (fun _ => -1) (t 27) k) k (-1)) (upd (fil (aa0 t nr) (t 28) k) k x) (upd (fil (fun _ => 0) (t 29) k) k 0) (upd (fil (fun _ => 0) (t 32) k) k 0) (upd (fil (fun _ => 0) (t 33) k) k 0) = bgT t nr (k + 1) := by
      intro x hx
      unfold bgT
      rw [hx, ← fil_s, ← fil_s, ← fil_s, ← fil_s, ← fil_s]
    rw [fX9_begins_42, if_neg c0, wr_nI rfl hk (by decide)]
    have w1 : sS (bgT t nr k) 27 k (-1) = g5 t (upd (fil (fun _ => -1) (t 27) k) k (-1)) (fil (aa0 t nr) (t 28) k) (fil (fun _ => 0) (t 29) k) (fil (fun _ => 0) (t 32) k) (fil (fun _ => 0) (t 33) k) := g5_27 _ _ _ _ _ _ _ _
    rw [w1]
    generalize hA : upd (fil (fun _ => (-1 : Int32)) (t 27) k) k (-1) = A at *
    have a2 : g5 t A (fil (aa0 t nr) (t 28) k) (fil (fun _ => 0) (t 29) k) (fil (fun _ => 0) (t 32) k) (fil (fun _ => 0) (t 33) k) 0 2 = t 0 2 := rfl
    rw [a2, hr]
    by_cases c : nr ≤ k
    · rw [if_pos (nI_le c (by omega)), wr_nI rfl hk (by decide), wr_nI rfl hk (by decide), wr_nI rfl hk (by decide), wr_nI rfl hk (by decide), stp_n, e1, g5_28, g5_29, g5_32, g5_33, nx _ (by unfold aa0; rw [if_neg (by omega)])]
    · rw [if_neg (nI_ge (by omega) (by omega)), rd_nI rfl (show k < 9 by omega) (by decide), rd_nI rfl (show k < 9 by omega) (by decide)]
      have a5 : g5 t A (fil (aa0 t nr) (t 28) k) (fil (fun _ => 0) (t 29) k) (fil (fun _ => 0) (t 32) k) (fil (fun _ => 0) (t 33) k) 5 k = t 5 k := rfl
      have a6 : g5 t A (fil (aa0 t nr) (t 28) k) (fil (fun _ => 0) (t 29) k) (fil (fun _ => 0) (t 32) k) (fil (fun _ => 0) (t 33) k) 6 k = t 6 k := rfl
      rw [a5, a6]
      by_cases c2 : t 5 k = t 6 k
      · rw [if_pos c2, wr_nI rfl hk (by decide), wr_nI rfl hk (by decide), wr_nI rfl hk (by decide), wr_nI rfl hk (by decide), stp_n, e1, g5_28, g5_29, g5_32, g5_33, nx _ (by unfold aa0; rw [if_pos ⟨by omega, c2⟩])]
      · rw [if_neg c2, wr_nI rfl hk (by decide), wr_nI rfl hk (by decide), wr_nI rfl hk (by decide), wr_nI rfl hk (by decide), stp_n, e1, g5_28, g5_29, g5_32, g5_33, nx _ (by unfold aa0; rw [if_neg (fun z => c2 z.2)])]
  · intro n
    show fX9_begins_42 (n + 1) (nI 8) (bgT t nr 8) = _
    rw [fX9_begins_42, if_pos (by decide)]
    exact ho
def st0 (t : St) : St := sS (sS (sS (sS (sS (sS (sS (sS t 0 16 0) 0 17 0) 0 18 0) 0 19 0) 0 20 0) 0 21 0) 0 29 (-1)) 0 30 (-1)
def bT (t : St) (nr : Nat) : St := tN2 (tW (bgT (st0 t) nr 8) 0) nr nr
theorem f_begins (t : St) {nr : Nat} (hr : t 0 2 = nI nr) (h8 : nr ≤ 8) : fX9_begins t = some (bT t nr) := by
  unfold fX9_begins
  rw [stp_n, stp_n, stp_n, stp_n, stp_n, stp_n, stp_n, stp_n]
  refine f_begins_42 (st0 t) _ (nr := nr) hr h8 ?_
  have h2 : bgT (st0 t) nr 8 0 2 = nI nr := hr
  have h16 : bgT (st0 t) nr 8 0 16 = nI 0 := rfl
  rw [f_notes (bgT (st0 t) nr 8) (nr := nr) (w := 0) h2 h8 h16 (by decide) (fun k hk hb => by
    have hb2 : bt (0 : Int32) k = true := hb
    rw [bt_zero] at hb2; cases hb2), bd1_s]
  rfl
/-! ===== the start of a ride: the class ===== -/
theorem f_leavesAs (h r : St) {l w nr : Nat} (hl : l < 8) (hw : w < 8) (hr : h 0 2 = nI nr) (h8 : nr ≤ 8) : fX4_leavesAs h r (nI l) (nI w) = some (if w < nr then sS (sS r 0 10 ((r 0 10 &&& (((1 : Int32) <<< (nI l &&& 31)) ^^^ (-1))) ||| ((1 : Int32) <<< (nI l &&& 31)))) 12 l (h 7 w / 2) else sS r 0 10 (r 0 10 &&& (((1 : Int32) <<< (nI l &&& 31)) ^^^ (-1)))) := by
  unfold fX4_leavesAs
  have c2 : nI l < (8 : Int32) := nI_lt (b := 8) hl (by decide)
  rw [if_neg (nI_pos (by omega)), if_pos c2, stp_n, if_neg (nI_pos (by omega)), hr]
  by_cases c : w < nr
  · rw [if_neg (nI_ge c (by omega)), if_pos c, stp_n, rd_nI rfl hw (by decide), wr_nI rfl hl (by decide)]
    have e : sS r 0 10 (r 0 10 &&& (((1 : Int32) <<< (nI l &&& 31)) ^^^ (-1))) 0 10 = r 0 10 &&& (((1 : Int32) <<< (nI l &&& 31)) ^^^ (-1)) := rfl
    rw [e, sS_sS]
  · rw [if_pos (nI_le (by omega) (by omega)), if_neg c]
/-- whose absences come, and how heavy each is -/
def lvB (h : St) (S : Int32) (nr k : Nat) : Bool := bt S k && decide (h 11 k < nI nr)
theorem f_begin (h r : St) (S : Int32) {nl nr : Nat} (hl : h 0 3 = nI nl) (hl8 : nl ≤ 8) (hr : h 0 2 = nI nr) (h8 : nr ≤ 8) (hw : ∀ l, l < nl → ∃ w, w < 8 ∧ h 11 l = nI w) : ∃ r', fX4_begin h r S = some r' ∧ r' 0 9 = nI 1 ∧ r' 8 = upd (r 8) 0 (h 0 5) ∧ (∀ c, c ≠ 0 → c ≠ 8 → c ≠ 12 → r' c = r c) ∧ (∀ k, k < 32 → bt (r' 0 10) k = (decide (k < nl) && lvB h S nr k)) ∧ ∀ l, l < nl → bt (r' 0 10) l = true → r' 12 l = h 7 (ix (h 11 l)) / 2 := by
  unfold fX4_begin
  rw [stp_n]
  have e0 : chk 0 45 (stp (sS (sS r 0 9 1) 8 (ix 0) (h 0 5)) (fun r3 => stp (sS r3 0 10 0) (fun r4 => fX4_begin_25 h 300 S 0 r4))) = fX4_begin_25 h 300 S 0 (sS (sS (sS r 0 9 1) 8 0 (h 0 5)) 0 10 0) := rfl
  rw [e0]
  have loop : ∀ d i n u, i + d = nl → d < n → u 0 9 = nI 1 → u 8 = upd (r 8) 0 (h 0 5) → (∀ c, c ≠ 0 → c ≠ 8 → c ≠ 12 → u c = r c) → (∀ k, k < 32 → bt (u 0 10) k = (decide (k < i) && lvB h S nr k)) → (∀ l, l < i → bt (u 0 10) l = true → u 12 l = h 7 (ix (h 11 l)) / 2) → ∃ r', fX4_begin_25 h n S (nI i) u = some r' ∧ r' 0 9 = nI 1 ∧ r' 8 = upd (r 8) 0 (h 0 5) ∧ (∀ c, c ≠ 0 → c ≠ 8 → c ≠ 12 → r' c = r c) ∧ (∀ k, k < 32 → bt (r' 0 10) k = (decide (k < nl) && lvB h S nr k)) ∧ ∀ l, l < nl → bt (r' 0 10) l = true → r' 12 l = h 7 (ix (h 11 l)) / 2 := by
    intro d
    induction d with
    | zero =>
      intro i n u hi hn a1 a2 a3 a4 a5
      obtain ⟨n, rfl⟩ : ∃ q, n = q + 1 := ⟨n - 1, by omega⟩
      have : i = nl := by omega
      subst this
      refine ⟨u, ?_, a1, a2, a3, a4, a5⟩
      rw [fX4_begin_25, if_pos (by rw [hl]; exact nI_le (Nat.le_refl _) (by omega))]
    | succ d ih =>
      intro i n u hi hn a1 a2 a3 a4 a5
      obtain ⟨n, rfl⟩ : ∃ q, n = q + 1 := ⟨n - 1, by omega⟩
      have e1 : nI i + 1 = nI (i + 1) := nI_1 i
      have ui : bt (u 0 10) i = false := by rw [a4 i (by omega)]; simp
      rw [fX4_begin_25, if_neg (by rw [hl]; exact nI_ge (by omega) (by omega)), f_has _ (show i < 32 by omega), bd1_s]
      simp only [b01]
      cases hb : bt S i
      · simp only [if_true, stp_n, e1]
        refine ih (i + 1) n u (by omega) (by omega) a1 a2 a3 (fun k hk => ?_) (fun l hl2 hb2 => ?_)
        · rw [a4 k hk]
          by_cases c : k = i
          · subst c; simp [lvB, hb]
          · simp [show (k < i + 1) = (k < i) by apply propext; omega]
        · by_cases c : l = i
          · subst c; rw [ui] at hb2; cases hb2
          · exact a5 l (by omega) hb2
      · simp only [Bool.true_eq_false, if_false]
        obtain ⟨w, hw8, ew⟩ := hw i (by omega)
        rw [rd_nI rfl (show i < 8 by omega) (by decide), ew, f_leavesAs h u (show i < 8 by omega) hw8 hr h8, bd1_s, stp_n, e1]
        by_cases c : w < nr
        · rw [if_pos c]
          refine ih (i + 1) n _ (by omega) (by omega) a1 a2 (fun c' h0 h8' h12 => by rw [sS_o h12, sS_o h0]; exact a3 c' h0 h8' h12) (fun k hk => ?_) (fun l hl2 hb2 => ?_)
          · show bt ((u 0 10 &&& (((1 : Int32) <<< (nI i &&& 31)) ^^^ (-1))) ||| ((1 : Int32) <<< (nI i &&& 31))) k = _
            rw [bt_or, bt_and, bt_not _ hk, bt_one (show i < 32 by omega), a4 k hk]
            by_cases c2 : k = i
            · subst c2
              simp [lvB, hb, ew, nI_lt c (by omega)]
            · simp [c2, show (k < i + 1) = (k < i) by apply propext; omega]
          · by_cases c2 : l = i
            · subst c2
              show upd (u 12) l (h 7 w / 2) l = _
              rw [upd_s, ew, ix_nI (by omega)]
            · show upd (u 12) i (h 7 w / 2) l = _
              rw [upd_o c2]
              have hb3 : bt ((u 0 10 &&& (((1 : Int32) <<< (nI i &&& 31)) ^^^ (-1))) ||| ((1 : Int32) <<< (nI i &&& 31))) l = true := hb2
              rw [bt_or, bt_and, bt_not _ (by omega), bt_one (show i < 32 by omega)] at hb3
              exact a5 l (by omega) (by simpa [c2] using hb3)
        · rw [if_neg c]
          refine ih (i + 1) n _ (by omega) (by omega) a1 a2 (fun c' h0 h8' h12 => by rw [sS_o h0]; exact a3 c' h0 h8' h12) (fun k hk => ?_) (fun l hl2 hb2 => ?_)
          · show bt (u 0 10 &&& (((1 : Int32) <<< (nI i &&& 31)) ^^^ (-1))) k = _
            rw [bt_and, bt_not _ hk, bt_one (show i < 32 by omega), a4 k hk]
            by_cases c2 : k = i
            · subst c2
              have : ¬ nI w < nI nr := nI_nlt (by omega) (by omega)
              simp [lvB, ew, this]
            · simp [c2, show (k < i + 1) = (k < i) by apply propext; omega]
          · have hb3 : bt (u 0 10 &&& (((1 : Int32) <<< (nI i &&& 31)) ^^^ (-1))) l = true := hb2
            rw [bt_and, bt_not _ (by omega), bt_one (show i < 32 by omega)] at hb3
            by_cases c2 : l = i
            · subst c2; simp at hb3
            · show u 12 l = _
              exact a5 l (by omega) (by simpa [c2] using hb3)
  refine loop nl 0 300 _ (by omega) (by omega) rfl rfl (fun c h0 h8' _ => by rw [sS_o h0, sS_o h8', sS_o h0]) (fun k hk => ?_) (fun l hl2 => absurd hl2 (by omega))
  show bt (0 : Int32) k = _
  rw [bt_zero]; simp
