/-! ===== the reference: who waits ===== -/
theorem b01 {c : Bool} : ((if c then (1 : Int32) else 0) = 0) = (c = false) := by cases c <;> simp
def wtM (t : St) (nl k : Nat) : Bool := decide (k < nl) && (bt (t 0 15) k && decide (t 9 k < t 0 2) && !decide (t 0 16 < t 8 k) && !bt (t 0 21) k)
theorem f_isWaiting (t : St) {k nl : Nat} (hk : k < nl) (h8 : nl ≤ 8) : fX9_isWaiting t (nI k) = some (if wtM t nl k then 1 else 0) := by
  unfold fX9_isWaiting
  rw [f_isIn _ (show k < 32 by omega), bd1_s]
  simp only [b01]
  cases c1 : bt (t 0 15) k
  · simp [wtM, c1]
  · simp only [Bool.true_eq_false, if_false]
    rw [rd_nI rfl (show k < 9 by omega) (by decide)]
    by_cases c2 : t 0 2 ≤ t 9 k
    · rw [if_pos c2]
      have c3 : ¬ t 9 k < t 0 2 := Int32.not_lt.mpr c2
      simp [wtM, c3]
    · rw [if_neg c2, rd_nI rfl (show k < 9 by omega) (by decide)]
      have c3 : t 9 k < t 0 2 := Int32.not_le.mp c2
      by_cases c4 : t 0 16 < t 8 k
      · rw [if_pos c4]
        simp [wtM, c4]
      · rw [if_neg c4, f_isIn _ (show k < 32 by omega), bd1_s]
        simp only [b01]
        cases c5 : bt (t 0 21) k <;> simp [wtM, c1, c3, c4, c5, hk]
theorem f_waiting (t : St) {nl : Nat} (hl : t 0 6 = nI nl) (h8 : nl ≤ 8) : ∃ w, fX9_waiting t = some w ∧ ∀ k, k < 32 → bt w k = wtM t nl k := by
  have loop : ∀ d i n x, i + d = nl → d < n → (∀ k, k < 32 → bt x k = (decide (k < i) && wtM t nl k)) → ∃ w, fX9_waiting_4 t n x (nI i) = some w ∧ ∀ k, k < 32 → bt w k = wtM t nl k := by
    intro d
    induction d with
    | zero =>
      intro i n x hi hn hx
      obtain ⟨n, rfl⟩ : ∃ q, n = q + 1 := ⟨n - 1, by omega⟩
      have : i = nl := by omega
      subst this
      refine ⟨x, ?_, fun k hk => ?_⟩
      · rw [fX9_waiting_4, if_pos (by rw [hl]; exact nI_le (Nat.le_refl _) (by omega))]
      · rw [hx k hk]
        by_cases c : k < i
        · simp [c]
        · simp [c, wtM]
    | succ d ih =>
      intro i n x hi hn hx
      obtain ⟨n, rfl⟩ : ∃ q, n = q + 1 := ⟨n - 1, by omega⟩
      rw [fX9_waiting_4, if_neg (by rw [hl]; exact nI_ge (by omega) (by omega)), f_isWaiting t (show i < nl by omega) h8, bd1_s]
      have e1 : nI i + 1 = nI (i + 1) := nI_1 i
      simp only [b01, stp_n, e1]
      cases c : wtM t nl i
      · simp only [if_true]
        refine ih (i + 1) n _ (by omega) (by omega) (fun k hk => ?_)
        rw [or_z, hx k hk]
        by_cases c1 : k = i
        · subst c1; simp [c]
        · simp [show (k < i + 1) = (k < i) by apply propext; omega]
      · simp only [Bool.true_eq_false, if_false]
        refine ih (i + 1) n _ (by omega) (by omega) (fun k hk => ?_)
        rw [bt_or, bt_one (show i < 32 by omega), hx k hk]
        by_cases c1 : k = i
        · subst c1; simp [c]
        · simp [c1, show (k < i + 1) = (k < i) by apply propext; omega]
  unfold fX9_waiting
  exact loop nl 0 300 0 (by omega) (by omega) (fun k _ => by simp [bt_zero])
/-! ===== the weight of all that ride ===== -/
theorem ldS_e {rid rid' abs abs' : Int32} {hv hv' ah ah' : Nat → Int32} : ∀ {n : Nat}, (∀ k, k < n → bt rid k = bt rid' k) → (∀ k, k < n → bt abs k = bt abs' k) → (∀ k, k < n → bt rid k = true → hv k = hv' k) → (∀ k, k < n → bt abs k = true → ah k = ah' k) → ldS rid abs hv ah n = ldS rid' abs' hv' ah' n
  | 0, _, _, _, _ => rfl
  | n + 1, h1, h2, h3, h4 => by
    rw [ldS, ldS, ldS_e (n := n) (fun k hk => h1 k (by omega)) (fun k hk => h2 k (by omega)) (fun k hk => h3 k (by omega)) (fun k hk => h4 k (by omega)), ← h1 n (by omega), ← h2 n (by omega)]
    cases c1 : bt rid n <;> cases c2 : bt abs n
    · rfl
    · simp [h4 n (by omega) c2]
    · simp [h3 n (by omega) c1]
    · simp [h3 n (by omega) c1, h4 n (by omega) c2]
theorem add_sw (a b c : Int32) : a + b + c = a + c + b := by rw [Int32.add_assoc, Int32.add_comm b c, ← Int32.add_assoc]
theorem ldS_abs (rid abs : Int32) (hv ah : Nat → Int32) {l : Nat} (hl : l < 32) (h : bt abs l = false) : ∀ {n : Nat}, l < n → ldS rid (abs ||| ((1 : Int32) <<< (nI l &&& 31))) hv ah n = ldS rid abs hv ah n + ah l
  | 0, hn => absurd hn (by omega)
  | n + 1, hn => by
    rw [ldS, ldS, bt_or, bt_one hl]
    by_cases c : n = l
    · subst c
      have e : ldS rid (abs ||| ((1 : Int32) <<< (nI n &&& 31))) hv ah n = ldS rid abs hv ah n := ldS_e (fun _ _ => rfl) (fun k hk => by rw [bt_or, bt_one hl]; simp [show ¬ k = n by omega]) (fun _ _ _ => rfl) (fun _ _ _ => rfl)
      rw [e, h]
      simp
    · rw [ldS_abs rid abs hv ah hl h (n := n) (by omega)]
      have e : (bt abs n || decide (n = l)) = bt abs n := by simp [c]
      rw [e, add_sw (ldS rid abs hv ah n) (ah l), add_sw _ (ah l)]
theorem ldS_rid (rid abs : Int32) (hv ah : Nat → Int32) {l : Nat} (hl : l < 32) (h : bt rid l = false) : ∀ {n : Nat}, l < n → ldS (rid ||| ((1 : Int32) <<< (nI l &&& 31))) abs hv ah n = ldS rid abs hv ah n + hv l
  | 0, hn => absurd hn (by omega)
  | n + 1, hn => by
    rw [ldS, ldS, bt_or, bt_one hl]
    by_cases c : n = l
    · subst c
      have e : ldS (rid ||| ((1 : Int32) <<< (nI n &&& 31))) abs hv ah n = ldS rid abs hv ah n := ldS_e (fun k hk => by rw [bt_or, bt_one hl]; simp [show ¬ k = n by omega]) (fun _ _ => rfl) (fun _ _ _ => rfl) (fun _ _ _ => rfl)
      rw [e, h]
      simp [add_sw]
    · rw [ldS_rid rid abs hv ah hl h (n := n) (by omega)]
      have e : (bt rid n || decide (n = l)) = bt rid n := by simp [c]
      rw [e, add_sw (ldS rid abs hv ah n) (hv l), add_sw _ (hv l)]
theorem laS_hi (wt lim : Int32) (ah : Nat → Int32) (a v : Int32) {k : Nat} (hk : k < 32) : ∀ {l : Nat}, l ≤ k → bt (laS wt lim ah a v l).1 k = bt a k
  | 0, _ => rfl
  | l + 1, h => by
    rw [laS]
    have ih := laS_hi wt lim ah a v hk (l := l) (by omega)
    cases c : bt wt l
    · simpa using ih
    · simp only [if_true]
      by_cases c2 : lim < (laS wt lim ah a v l).2 + ah l
      · rw [if_pos c2]; exact ih
      · rw [if_neg c2]
        show bt (_ ||| _) k = _
        rw [bt_or, bt_one (show l < 32 by omega), ih]
        simp [show ¬ k = l by omega]
theorem laS_in (wt lim : Int32) (ah : Nat → Int32) (a v : Int32) {k : Nat} (hk : k < 32) : ∀ {l : Nat}, l ≤ 32 → bt (laS wt lim ah a v l).1 k = true → bt a k = true ∨ (k < l ∧ bt wt k = true)
  | 0, _, h => Or.inl h
  | l + 1, hl, h => by
    rw [laS] at h
    have up : bt (laS wt lim ah a v l).1 k = true → bt a k = true ∨ (k < l + 1 ∧ bt wt k = true) := fun q => (laS_in wt lim ah a v hk (l := l) (by omega) q).imp id (fun z => ⟨by omega, z.2⟩)
    cases c : bt wt l
    · rw [c] at h; exact up (by simpa using h)
    · rw [c] at h
      simp only [if_true] at h
      by_cases c2 : lim < (laS wt lim ah a v l).2 + ah l
      · rw [if_pos c2] at h; exact up h
      · rw [if_neg c2] at h
        have h2 : bt ((laS wt lim ah a v l).1 ||| ((1 : Int32) <<< (nI l &&& 31))) k = true := h
        rw [bt_or, bt_one (show l < 32 by omega)] at h2
        by_cases c3 : k = l
        · subst c3; exact Or.inr ⟨by omega, c⟩
        · exact up (by simpa [c3] using h2)
theorem laS_ld (wt lim rid : Int32) (hv ah : Nat → Int32) (a v : Int32) {nl : Nat} (h8 : nl ≤ 8) (hw : ∀ k, k < nl → bt wt k = true → bt a k = false) (hv0 : ldS rid a hv ah 8 = v) : ∀ {l : Nat}, l ≤ nl → ldS rid (laS wt lim ah a v l).1 hv ah 8 = (laS wt lim ah a v l).2
  | 0, _ => hv0
  | l + 1, hl => by
    have ih := laS_ld wt lim rid hv ah a v h8 hw hv0 (l := l) (by omega)
    rw [laS]
    cases c : bt wt l
    · simpa using ih
    · simp only [if_true]
      by_cases c2 : lim < (laS wt lim ah a v l).2 + ah l
      · rw [if_pos c2]; exact ih
      · rw [if_neg c2]
        show ldS rid ((laS wt lim ah a v l).1 ||| _) hv ah 8 = _ + _
        rw [ldS_abs rid _ hv ah (show l < 32 by omega) (by rw [laS_hi wt lim ah a v (show l < 32 by omega) (Nat.le_refl _)]; exact hw l (by omega) c) (show l < 8 by omega), ih]
/-- the reference's store as it halts at HALF, ahead of its notes -/
def hhT (t : St) (w : Nat) (a : Int32) : St := sS (sS (sS (sS t 0 16 (nI (w + 1))) 0 17 ((2 * t 0 11) + 1)) 0 19 a) 0 21 (t 0 21 ||| a)
theorem hhT_c (t : St) (w : Nat) (a : Int32) {c : Nat} (h : c ≠ 0) : hhT t w a c = t c := by
  unfold hhT
  rw [sS_o h, sS_o h, sS_o h, sS_o h]
theorem f_haltsHalf (t : St) (wt : Int32) {nl nr w : Nat} (hl : t 0 6 = nI nl) (h8 : nl ≤ 8) (hr : t 0 2 = nI nr) (h9 : nr ≤ 8) (hn : t 0 16 = nI w) (hw2 : w + 1 < 256) (hwt : ∀ k, k < nl → bt wt k = true → bt (t 0 21) k = false ∧ ∃ q, q < 9 ∧ t 9 k = nI q) (hsub : t 0 21 ||| t 0 19 = t 0 21) (hab : ∀ k, k < 8 → bt (t 0 19) k = true → ∃ q, q < 9 ∧ t 9 k = nI q) :
    fX9_haltsHalf t wt = some (tN2 (tW (hhT t w (laS wt (t 0 12) (ahM t) (t 0 19) (ldM t) nl).1) (w + 1)) nr nr) := by
  unfold fX9_haltsHalf
  have e0 : t 0 16 + 1 = nI (w + 1) := by rw [hn]; exact nI_1 w
  rw [stp_n, stp_n, e0]
  have hnot : ∀ k, k < nl → bt wt k = true → bt (t 0 19) k = false := by
    intro k hk hb
    have h1 := (hwt k hk hb).1
    rw [← hsub, bt_or] at h1
    simp at h1
    exact h1.2
  have est : sS (sS t 0 16 (nI (w + 1))) 0 17 (2 * (sS t 0 16 (nI (w + 1))) 0 11 + 1) = hhT t w (t 0 19) := by
    unfold hhT
    rw [hsub]
    have g1 : sS (sS (sS t 0 16 (nI (w + 1))) 0 17 ((2 * t 0 11) + 1)) 0 19 (t 0 19) = sS (sS t 0 16 (nI (w + 1))) 0 17 ((2 * t 0 11) + 1) := sS_self' rfl
    have g2 : sS (sS (sS t 0 16 (nI (w + 1))) 0 17 ((2 * t 0 11) + 1)) 0 21 (t 0 21) = sS (sS t 0 16 (nI (w + 1))) 0 17 ((2 * t 0 11) + 1) := sS_self' rfl
    rw [g1, g2]
    rfl
  have key := forP (fun n k s => fX9_haltsHalf_24 n wt (nI k) s) nl (fun k => hhT t w (laS wt (t 0 12) (ahM t) (t 0 19) (ldM t) k).1) (some (tN2 (tW (hhT t w (laS wt (t 0 12) (ahM t) (t 0 19) (ldM t) nl).1) (w + 1)) nr nr)) ?_ ?_ 300 (by omega)
  · rw [est]
    exact key
  · intro n k hk
    show fX9_haltsHalf_24 (n + 1) wt (nI k) (hhT t w (laS wt (t 0 12) (ahM t) (t 0 19) (ldM t) k).1) = fX9_haltsHalf_24 n wt (nI (k + 1)) (hhT t w (laS wt (t 0 12) (ahM t) (t 0 19) (ldM t) (k + 1)).1)
    have hld := laS_ld wt (t 0 12) (t 0 18) (t 4) (ahM t) (t 0 19) (ldM t) h8 hnot rfl (l := k) (by omega)
    have hin := fun q (hq : q < 8) => laS_in wt (t 0 12) (ahM t) (t 0 19) (ldM t) (k := q) (show q < 32 by omega) (l := k) (by omega)
    have hq1 : (laS wt (t 0 12) (ahM t) (t 0 19) (ldM t) (k + 1)) = if bt wt k then (if t 0 12 < (laS wt (t 0 12) (ahM t) (t 0 19) (ldM t) k).2 + ahM t k then (laS wt (t 0 12) (ahM t) (t 0 19) (ldM t) k) else ((laS wt (t 0 12) (ahM t) (t 0 19) (ldM t) k).1 ||| ((1 : Int32) <<< (nI k &&& 31)), (laS wt (t 0 12) (ahM t) (t 0 19) (ldM t) k).2 + ahM t k)) else (laS wt (t 0 12) (ahM t) (t 0 19) (ldM t) k) := by rw [laS]
    rw [hq1]
    revert hld hin
    generalize laS wt (t 0 12) (ahM t) (t 0 19) (ldM t) k = q
    intro hld hin
    have a6 : hhT t w q.1 0 6 = t 0 6 := rfl
    have e1 : nI k + 1 = nI (k + 1) := nI_1 k
    rw [fX9_haltsHalf_24, if_neg (by rw [a6, hl]; exact nI_ge hk (by omega)), f_isIn _ (show k < 32 by omega), bd1_s]
    simp only [b01]
    cases hb : bt wt k
    · simp only [if_true, stp_n, e1, Bool.false_eq_true, if_false]
    · simp only [Bool.true_eq_false, if_false, if_true]
      obtain ⟨-, u, hu, eu⟩ := hwt k hk hb
      have hload : fX9_load (hhT t w q.1) = some q.2 := by
        rw [f_load (hhT t w q.1) (fun k2 hk2 hb2 => ?_)]
        · exact congrArg some hld
        · rcases hin k2 hk2 hb2 with z | z
          · exact hab k2 hk2 z
          · exact (hwt k2 (by omega) z.2).2
      rw [hload, bd1_s, rd_nI rfl (show k < 9 by omega) (by decide)]
      have a9 : hhT t w q.1 9 k = nI u := by rw [hhT_c _ _ _ (by decide)]; exact eu
      rw [rd_nI a9 hu (by decide)]
      have a4 : hhT t w q.1 4 u / 2 = ahM t k := by
        rw [hhT_c _ _ _ (by decide)]
        unfold ahM
        rw [eu, ix_nI (by omega)]
      rw [a4]
      have a12 : hhT t w q.1 0 12 = t 0 12 := rfl
      rw [a12]
      by_cases c : t 0 12 < q.2 + ahM t k
      · rw [if_pos c, if_pos c, stp_n, e1]
      · rw [if_neg c, if_neg c, stp_n, stp_n, stp_n, e1]
        have b1 : sS (sS (hhT t w q.1) 0 19 (hhT t w q.1 0 19 ||| ((1 : Int32) <<< (nI k &&& 31)))) 0 21 (sS (hhT t w q.1) 0 19 (hhT t w q.1 0 19 ||| ((1 : Int32) <<< (nI k &&& 31))) 0 21 ||| ((1 : Int32) <<< (nI k &&& 31))) = hhT t w (q.1 ||| ((1 : Int32) <<< (nI k &&& 31))) := by
          generalize ((1 : Int32) <<< (nI k &&& 31)) = z
          have g1 : hhT t w q.1 0 19 = q.1 := rfl
          have g2 : sS (hhT t w q.1) 0 19 (q.1 ||| z) 0 21 = (t 0 21 ||| q.1) := rfl
          rw [g1, g2]
          funext c'
          by_cases cc : c' = 0
          · subst cc
            funext i
            show upd (upd (upd (upd (upd (upd (t 0) 16 _) 17 _) 19 q.1) 21 (t 0 21 ||| q.1)) 19 (q.1 ||| z)) 21 ((t 0 21 ||| q.1) ||| z) i = upd (upd (upd (upd (t 0) 16 _) 17 _) 19 (q.1 ||| z)) 21 (t 0 21 ||| (q.1 ||| z)) i
            rw [Int32.or_assoc]
            unfold upd
            by_cases i1 : i = 21
            · simp [i1]
            · by_cases i2 : i = 19
              · simp [i2]
              · simp [i1, i2]
          · rw [hhT_c _ _ _ cc, sS_o cc, sS_o cc, hhT_c _ _ _ cc]
        rw [b1]
  · intro n
    show fX9_haltsHalf_24 (n + 1) wt (nI nl) (hhT t w (laS wt (t 0 12) (ahM t) (t 0 19) (ldM t) nl).1) = _
    have hin := fun q (hq : q < 8) => laS_in wt (t 0 12) (ahM t) (t 0 19) (ldM t) (k := q) (show q < 32 by omega) (l := nl) (by omega)
    revert hin
    generalize (laS wt (t 0 12) (ahM t) (t 0 19) (ldM t) nl).1 = a
    intro hin
    have a6 : hhT t w a 0 6 = t 0 6 := rfl
    rw [fX9_haltsHalf_24, if_pos (by rw [a6, hl]; exact nI_le (Nat.le_refl _) (by omega))]
    rw [f_notes (hhT t w a) (nr := nr) (w := w + 1) hr h9 rfl hw2 (fun k2 hk2 hb2 => ?_), bd1_s]
    rcases hin k2 hk2 hb2 with z | z
    · exact hab k2 hk2 z
    · exact (hwt k2 (by omega) z.2).2
