/-! ===== the reference halts at a floor ===== -/
def hfT (t : St) (w f : Nat) : St := sS (sS (sS t 0 16 (nI (w + 1))) 0 17 (nI (2 * f))) 0 19 (if f = 0 then 0 else t 0 19)
def haT (t : St) (w f : Nat) (wt : Int32) (nr : Nat) : St := gtT (goT (hfT t w f) (nI f) (w + 1) nr) wt nr
theorem hfT_c (t : St) (w f : Nat) {c : Nat} (h : c ≠ 0) : hfT t w f c = t c := by
  unfold hfT
  rw [sS_o h, sS_o h, sS_o h]
theorem sub_b {x y : Int32} (h : x ||| y = x) (k : Nat) (hb : bt y k = true) : bt x k = true := by
  rw [← h, bt_or, hb]; simp
theorem sub_of {x y : Int32} (h : ∀ k, k < 32 → bt y k = true → bt x k = true) : x ||| y = x := by
  apply bt_ext
  intro k hk
  rw [bt_or]
  cases c : bt y k
  · simp
  · simp [h k hk c]
theorem f_haltsAt (t : St) (wt : Int32) {nr w f : Nat} (hr : t 0 2 = nI nr) (h8 : nr ≤ 8) (hn : t 0 16 = nI w) (hw2 : w + 1 < 256) (hf : f < 10) (hwt : ∀ k, k < nr → bt wt k = (decide (t 5 k = nI f) && !decide (t 6 k = nI f) && !bt (t 0 20) k)) (hsub : t 0 20 ||| t 0 18 = t 0 20) (hab : ∀ k, k < 8 → bt (t 0 19) k = true → ∃ q, q < 9 ∧ t 9 k = nI q) :
    fX9_haltsAt t (nI f) = some (tN2 (tW (haT t w f wt nr) (w + 1)) nr nr) := by
  unfold fX9_haltsAt
  have e0 : t 0 16 + 1 = nI (w + 1) := by rw [hn]; exact nI_1 w
  have e1 : (2 : Int32) * nI f = nI (2 * f) := by rw [show (2 : Int32) = nI 2 from rfl, pk_mul]
  rw [stp_n, stp_n, e0, e1]
  have main : fX9_haltsAt_35 300 (nI f) 0 (hfT t w f) = some (tN2 (tW (haT t w f wt nr) (w + 1)) nr nr) := by
    have h16 : hfT t w f 0 16 = nI (w + 1) := rfl
    refine f_haltsAt_35 (hfT t w f) (nI f) _ (nr := nr) (w := w + 1) hr h8 h16 ?_
    have g20 : goT (hfT t w f) (nI f) (w + 1) nr 0 20 = t 0 20 := rfl
    have g18 : goT (hfT t w f) (nI f) (w + 1) nr 0 18 = rdS (t 0 18) (nI f) (t 6) nr := rfl
    have g19 : goT (hfT t w f) (nI f) (w + 1) nr 0 19 = if f = 0 then 0 else t 0 19 := rfl
    refine f_haltsAt_96 (goT (hfT t w f) (nI f) (w + 1) nr) (nI f) wt (w := w + 1) hr h8 rfl hw2 hwt ?_ ?_
    · rw [g20, g18]
      refine sub_of (fun k hk hb => ?_)
      rw [rdS_b _ _ _ hk (by omega)] at hb
      simp at hb
      exact sub_b hsub k hb.1
    · intro k hk hb
      rw [g19] at hb
      by_cases c : f = 0
      · rw [if_pos c, bt_zero] at hb; cases hb
      · rw [if_neg c] at hb; exact hab k hk hb
  by_cases c : f = 0
  · rw [if_pos (by rw [c]; rfl), stp_n]
    have : sS (sS (sS t 0 16 (nI (w + 1))) 0 17 (nI (2 * f))) 0 19 0 = hfT t w f := by unfold hfT; rw [if_pos c]
    rw [this]
    exact main
  · rw [if_neg (nI_ne0 (by omega) (by omega)), stp_n]
    have : sS (sS (sS t 0 16 (nI (w + 1))) 0 17 (nI (2 * f))) 0 19 ((sS (sS t 0 16 (nI (w + 1))) 0 17 (nI (2 * f))) 0 19) = hfT t w f := by unfold hfT; rw [if_neg c]; rfl
    rw [this]
    exact main
/-! ===== notes that tell nothing new ===== -/
/-- who rides knows and has heard all that those who ride know -/
def stab (t : St) (nr : Nat) : Prop := (∀ q, q < nr → bt (t 0 18) q = true → t 32 q ||| t 0 19 = t 32 q) ∧ (∀ q, q < nr → t 33 q ||| t 32 q = t 33 q) ∧ ∀ q p, q < nr → p < nr → bt (t 0 18) q = true → bt (t 0 18) p = true → t 33 q ||| t 33 p = t 33 q
theorem or_sub {x y z : Int32} (h1 : x ||| y = x) (h2 : x ||| z = x) : x ||| (y ||| z) = x := by rw [← Int32.or_assoc, h1, h2]
theorem alN_sub (t : St) {nr : Nat} (h : stab t nr) {q : Nat} (hq : q < nr) (hb : bt (t 0 18) q = true) : ∀ {k : Nat}, k ≤ nr → t 33 q ||| alN t k = t 33 q
  | 0, _ => by rw [alN]; simp
  | k + 1, hk => by
    rw [alN]
    have ih := alN_sub t h hq hb (k := k) (by omega)
    cases c : bt (t 0 18) k
    · simpa using ih
    · simp only [if_true]
      refine or_sub ih ?_
      have e : hdN t k = t 33 k := by
        unfold hdN knN
        rw [c, if_pos rfl, h.1 k (by omega) c, h.2.1 k (by omega)]
      rw [e]
      exact h.2.2 q k hq (by omega) hb c
theorem knN_st {t : St} {nr : Nat} (h : stab t nr) {q : Nat} (hq : q < nr) : knN t q = t 32 q := by
  unfold knN
  cases c : bt (t 0 18) q
  · rfl
  · rw [if_pos rfl, h.1 q hq c]
theorem tN2_st (t : St) {nr : Nat} (h : stab t nr) : tN2 t nr nr = t := by
  unfold tN2
  have e1 : fil (knN t) (t 32) nr = t 32 := by
    funext q
    by_cases c : q < nr
    · rw [fil_in c, knN_st h c]
    · rw [fil_out (by omega)]
  have e2 : fil (hdN2 t nr) (fil (hdN t) (t 33) nr) nr = t 33 := by
    funext q
    by_cases c : q < nr
    · rw [fil_in c]
      unfold hdN2
      have e3 : hdN t q = t 33 q := by unfold hdN; rw [knN_st h c, h.2.1 q c]
      rw [e3]
      cases c2 : bt (t 0 18) q
      · rfl
      · rw [if_pos rfl, alN_sub t h c c2 (Nat.le_refl _)]
    · rw [fil_out (by omega), fil_out (by omega)]
  rw [e1, e2, up_self]
  exact up_self
/-- notes make it so -/
theorem bt_alN (t : St) {k : Nat} (hk : k < 32) : ∀ n, bt (alN t n) k = true ↔ ∃ q, q < n ∧ bt (t 0 18) q = true ∧ bt (hdN t q) k = true
  | 0 => by simp [alN, bt_zero]
  | n + 1 => by
    rw [alN]
    have ih := bt_alN t hk n
    cases c : bt (t 0 18) n
    · simp only [Bool.false_eq_true, if_false]
      rw [ih]
      constructor
      · rintro ⟨q, h1, h2⟩; exact ⟨q, by omega, h2⟩
      · rintro ⟨q, h1, h2, h3⟩
        by_cases e : q = n
        · subst e; rw [c] at h2; cases h2
        · exact ⟨q, by omega, h2, h3⟩
    · simp only [if_true]
      rw [bt_or, Bool.or_eq_true, ih]
      constructor
      · rintro (⟨q, h1, h2⟩ | h)
        · exact ⟨q, by omega, h2⟩
        · exact ⟨n, by omega, c, h⟩
      · rintro ⟨q, h1, h2, h3⟩
        by_cases e : q = n
        · subst e; exact Or.inr h3
        · exact Or.inl ⟨q, by omega, h2, h3⟩
theorem tN2_32 (t : St) {nr q : Nat} (hq : q < nr) : tN2 t nr nr 32 q = knN t q := by
  unfold tN2
  rw [up_o (by decide), up_s, fil_in hq]
theorem tN2_33 (t : St) {nr q : Nat} (hq : q < nr) : tN2 t nr nr 33 q = hdN2 t nr q := by
  unfold tN2
  rw [up_s, fil_in hq]
theorem tN2_c (t : St) (nr : Nat) {c : Nat} (h : c ≠ 32) (h2 : c ≠ 33) : tN2 t nr nr c = t c := by
  unfold tN2
  rw [up_o h2, up_o h]
theorem stab_tN2 (t : St) (nr : Nat) : stab (tN2 t nr nr) nr := by
  have e0 : tN2 t nr nr 0 = t 0 := tN2_c t nr (by decide) (by decide)
  refine ⟨fun q hq hb => ?_, fun q hq => ?_, fun q p hq hp hb hc => ?_⟩
  · rw [e0] at hb ⊢
    rw [tN2_32 t hq]
    unfold knN
    rw [hb, if_pos rfl, Int32.or_assoc, Int32.or_self]
  · rw [tN2_32 t hq, tN2_33 t hq]
    refine sub_of (fun k hk h => ?_)
    unfold hdN2
    have : bt (hdN t q) k = true := by unfold hdN; rw [bt_or, h]; simp
    cases c : bt (t 0 18) q
    · exact this
    · rw [if_pos rfl, bt_or, this]; simp
  · rw [e0] at hb hc
    rw [tN2_33 t hq, tN2_33 t hp]
    unfold hdN2
    rw [hb, hc, if_pos rfl, if_pos rfl]
    refine sub_of (fun k hk h => ?_)
    rw [bt_or, Bool.or_eq_true] at h ⊢
    rcases h with h | h
    · exact Or.inr ((bt_alN t hk nr).mpr ⟨p, hp, hc, h⟩)
    · exact Or.inr h
/-! ===== a step of the way ===== -/
def mvT (t : St) (w : Nat) (p : Int32) : St := tW (sS (sS t 0 16 (nI (w + 1))) 0 17 p) (w + 1)
theorem mvT_c (t : St) (w : Nat) (p : Int32) {c : Nat} (h : c ≠ 0) (h1 : c ≠ 23) (h2 : c ≠ 24) (h3 : c ≠ 25) (h4 : c ≠ 26) : mvT t w p c = t c := by
  unfold mvT tW
  rw [up_o h4, up_o h3, up_o h2, up_o h1, sS_o h, sS_o h]
theorem mvT_s (t : St) (w : Nat) (p : Int32) {i : Nat} (h : i ≠ 16) (h1 : i ≠ 17) : mvT t w p 0 i = t 0 i := by
  show upd (upd (t 0) 16 _) 17 p i = _
  rw [upd_o h1, upd_o h]
theorem stab_e {t u : St} {nr : Nat} (h : stab t nr) (e1 : u 0 18 = t 0 18) (e2 : u 0 19 = t 0 19) (e3 : u 32 = t 32) (e4 : u 33 = t 33) : stab u nr := by
  unfold stab
  rw [e1, e2, e3, e4]
  exact h
theorem f_move (t : St) (p : Int32) {nr w : Nat} (hr : t 0 2 = nI nr) (h8 : nr ≤ 8) (hn : t 0 16 = nI w) (hw2 : w + 1 < 256) (hst : stab t nr) (hab : ∀ k, k < 8 → bt (t 0 19) k = true → ∃ q, q < 9 ∧ t 9 k = nI q) : fX9_notes (sS (sS t 0 16 (t 0 16 + 1)) 0 17 p) = some (mvT t w p) := by
  have e0 : t 0 16 + 1 = nI (w + 1) := by rw [hn]; exact nI_1 w
  rw [e0, f_notes (sS (sS t 0 16 (nI (w + 1))) 0 17 p) (nr := nr) (w := w + 1) hr h8 rfl hw2 hab]
  have : stab (mvT t w p) nr := stab_e hst (mvT_s _ _ _ (by decide) (by decide)) (mvT_s _ _ _ (by decide) (by decide)) (mvT_c _ _ _ (by decide) (by decide) (by decide) (by decide) (by decide)) (mvT_c _ _ _ (by decide) (by decide) (by decide) (by decide) (by decide))
  exact congrArg some (tN2_st (mvT t w p) this)
def nxt (fl to : Nat) : Nat := if fl < to then fl + 1 else fl - 1
theorem f_run_step (rc : Int32 → Int32 → St → Option St) (t : St) (k : Int32) {fl to hf n : Nat} (h1 : fl < 10) (h2 : to < 10) (hne : fl ≠ to) (hh : t 0 11 = nI hf) (h3 : hf < 10) :
    fX9_runs_23 rc (n + 1) (nI fl) k (nI to) t = if (if fl < to then fl else fl - 1) = hf then bd1 (fX9_waiting t) (fun b => if b = 0 then bd1 (fX9_notes (sS (sS t 0 16 (t 0 16 + 1)) 0 17 (nI (2 * nxt fl to)))) (fun s => fX9_runs_23 rc n (nI (nxt fl to)) k (nI to) s) else bd1 (fX9_haltsHalf t b) (fun u => bd1 (fX9_notes (sS (sS u 0 16 (u 0 16 + 1)) 0 17 (nI (2 * nxt fl to)))) (fun s => fX9_runs_23 rc n (nI (nxt fl to)) k (nI to) s))) else bd1 (fX9_notes (sS (sS t 0 16 (t 0 16 + 1)) 0 17 (nI (2 * nxt fl to)))) (fun s => fX9_runs_23 rc n (nI (nxt fl to)) k (nI to) s) := by
  rw [fX9_runs_23]
  have c0 : ¬ nI fl = nI to := fun h => hne ((nI_eq (by omega) (by omega)).mp h)
  rw [if_neg c0, hh]
  have e2 : ∀ x : Nat, (2 : Int32) * nI x = nI (2 * x) := fun x => by rw [show (2 : Int32) = nI 2 from rfl, pk_mul]
  by_cases c : fl < to
  · have c1 : ¬ nI to ≤ nI fl := nI_ge c (by omega)
    have c2 : ¬ nI (fl + 1) ≤ nI fl := nI_ge (by omega) (by omega)
    have en : nxt fl to = fl + 1 := if_pos c
    rw [if_neg c1, stp_n, nI_1, if_neg c2, if_pos c, en]
    by_cases c3 : fl = hf
    · rw [if_pos (by rw [c3]), if_pos c3]
      simp only [stp_n, e2]
    · rw [if_neg (fun h => c3 ((nI_eq (by omega) (by omega)).mp h)), if_neg c3]
      simp only [stp_n, e2]
  · have c1 : nI to ≤ nI fl := nI_le (by omega) (by omega)
    obtain ⟨g, rfl⟩ : ∃ g, fl = g + 1 := ⟨fl - 1, by omega⟩
    have c2 : nI g ≤ nI (g + 1) := nI_le (by omega) (by omega)
    have en : nxt (g + 1) to = g := by unfold nxt; rw [if_neg c]; rfl
    rw [if_pos c1, stp_n, nI_p, if_pos c2, if_neg c, en]
    rw [show g + 1 - 1 = g from rfl]
    by_cases c3 : g = hf
    · rw [if_pos (by rw [c3]), if_pos c3]
      simp only [stp_n, e2]
    · rw [if_neg (fun h => c3 ((nI_eq (by omega) (by omega)).mp h)), if_neg c3]
      simp only [stp_n, e2]
/-! ===== steps without a halt ===== -/
def ps (fl to i : Nat) : Nat := if fl < to then fl + i else fl - i
def lo (fl to i : Nat) : Nat := if fl < to then fl + i else fl - i - 1
def trv (t : St) (w : Nat) (p : Nat → Int32) : Nat → St
  | 0 => t
  | d + 1 => mvT (trv t w p d) (w + d) (p (d + 1))
theorem trv_c (t : St) (w : Nat) (p : Nat → Int32) {c : Nat} (h : c ≠ 0) (h1 : c ≠ 23) (h2 : c ≠ 24) (h3 : c ≠ 25) (h4 : c ≠ 26) : ∀ d, trv t w p d c = t c
  | 0 => rfl
  | d + 1 => by rw [trv, mvT_c _ _ _ h h1 h2 h3 h4, trv_c t w p h h1 h2 h3 h4 d]
theorem trv_s (t : St) (w : Nat) (p : Nat → Int32) {i : Nat} (h : i ≠ 16) (h1 : i ≠ 17) : ∀ d, trv t w p d 0 i = t 0 i
  | 0 => rfl
  | d + 1 => by rw [trv, mvT_s _ _ _ h h1, trv_s t w p h h1 d]
theorem trv_n (t : St) {w : Nat} (p : Nat → Int32) (hn : t 0 16 = nI w) : ∀ d, trv t w p d 0 16 = nI (w + d)
  | 0 => hn
  | d + 1 => rfl
theorem trv_stab {t : St} {nr : Nat} (h : stab t nr) (w : Nat) (p : Nat → Int32) (d : Nat) : stab (trv t w p d) nr :=
  stab_e h (trv_s _ _ _ (by decide) (by decide) d) (trv_s _ _ _ (by decide) (by decide) d) (trv_c _ _ _ (by decide) (by decide) (by decide) (by decide) (by decide) d) (trv_c _ _ _ (by decide) (by decide) (by decide) (by decide) (by decide) d)
theorem f_travel (rc : Int32 → Int32 → St → Option St) (t : St) (k : Int32) {fl to hf nr w : Nat} (h1 : fl < 10) (h2 : to < 10) (hh : t 0 11 = nI hf) (h3 : hf < 10) (hr : t 0 2 = nI nr) (h8 : nr ≤ 8) (hn : t 0 16 = nI w) (hst : stab t nr) (hab : ∀ k, k < 8 → bt (t 0 19) k = true → ∃ q, q < 9 ∧ t 9 k = nI q) : ∀ (d n : Nat), d ≤ far fl to → w + d < 256 → (∀ i, i < d → lo fl to i ≠ hf) → fX9_runs_23 rc (n + d) (nI fl) k (nI to) t = fX9_runs_23 rc n (nI (ps fl to d)) k (nI to) (trv t w (fun i => nI (2 * ps fl to i)) d) := by
  intro d
  induction d with
  | zero =>
    intro n _ _ _
    have : ps fl to 0 = fl := by unfold ps; split <;> omega
    rw [this]
    rfl
  | succ d ih =>
    intro n hd hw hlo
    rw [show n + (d + 1) = (n + 1) + d by omega, ih (n + 1) (by omega) (by omega) (fun i hi => hlo i (by omega))]
    have hfar : d < far fl to := by omega
    have hp1 : ps fl to d < 10 := by unfold ps; unfold far at hfar; split <;> split at hfar <;> omega
    have hp2 : ps fl to d ≠ to := by unfold ps; unfold far at hfar; split <;> split at hfar <;> omega
    have e11 : trv t w (fun i => nI (2 * ps fl to i)) d 0 11 = nI hf := by rw [trv_s _ _ _ (by decide) (by decide)]; exact hh
    rw [f_run_step rc _ k hp1 h2 hp2 e11 h3]
    have hlow : ¬ (if ps fl to d < to then ps fl to d else ps fl to d - 1) = hf := by
      have := hlo d (by omega)
      unfold lo at this
      unfold ps
      unfold far at hfar
      by_cases c : fl < to
      · rw [if_pos c] at this ⊢
        rw [if_pos (by split at hfar <;> omega)]
        exact this
      · rw [if_neg c] at this ⊢
        rw [if_neg (by split at hfar <;> omega)]
        exact this
    rw [if_neg hlow]
    have hnx : nxt (ps fl to d) to = ps fl to (d + 1) := by
      unfold nxt ps
      unfold far at hfar
      by_cases c : fl < to
      · rw [if_pos c, if_pos c, if_pos (by split at hfar <;> omega)]
        omega
      · rw [if_neg c, if_neg c, if_neg (by split at hfar <;> omega)]
        omega
    rw [hnx, f_move (trv t w (fun i => nI (2 * ps fl to i)) d) _ (nr := nr) (w := w + d) (by rw [trv_s _ _ _ (by decide) (by decide)]; exact hr) h8 (trv_n t _ hn d) (by omega) (trv_stab hst _ _ _) (fun q hq hb => ?_), bd1_s]
    · rfl
    · rw [trv_s _ _ _ (by decide) (by decide)] at hb
      rw [trv_c _ _ _ (by decide) (by decide) (by decide) (by decide) (by decide)]
      exact hab q hq hb
