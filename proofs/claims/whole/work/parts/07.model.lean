/-! ===== rows filled up to a place ===== -/
def fil (A f : Nat → Int32) (k : Nat) : Nat → Int32 := fun r => if r < k then A r else f r
theorem fil_0 (A f : Nat → Int32) : fil A f 0 = f := by funext r; simp [fil]
theorem fil_in {A f : Nat → Int32} {k r : Nat} (h : r < k) : fil A f k r = A r := if_pos h
theorem fil_out {A f : Nat → Int32} {k r : Nat} (h : k ≤ r) : fil A f k r = f r := if_neg (by omega)
theorem fil_s (A f : Nat → Int32) (k : Nat) : upd (fil A f k) k (A k) = fil A f (k + 1) := by
  funext r
  unfold upd fil
  by_cases c : r = k
  · subst c; simp
  · rw [if_neg c]
    by_cases c2 : r < k
    · rw [if_pos c2, if_pos (by omega)]
    · rw [if_neg c2, if_neg (by omega)]
theorem fil_e {A B f : Nat → Int32} {k : Nat} (h : ∀ r, r < k → A r = B r) : fil A f k = fil B f k := by
  funext r
  unfold fil
  by_cases c : r < k
  · rw [if_pos c, if_pos c, h r c]
  · rw [if_neg c, if_neg c]
theorem up_s {α : Type} {f : Nat → α} {k : Nat} {x : α} : va_up f k x k = x := if_pos rfl
theorem up_o {α : Type} {f : Nat → α} {k j : Nat} {x : α} (h : j ≠ k) : va_up f k x j = f j := if_neg h
theorem sS_up {t : St} {c : Nat} {f : Nat → Int32} {j : Nat} {v : Int32} : sS (va_up t c f) c j v = va_up t c (upd f j v) := by
  funext c'
  unfold sS va_up
  by_cases h : c' = c <;> simp [h]
theorem sS_upo {t : St} {c d : Nat} {f : Nat → Int32} {j : Nat} {v : Int32} (h : c ≠ d) : sS (va_up t d f) c j v = va_up (va_up t c (upd (t c) j v)) d f := by
  funext c'
  unfold sS va_up
  by_cases h1 : c' = c
  · subst h1; simp [h]
  · by_cases h2 : c' = d
    · subst h2; simp [h1]
    · simp [h1, h2]
theorem up_up {α : Type} {f : Nat → α} {k : Nat} {x y : α} : va_up (va_up f k x) k y = va_up f k y := by
  funext j
  unfold va_up
  by_cases h : j = k <;> simp [h]
theorem up_self {α : Type} {f : Nat → α} {k : Nat} : va_up f k (f k) = f := by
  funext j
  unfold va_up
  by_cases h : j = k <;> simp [h]
/-! ===== the reference's notes ===== -/
def knN (t : St) (r : Nat) : Int32 := if bt (t 0 18) r then t 32 r ||| t 0 19 else t 32 r
def hdN (t : St) (r : Nat) : Int32 := t 33 r ||| knN t r
def alN (t : St) : Nat → Int32
  | 0 => 0
  | k + 1 => if bt (t 0 18) k then alN t k ||| hdN t k else alN t k
def hdN2 (t : St) (n r : Nat) : Int32 := if bt (t 0 18) r then hdN t r ||| alN t n else hdN t r
def tN (t : St) (k : Nat) : St := va_up (va_up t 32 (fil (knN t) (t 32) k)) 33 (fil (hdN t) (t 33) k)
def tN2 (t : St) (n k : Nat) : St := va_up (va_up t 32 (fil (knN t) (t 32) n)) 33 (fil (hdN2 t n) (fil (hdN t) (t 33) n) k)
theorem or_z (x : Int32) : x ||| 0 = x := by simp
theorem f_notes_139 (t : St) {nr : Nat} (hr : t 0 2 = nI nr) (h8 : nr ≤ 8) : fX9_notes_139 300 (alN t nr) 0 (tN t nr) = some (tN2 t nr nr) := by
  have e0 : tN t nr = tN2 t nr 0 := by unfold tN tN2; rw [fil_0]
  rw [e0]
  refine forP (fun n k s => fX9_notes_139 n (alN t nr) (nI k) s) nr (fun k => tN2 t nr k) _ ?_ ?_ 300 (by omega)
  · intro n k hk
    show fX9_notes_139 (n + 1) (alN t nr) (nI k) (tN2 t nr k) = fX9_notes_139 n (alN t nr) (nI (k + 1)) (tN2 t nr (k + 1))
    rw [fX9_notes_139]
    have c0 : ¬ (tN2 t nr k 0 2) ≤ nI k := by
      show ¬ (t 0 2) ≤ nI k
      rw [hr]; exact nI_ge hk (by omega)
    have e1 : tN2 t nr k 33 k = hdN t k := by
      show fil (hdN2 t nr) (fil (hdN t) (t 33) nr) k k = _
      rw [fil_out (Nat.le_refl _), fil_in hk]
    have e2 : tN2 t nr k 0 18 = t 0 18 := rfl
    have e3 : ∀ v, v = hdN2 t nr k → sS (tN2 t nr k) 33 k v = tN2 t nr (k + 1) := by
      intro v hv
      unfold tN2
      rw [sS_up, hv, fil_s]
    simp only [if_neg c0, stp_n, chk_nI (show k < 8 by omega) (show 8 < 2 ^ 31 by decide), ix_nI (show k < 2 ^ 31 by omega), e1, e2, f_isIn _ (show k < 32 by omega), bd1_s, nI_1]
    cases hb : bt (t 0 18) k
    · simp only [or_z, Bool.false_eq_true, if_false, if_true]
      rw [e3 _ (by unfold hdN2; rw [hb]; rfl)]
    · simp only [if_true]
      rw [if_neg (by decide), e3 _ (by unfold hdN2; rw [hb]; rfl)]
  · intro n
    show fX9_notes_139 (n + 1) (alN t nr) (nI nr) (tN2 t nr nr) = _
    rw [fX9_notes_139]
    have c0 : (tN2 t nr nr 0 2) ≤ nI nr := by
      show (t 0 2) ≤ nI nr
      rw [hr]; exact nI_le (Nat.le_refl _) (by omega)
    rw [if_pos c0]
theorem f_notes_56 (t : St) {nr : Nat} (hr : t 0 2 = nI nr) (h8 : nr ≤ 8) : fX9_notes_56 300 0 0 t = some (tN2 t nr nr) := by
  have e0 : t = tN t 0 := by unfold tN; rw [fil_0, fil_0, up_self]; exact up_self.symm
  have e00 : (0 : Int32) = alN t 0 := rfl
  have := forP (fun n k (s : Int32 × St) => fX9_notes_56 n s.1 (nI k) s.2) nr (fun k => (alN t k, tN t k)) (some (tN2 t nr nr)) ?_ ?_ 300 (by omega)
  · have h2 : fX9_notes_56 300 (alN t 0) (nI 0) (tN t 0) = _ := this
    rw [← e0] at h2
    exact h2
  · intro n k hk
    show fX9_notes_56 (n + 1) (alN t k) (nI k) (tN t k) = fX9_notes_56 n (alN t (k + 1)) (nI (k + 1)) (tN t (k + 1))
    rw [fX9_notes_56]
    have c0 : ¬ (tN t k 0 2) ≤ nI k := by
      show ¬ (t 0 2) ≤ nI k
      rw [hr]; exact nI_ge hk (by omega)
    have e1 : tN t k 32 k = t 32 k := by
      show fil (knN t) (t 32) k k = _
      rw [fil_out (Nat.le_refl _)]
    have e2 : tN t k 0 18 = t 0 18 := rfl
    have e3 : tN t k 0 19 = t 0 19 := rfl
    -- the two writes
    have e4 : ∀ v, v = knN t k → sS (tN t k) 32 k v = va_up (va_up t 32 (fil (knN t) (t 32) (k + 1))) 33 (fil (hdN t) (t 33) k) := by
      intro v hv
      unfold tN
      rw [sS_upo (by decide), up_s, up_up, hv, fil_s]
    have e5 : ∀ v, v = hdN t k → sS (va_up (va_up t 32 (fil (knN t) (t 32) (k + 1))) 33 (fil (hdN t) (t 33) k)) 33 k v = tN t (k + 1) := by
      intro v hv
      unfold tN
      rw [sS_up, hv, fil_s]
    have e6 : va_up (va_up t 32 (fil (knN t) (t 32) (k + 1))) 33 (fil (hdN t) (t 33) k) 33 k = t 33 k := by
      rw [up_s, fil_out (Nat.le_refl _)]
    have e7 : va_up (va_up t 32 (fil (knN t) (t 32) (k + 1))) 33 (fil (hdN t) (t 33) k) 32 k = knN t k := by
      rw [up_o (by decide), up_s, fil_in (by omega)]
    have e8 : tN t (k + 1) 0 18 = t 0 18 := rfl
    have e9 : tN t (k + 1) 33 k = hdN t k := by
      show fil (hdN t) (t 33) (k + 1) k = _
      rw [fil_in (by omega)]
    simp only [if_neg c0, stp_n, chk_nI (show k < 8 by omega) (show 8 < 2 ^ 31 by decide), ix_nI (show k < 2 ^ 31 by omega), e1, e2, e3, f_isIn _ (show k < 32 by omega), bd1_s, nI_1]
    cases hb : bt (t 0 18) k
    · have hk1 : t 32 k = knN t k := by unfold knN; rw [hb]; rfl
      simp only [or_z, Bool.false_eq_true, if_false, if_true]
      rw [e4 _ hk1, e6, e7, e5 (t 33 k ||| knN t k) rfl, e8, hb]
      simp only [bd1_s, Bool.false_eq_true, if_false, if_true]
      have : alN t (k + 1) = alN t k := by rw [alN, hb]; rfl
      rw [this]
    · have hk1 : t 32 k ||| t 0 19 = knN t k := by unfold knN; rw [hb]; rfl
      simp only [if_true]
      rw [if_neg (by decide), e4 _ hk1, e6, e7, e5 (t 33 k ||| knN t k) rfl, e8, hb]
      simp only [bd1_s, if_true]
      rw [if_neg (by decide), e9]
      have : alN t (k + 1) = alN t k ||| hdN t k := by rw [alN, hb]; rfl
      rw [this]
  · intro n
    show fX9_notes_56 (n + 1) (alN t nr) (nI nr) (tN t nr) = _
    rw [fX9_notes_56]
    have c0 : (tN t nr 0 2) ≤ nI nr := by
      show (t 0 2) ≤ nI nr
      rw [hr]; exact nI_le (Nat.le_refl _) (by omega)
    rw [if_pos c0, f_notes_139 t hr h8]
/-- what notes() leaves: the four rows of the step, and what is known and heard -/
def tW (t : St) (w : Nat) : St := va_up (va_up (va_up (va_up t 23 (upd (t 23) w (t 0 17))) 24 (upd (t 24) w (ldM t))) 25 (upd (t 25) w (t 0 18))) 26 (upd (t 26) w (t 0 19))
theorem f_notes (t : St) {nr w : Nat} (hr : t 0 2 = nI nr) (h8 : nr ≤ 8) (hw : t 0 16 = nI w) (hw2 : w < 256) (ha : ∀ k, k < 8 → bt (t 0 19) k = true → ∃ w, w < 9 ∧ t 9 k = nI w) : fX9_notes t = some (tN2 (tW t w) nr nr) := by
  unfold fX9_notes
  rw [wr_nI hw hw2 (by decide)]
  have hl : fX9_load (sS t 23 w (t 0 17)) = some (ldM t) := f_load (sS t 23 w (t 0 17)) ha
  rw [hl, bd1_s, wr_nI (x := sS t 23 w (t 0 17) 0 16) hw hw2 (by decide)]
  refine (wr_nI hw hw2 (by decide)).trans ?_
  refine (wr_nI hw hw2 (by decide)).trans ?_
  exact f_notes_56 (tW t w) hr h8
