/-! ===== the reference halts at a floor: who gets out ===== -/
def rdS (rid fl : Int32) (to : Nat → Int32) : Nat → Int32
  | 0 => rid
  | k + 1 => if bt rid k = true ∧ to k = fl then rdS rid fl to k &&& (((1 : Int32) <<< (nI k &&& 31)) ^^^ (-1)) else rdS rid fl to k
theorem rdS_b (rid fl : Int32) (to : Nat → Int32) {q : Nat} (hq : q < 32) : ∀ {k : Nat}, k ≤ 32 → bt (rdS rid fl to k) q = (bt rid q && !(decide (q < k) && decide (to q = fl)))
  | 0, _ => by simp [rdS]
  | k + 1, hk => by
    rw [rdS]
    have ih := rdS_b rid fl to hq (k := k) (by omega)
    by_cases c : bt rid k = true ∧ to k = fl
    · rw [if_pos c, bt_and, bt_not _ hq, bt_one (show k < 32 by omega), ih]
      by_cases c1 : q = k
      · subst c1; simp [c.2]
      · simp [c1, show (q < k + 1) = (q < k) by apply propext; omega]
    · rw [if_neg c, ih]
      by_cases c1 : q = k
      · subst c1
        cases c2 : bt rid q
        · simp
        · have : ¬ to q = fl := fun h => c ⟨c2, h⟩
          simp [this]
      · simp [show (q < k + 1) = (q < k) by apply propext; omega]
def aaN (t : St) (fl : Int32) (w : Nat) (q : Nat) : Int32 := if bt (t 0 18) q = true ∧ t 6 q = fl then nI w else t 28 q
/-- the reference's store as it halts at a floor, with k riders asked whether they get out -/
def goT (t : St) (fl : Int32) (w k : Nat) : St := sS (va_up t 28 (fil (aaN t fl w) (t 28) k)) 0 18 (rdS (t 0 18) fl (t 6) k)
theorem goT_c (t : St) (fl : Int32) (w k : Nat) {c : Nat} (h : c ≠ 0) (h2 : c ≠ 28) : goT t fl w k c = t c := by
  unfold goT
  rw [sS_o h, up_o h2]
theorem goT_s (t : St) (fl : Int32) (w k : Nat) {i : Nat} (h : i ≠ 18) : goT t fl w k 0 i = t 0 i := by
  unfold goT
  rw [sS_s, up_o (by decide), upd_o h]
theorem f_haltsAt_35 (t : St) (fl : Int32) (o : Option St) {nr w : Nat} (hr : t 0 2 = nI nr) (h8 : nr ≤ 8) (hn : t 0 16 = nI w) (ho : fX9_haltsAt_96 300 fl 0 (goT t fl w nr) = o) : fX9_haltsAt_35 300 fl 0 t = o := by
  have est : goT t fl w 0 = t := by
    unfold goT
    rw [fil_0, up_self]
    exact sS_self
  have key := forP (fun n k s => fX9_haltsAt_35 n fl (nI k) s) nr (fun k => goT t fl w k) o ?_ ?_ 300 (by omega)
  · rw [est] at key
    exact key
  · intro n k hk
    show fX9_haltsAt_35 (n + 1) fl (nI k) (goT t fl w k) = fX9_haltsAt_35 n fl (nI (k + 1)) (goT t fl w (k + 1))
    have e1 : nI k + 1 = nI (k + 1) := nI_1 k
    have a18 : goT t fl w k 0 18 = rdS (t 0 18) fl (t 6) k := by unfold goT; rw [sS_s, upd_s]
    have ab : bt (rdS (t 0 18) fl (t 6) k) k = bt (t 0 18) k := by rw [rdS_b _ _ _ (show k < 32 by omega) (by omega)]; simp
    rw [fX9_haltsAt_35, if_neg (by rw [goT_s _ _ _ _ (by decide), hr]; exact nI_ge hk (by omega)), f_isIn _ (show k < 32 by omega), bd1_s, a18, ab]
    simp only [b01]
    cases hb : bt (t 0 18) k
    · simp only [if_true, stp_n, e1]
      have : goT t fl w (k + 1) = goT t fl w k := by
        unfold goT
        rw [rdS, if_neg (by simp [hb]), ← fil_s]
        have : aaN t fl w k = fil (aaN t fl w) (t 28) k k := by rw [fil_out (Nat.le_refl _)]; unfold aaN; rw [if_neg (by simp [hb])]
        rw [this, upd_self]
      rw [this]
    · simp only [Bool.true_eq_false, if_false]
      rw [rd_nI rfl (show k < 9 by omega) (by decide), goT_c _ _ _ _ (by decide) (by decide)]
      by_cases c : t 6 k = fl
      · rw [if_pos c, stp_n]
        have h16 : sS (goT t fl w k) 0 18 (rdS (t 0 18) fl (t 6) k &&& (((1 : Int32) <<< (nI k &&& 31)) ^^^ (-1))) 0 16 = nI w := hn
        rw [h16, wr_nI rfl (show k < 8 by omega) (by decide), stp_n, e1]
        have : sS (sS (goT t fl w k) 0 18 (rdS (t 0 18) fl (t 6) k &&& (((1 : Int32) <<< (nI k &&& 31)) ^^^ (-1)))) 28 k (nI w) = goT t fl w (k + 1) := by
          unfold goT
          rw [sS_sS, rdS, if_pos ⟨hb, c⟩, sS_comm (by decide), sS_up]
          have : nI w = aaN t fl w k := by unfold aaN; rw [if_pos ⟨hb, c⟩]
          rw [this, fil_s]
        rw [this]
      · rw [if_neg c, stp_n, e1]
        have : goT t fl w (k + 1) = goT t fl w k := by
          unfold goT
          rw [rdS, if_neg (by simp [c]), ← fil_s]
          have : aaN t fl w k = fil (aaN t fl w) (t 28) k k := by rw [fil_out (Nat.le_refl _)]; unfold aaN; rw [if_neg (by simp [c])]
          rw [this, upd_self]
        rw [this]
  · intro n
    show fX9_haltsAt_35 (n + 1) fl (nI nr) (goT t fl w nr) = _
    rw [fX9_haltsAt_35, if_pos (by rw [goT_s _ _ _ _ (by decide), hr]; exact nI_le (Nat.le_refl _) (by omega))]
    exact ho
/-! ===== who gets in ===== -/
theorem liS_hi (wt lim : Int32) (hv : Nat → Int32) (a v f : Int32) {k : Nat} (hk : k < 32) : ∀ {l : Nat}, l ≤ k → bt (liS wt lim hv a v f l).1 k = bt a k
  | 0, _ => rfl
  | l + 1, h => by
    rw [liS]
    have ih := liS_hi wt lim hv a v f hk (l := l) (by omega)
    cases c : bt wt l
    · simpa using ih
    · simp only [if_true]
      by_cases c2 : lim < (liS wt lim hv a v f l).2.1 + hv l
      · rw [if_pos c2]; exact ih
      · rw [if_neg c2]
        show bt (_ ||| _) k = _
        rw [bt_or, bt_one (show l < 32 by omega), ih]
        simp [show ¬ k = l by omega]
theorem liS_ld (wt lim ab : Int32) (hv ah : Nat → Int32) (a v f : Int32) {nr : Nat} (h8 : nr ≤ 8) (hw : ∀ k, k < nr → bt wt k = true → bt a k = false) (hv0 : ldS a ab hv ah 8 = v) : ∀ {l : Nat}, l ≤ nr → ldS (liS wt lim hv a v f l).1 ab hv ah 8 = (liS wt lim hv a v f l).2.1
  | 0, _ => hv0
  | l + 1, hl => by
    have ih := liS_ld wt lim ab hv ah a v f h8 hw hv0 (l := l) (by omega)
    rw [liS]
    cases c : bt wt l
    · simpa using ih
    · simp only [if_true]
      by_cases c2 : lim < (liS wt lim hv a v f l).2.1 + hv l
      · rw [if_pos c2]; exact ih
      · rw [if_neg c2]
        show ldS ((liS wt lim hv a v f l).1 ||| _) ab hv ah 8 = _ + _
        rw [ldS_rid _ ab hv ah (show l < 32 by omega) (by rw [liS_hi wt lim hv a v f (show l < 32 by omega) (Nat.le_refl _)]; exact hw l (by omega) c) (show l < 8 by omega), ih]
/-- the store with these numbers and rows in place of its own -/
def c0T (t : St) (a rd fa fw : Int32) : Nat → Int32 := fun i => if i = 18 then a else if i = 20 then rd else if i = 29 then fa else if i = 30 then fw else t 0 i
def bdT (t : St) (a rd fa fw : Int32) (ia rf : Nat → Int32) : St := va_up (va_up (va_up t 27 ia) 29 rf) 0 (c0T t a rd fa fw)
theorem bdT_self (t : St) : bdT t (t 0 18) (t 0 20) (t 0 29) (t 0 30) (t 27) (t 29) = t := by
  unfold bdT
  have e : c0T t (t 0 18) (t 0 20) (t 0 29) (t 0 30) = t 0 := by
    funext i
    unfold c0T
    by_cases h1 : i = 18
    · simp [h1]
    · by_cases h2 : i = 20
      · simp [h2]
      · by_cases h3 : i = 29
        · simp [h3]
        · by_cases h4 : i = 30
          · simp [h4]
          · simp [h1, h2, h3, h4]
  rw [e, up_self, up_self, up_self]
theorem bdT_c (t : St) (a rd fa fw : Int32) (ia rf : Nat → Int32) {c : Nat} (h : c ≠ 0) (h2 : c ≠ 27) (h3 : c ≠ 29) : bdT t a rd fa fw ia rf c = t c := by
  unfold bdT
  rw [up_o h, up_o h3, up_o h2]
theorem bdT_s (t : St) (a rd fa fw : Int32) (ia rf : Nat → Int32) {i : Nat} (h1 : i ≠ 18) (h2 : i ≠ 20) (h3 : i ≠ 29) (h4 : i ≠ 30) : bdT t a rd fa fw ia rf 0 i = t 0 i := by
  unfold bdT
  rw [up_s]
  unfold c0T
  rw [if_neg h1, if_neg h2, if_neg h3, if_neg h4]
theorem bdT_18 (t : St) (a rd fa fw x : Int32) (ia rf : Nat → Int32) : sS (bdT t a rd fa fw ia rf) 0 18 x = bdT t x rd fa fw ia rf := by
  unfold bdT
  rw [sS_up]
  congr 1
  funext i
  unfold upd c0T
  by_cases h : i = 18 <;> simp [h]
theorem bdT_20 (t : St) (a rd fa fw x : Int32) (ia rf : Nat → Int32) : sS (bdT t a rd fa fw ia rf) 0 20 x = bdT t a x fa fw ia rf := by
  unfold bdT
  rw [sS_up]
  congr 1
  funext i
  unfold upd c0T
  by_cases h : i = 20
  · simp [h]
  · simp [h]
theorem bdT_29 (t : St) (a rd fa fw x : Int32) (ia rf : Nat → Int32) : sS (bdT t a rd fa fw ia rf) 0 29 x = bdT t a rd x fw ia rf := by
  unfold bdT
  rw [sS_up]
  congr 1
  funext i
  unfold upd c0T
  by_cases h : i = 29
  · simp [h]
  · simp [h]
theorem bdT_30 (t : St) (a rd fa fw x : Int32) (ia rf : Nat → Int32) : sS (bdT t a rd fa fw ia rf) 0 30 x = bdT t a rd fa x ia rf := by
  unfold bdT
  rw [sS_up]
  congr 1
  funext i
  unfold upd c0T
  by_cases h : i = 30
  · simp [h]
  · simp [h]
theorem bdT_i (t : St) (a rd fa fw x : Int32) (ia rf : Nat → Int32) (k : Nat) : sS (bdT t a rd fa fw ia rf) 27 k x = bdT t a rd fa fw (upd ia k x) rf := by
  unfold bdT
  funext c
  by_cases h : c = 27
  · subst h
    rw [sS_s, up_o (by decide), up_o (by decide), up_s, up_o (by decide), up_o (by decide), up_s]
  · rw [sS_o h]
    by_cases h2 : c = 0
    · subst h2; rw [up_s, up_s]
    · rw [up_o h2, up_o h2]
      by_cases h3 : c = 29
      · subst h3; rw [up_s, up_s]
      · rw [up_o h3, up_o h3, up_o h, up_o h]
theorem bdT_r (t : St) (a rd fa fw x : Int32) (ia rf : Nat → Int32) (k : Nat) : sS (bdT t a rd fa fw ia rf) 29 k x = bdT t a rd fa fw ia (upd rf k x) := by
  unfold bdT
  funext c
  by_cases h : c = 29
  · subst h
    rw [sS_s, up_o (by decide), up_s, up_o (by decide), up_s]
  · rw [sS_o h]
    by_cases h2 : c = 0
    · subst h2; rw [up_s, up_s]
    · rw [up_o h2, up_o h2, up_o h, up_o h]
/-- first refusals: when, who -/
def fuS (wt lim : Int32) (hv : Nat → Int32) (a v w fa fw : Int32) : Nat → Int32 × Int32
  | 0 => (fa, fw)
  | k + 1 => if bt wt k = true ∧ lim < (liS wt lim hv a v 0 k).2.1 + hv k then (if (fuS wt lim hv a v w fa fw k).1 = -1 then (w, nI k) else fuS wt lim hv a v w fa fw k) else fuS wt lim hv a v w fa fw k
def iaN (wt lim : Int32) (hv : Nat → Int32) (a v w : Int32) (ia : Nat → Int32) (q : Nat) : Int32 := if bt wt q = true ∧ ¬ lim < (liS wt lim hv a v 0 q).2.1 + hv q then w else ia q
def rfN (wt lim : Int32) (hv : Nat → Int32) (a v : Int32) (rf : Nat → Int32) (q : Nat) : Int32 := if bt wt q = true ∧ lim < (liS wt lim hv a v 0 q).2.1 + hv q then rf q + 1 else rf q
/-- the store with k riders asked whether they get in -/
def gtT (t : St) (wt : Int32) (k : Nat) : St := bdT t (liS wt (t 0 12) (t 4) (t 0 18) (ldM t) 0 k).1 (t 0 20 ||| (liS wt (t 0 12) (t 4) (t 0 18) (ldM t) 0 k).1) (fuS wt (t 0 12) (t 4) (t 0 18) (ldM t) (t 0 16) (t 0 29) (t 0 30) k).1 (fuS wt (t 0 12) (t 4) (t 0 18) (ldM t) (t 0 16) (t 0 29) (t 0 30) k).2 (fil (iaN wt (t 0 12) (t 4) (t 0 18) (ldM t) (t 0 16) (t 27)) (t 27) k) (fil (rfN wt (t 0 12) (t 4) (t 0 18) (ldM t) (t 29)) (t 29) k)
theorem f_haltsAt_96 (t : St) (fl wt : Int32) {nr w : Nat} (hr : t 0 2 = nI nr) (h8 : nr ≤ 8) (hn : t 0 16 = nI w) (hw2 : w < 256) (hwt : ∀ k, k < nr → bt wt k = (decide (t 5 k = fl) && !decide (t 6 k = fl) && !bt (t 0 20) k)) (hsub : t 0 20 ||| t 0 18 = t 0 20) (hab : ∀ k, k < 8 → bt (t 0 19) k = true → ∃ q, q < 9 ∧ t 9 k = nI q) :
    fX9_haltsAt_96 300 fl 0 t = some (tN2 (tW (gtT t wt nr) w) nr nr) := by
  have hnot : ∀ k, k < nr → bt wt k = true → bt (t 0 18) k = false := by
    intro k hk hb
    have h1 := hwt k hk
    rw [hb] at h1
    have h2 : bt (t 0 20) k = false := by
      cases c : bt (t 0 20) k
      · rfl
      · rw [c] at h1; simp at h1
    rw [← hsub, bt_or] at h2
    simp at h2
    exact h2.2
  have est : gtT t wt 0 = t := by
    unfold gtT
    rw [fil_0, fil_0]
    show bdT t (t 0 18) (t 0 20 ||| t 0 18) (t 0 29) (t 0 30) (t 27) (t 29) = t
    rw [hsub]
    exact bdT_self t
  have key := forP (fun n k s => fX9_haltsAt_96 n fl (nI k) s) nr (fun k => gtT t wt k) (some (tN2 (tW (gtT t wt nr) w) nr nr)) ?_ ?_ 300 (by omega)
  · rw [est] at key
    exact key
  · intro n k hk
    show fX9_haltsAt_96 (n + 1) fl (nI k) (gtT t wt k) = fX9_haltsAt_96 n fl (nI (k + 1)) (gtT t wt (k + 1))
    have e1 : nI k + 1 = nI (k + 1) := nI_1 k
    have hld := liS_ld wt (t 0 12) (t 0 19) (t 4) (ahM t) (t 0 18) (ldM t) 0 h8 hnot rfl (l := k) (by omega)
    have hhi := liS_hi wt (t 0 12) (t 4) (t 0 18) (ldM t) 0 (show k < 32 by omega) (Nat.le_refl k)
    -- the state, opened
    have g2 : gtT t wt k 0 2 = t 0 2 := rfl
    have g5 : gtT t wt k 5 k = t 5 k := rfl
    have g6 : gtT t wt k 6 k = t 6 k := rfl
    have g4 : gtT t wt k 4 k = t 4 k := rfl
    have g12 : gtT t wt k 0 12 = t 0 12 := rfl
    have g16 : gtT t wt k 0 16 = t 0 16 := rfl
    have g18 : gtT t wt k 0 18 = (liS wt (t 0 12) (t 4) (t 0 18) (ldM t) 0 k).1 := rfl
    have g20 : gtT t wt k 0 20 = t 0 20 ||| (liS wt (t 0 12) (t 4) (t 0 18) (ldM t) 0 k).1 := rfl
    have g29 : gtT t wt k 0 29 = (fuS wt (t 0 12) (t 4) (t 0 18) (ldM t) (t 0 16) (t 0 29) (t 0 30) k).1 := rfl
    have gr : gtT t wt k 29 k = t 29 k := by show fil _ (t 29) k k = _; rw [fil_out (Nat.le_refl _)]
    have hrode : bt (gtT t wt k 0 20) k = bt (t 0 20) k := by
      rw [g20, bt_or, hhi, ← bt_or, hsub]
    rw [fX9_haltsAt_96, if_neg (by rw [g2, hr]; exact nI_ge hk (by omega)), rd_nI rfl (show k < 9 by omega) (by decide), g5]
    -- no one waits here
    have same : bt wt k = false → gtT t wt (k + 1) = gtT t wt k := by
      intro hb
      unfold gtT
      rw [liS, fuS, hb, ← fil_s, ← fil_s]
      have i1 : iaN wt (t 0 12) (t 4) (t 0 18) (ldM t) (t 0 16) (t 27) k = fil (iaN wt (t 0 12) (t 4) (t 0 18) (ldM t) (t 0 16) (t 27)) (t 27) k k := by rw [fil_out (Nat.le_refl _)]; unfold iaN; rw [if_neg (by simp [hb])]
      have i2 : rfN wt (t 0 12) (t 4) (t 0 18) (ldM t) (t 29) k = fil (rfN wt (t 0 12) (t 4) (t 0 18) (ldM t) (t 29)) (t 29) k k := by rw [fil_out (Nat.le_refl _)]; unfold rfN; rw [if_neg (by simp [hb])]
      rw [i1, upd_self, i2, upd_self]
      simp
    by_cases c5 : t 5 k = fl
    · rw [if_pos c5, rd_nI rfl (show k < 9 by omega) (by decide), g6]
      by_cases c6 : t 6 k = fl
      · rw [if_pos c6, stp_n, e1, same (by rw [hwt k hk]; simp [c6])]
      · rw [if_neg c6, f_isIn _ (show k < 32 by omega), bd1_s, hrode]
        simp only [b01]
        cases c20 : bt (t 0 20) k
        · have hb : bt wt k = true := by rw [hwt k hk]; simp [c5, c6, c20]
          simp only [if_true]
          have hload : fX9_load (gtT t wt k) = some (liS wt (t 0 12) (t 4) (t 0 18) (ldM t) 0 k).2.1 := by
            rw [f_load (gtT t wt k) hab]
            exact congrArg some hld
          rw [hload, bd1_s, rd_nI rfl (show k < 9 by omega) (by decide), g4, g12]
          by_cases c : t 0 12 < (liS wt (t 0 12) (t 4) (t 0 18) (ldM t) 0 k).2.1 + t 4 k
          · rw [if_pos c, rd_nI rfl (show k < 8 by omega) (by decide), gr, wr_nI rfl (show k < 8 by omega) (by decide)]
            have nx : ∀ (fa fw : Int32), (fa, fw) = (fuS wt (t 0 12) (t 4) (t 0 18) (ldM t) (t 0 16) (t 0 29) (t 0 30) (k + 1)) → bdT t (liS wt (t 0 12) (t 4) (t 0 18) (ldM t) 0 k).1 (t 0 20 ||| (liS wt (t 0 12) (t 4) (t 0 18) (ldM t) 0 k).1) fa fw (fil (iaN wt (t 0 12) (t 4) (t 0 18) (ldM t) (t 0 16) (t 27)) (t 27) k) (upd (fil (rfN wt (t 0 12) (t 4) (t 0 18) (ldM t) (t 29)) (t 29) k) k (t 29 k + 1)) = gtT t wt (k + 1) := by
              intro fa fw hfu
              unfold gtT
              rw [← hfu, liS, hb, if_pos rfl, if_pos c, ← fil_s, ← fil_s]
              have i1 : iaN wt (t 0 12) (t 4) (t 0 18) (ldM t) (t 0 16) (t 27) k = fil (iaN wt (t 0 12) (t 4) (t 0 18) (ldM t) (t 0 16) (t 27)) (t 27) k k := by rw [fil_out (Nat.le_refl _)]; unfold iaN; rw [if_neg (by simp [c])]
              have i2 : rfN wt (t 0 12) (t 4) (t 0 18) (ldM t) (t 29) k = t 29 k + 1 := by unfold rfN; rw [if_pos ⟨hb, c⟩]
              rw [i1, upd_self, i2]
            have g29' : sS (gtT t wt k) 29 k (t 29 k + 1) = bdT t (liS wt (t 0 12) (t 4) (t 0 18) (ldM t) 0 k).1 (t 0 20 ||| (liS wt (t 0 12) (t 4) (t 0 18) (ldM t) 0 k).1) (fuS wt (t 0 12) (t 4) (t 0 18) (ldM t) (t 0 16) (t 0 29) (t 0 30) k).1 (fuS wt (t 0 12) (t 4) (t 0 18) (ldM t) (t 0 16) (t 0 29) (t 0 30) k).2 (fil (iaN wt (t 0 12) (t 4) (t 0 18) (ldM t) (t 0 16) (t 27)) (t 27) k) (upd (fil (rfN wt (t 0 12) (t 4) (t 0 18) (ldM t) (t 29)) (t 29) k) k (t 29 k + 1)) := by unfold gtT; exact bdT_r _ _ _ _ _ _ _ _ _
            rw [g29']
            have hfu : fuS wt (t 0 12) (t 4) (t 0 18) (ldM t) (t 0 16) (t 0 29) (t 0 30) (k + 1) = if (fuS wt (t 0 12) (t 4) (t 0 18) (ldM t) (t 0 16) (t 0 29) (t 0 30) k).1 = -1 then (t 0 16, nI k) else fuS wt (t 0 12) (t 4) (t 0 18) (ldM t) (t 0 16) (t 0 29) (t 0 30) k := by rw [fuS, if_pos ⟨hb, c⟩]
            rw [hfu] at nx
            revert nx
            generalize fuS wt (t 0 12) (t 4) (t 0 18) (ldM t) (t 0 16) (t 0 29) (t 0 30) k = fu
            generalize (upd (fil (rfN wt (t 0 12) (t 4) (t 0 18) (ldM t) (t 29)) (t 29) k) k (t 29 k + 1)) = rf
            generalize (fil (iaN wt (t 0 12) (t 4) (t 0 18) (ldM t) (t 0 16) (t 27)) (t 27) k) = ia
            generalize (liS wt (t 0 12) (t 4) (t 0 18) (ldM t) 0 k).1 = la
            intro nx
            have r29 : ∀ fa fw : Int32, bdT t la (t 0 20 ||| la) fa fw ia rf 0 29 = fa := fun _ _ => rfl
            have r30 : ∀ fa fw : Int32, bdT t la (t 0 20 ||| la) fa fw ia rf 0 30 = fw := fun _ _ => rfl
            have r16 : ∀ fa fw : Int32, bdT t la (t 0 20 ||| la) fa fw ia rf 0 16 = t 0 16 := fun _ _ => rfl
            rw [r29]
            by_cases cf : fu.1 = -1
            · rw [if_pos cf, stp_n, bdT_30, r29, if_pos cf, stp_n, stp_n, r16, bdT_29, e1, nx _ _ (by rw [if_pos cf])]
            · rw [if_neg cf, stp_n, bdT_30, r29, if_neg cf, stp_n, stp_n, r30, bdT_29, e1, nx _ _ (by rw [if_neg cf])]
          · rw [if_neg c, stp_n, stp_n]
            have h1 : gtT t wt (k + 1) = bdT t ((liS wt (t 0 12) (t 4) (t 0 18) (ldM t) 0 k).1 ||| ((1 : Int32) <<< (nI k &&& 31))) ((t 0 20 ||| (liS wt (t 0 12) (t 4) (t 0 18) (ldM t) 0 k).1) ||| ((1 : Int32) <<< (nI k &&& 31))) (fuS wt (t 0 12) (t 4) (t 0 18) (ldM t) (t 0 16) (t 0 29) (t 0 30) k).1 (fuS wt (t 0 12) (t 4) (t 0 18) (ldM t) (t 0 16) (t 0 29) (t 0 30) k).2 (upd (fil (iaN wt (t 0 12) (t 4) (t 0 18) (ldM t) (t 0 16) (t 27)) (t 27) k) k (t 0 16)) (fil (rfN wt (t 0 12) (t 4) (t 0 18) (ldM t) (t 29)) (t 29) k) := by
              unfold gtT
              rw [liS, hb, if_pos rfl, if_neg c, fuS, if_neg (by simp [c]), ← fil_s, ← fil_s, Int32.or_assoc]
              have i1 : iaN wt (t 0 12) (t 4) (t 0 18) (ldM t) (t 0 16) (t 27) k = t 0 16 := by unfold iaN; rw [if_pos ⟨hb, c⟩]
              have i2 : rfN wt (t 0 12) (t 4) (t 0 18) (ldM t) (t 29) k = fil (rfN wt (t 0 12) (t 4) (t 0 18) (ldM t) (t 29)) (t 29) k k := by rw [fil_out (Nat.le_refl _)]; unfold rfN; rw [if_neg (by simp [c])]
              rw [i1, i2, upd_self]
            rw [h1]
            unfold gtT
            rw [bdT_18, bdT_20]
            rw [wr_nI rfl (show k < 8 by omega) (by decide), stp_n, e1, bdT_i]
            rfl
        · simp only [Bool.true_eq_false, if_false, stp_n, e1]
          rw [same (by rw [hwt k hk]; simp [c20])]
    · rw [if_neg c5, stp_n, e1, same (by rw [hwt k hk]; simp [c5])]
  · intro n
    show fX9_haltsAt_96 (n + 1) fl (nI nr) (gtT t wt nr) = _
    have g2 : gtT t wt nr 0 2 = t 0 2 := rfl
    rw [fX9_haltsAt_96, if_pos (by rw [g2, hr]; exact nI_le (Nat.le_refl _) (by omega))]
    rw [f_notes (gtT t wt nr) (nr := nr) (w := w) hr h8 hn hw2 hab, bd1_s]
