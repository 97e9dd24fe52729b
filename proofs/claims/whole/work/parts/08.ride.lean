/-! ===== the class' ride: one row more ===== -/
theorem nI_p (j : Nat) : nI (j + 1) - 1 = nI j := nI_pred j
/-- the store with a row more at j + 1, like row j but for its step and place -/
def arR (r : St) (j : Nat) (s p : Int32) : St := sS (sS (sS (sS (sS (sS (sS (sS (sS r 2 (j + 1) s) 3 (j + 1) p) 4 (j + 1) (r 4 j)) 5 (j + 1) (r 5 j)) 6 (j + 1) (r 6 j)) 7 (j + 1) (r 7 j)) 8 (j + 1) (r 8 j)) 9 (j + 1) 0) 0 9 (nI (j + 2))
theorem f_addRow (h r : St) (s p : Int32) {j : Nat} (hr : r 0 9 = nI (j + 1)) (hj : j + 1 < 45) : fX4_addRow h r s p = some (arR r j s p) := by
  have hr2 : r 0 9 - 1 = nI j := by rw [hr]; exact nI_p j
  unfold fX4_addRow
  rw [stp_n, stp_n]
  refine (wr_nI hr hj (by decide)).trans ?_
  refine (wr_nI hr hj (by decide)).trans ?_
  refine (rd_nI hr2 (by omega) (by decide)).trans ?_
  refine (wr_nI hr hj (by decide)).trans ?_
  refine (rd_nI hr2 (by omega) (by decide)).trans ?_
  refine (wr_nI hr hj (by decide)).trans ?_
  refine (rd_nI hr2 (by omega) (by decide)).trans ?_
  refine (wr_nI hr hj (by decide)).trans ?_
  refine (rd_nI hr2 (by omega) (by decide)).trans ?_
  refine (wr_nI hr hj (by decide)).trans ?_
  refine (rd_nI hr2 (by omega) (by decide)).trans ?_
  refine (wr_nI hr hj (by decide)).trans ?_
  refine (wr_nI hr hj (by decide)).trans ?_
  rw [stp_n]
  refine congrArg some ?_
  have e : r 0 9 + 1 = nI (j + 2) := by rw [hr]; exact nI_1 (j + 1)
  show sS _ 0 9 (r 0 9 + 1) = _
  rw [e]
  rfl
/-! ===== who waits ===== -/
def wtB (left ab st steps : Int32) (at_ : Nat → Int32) (nl k : Nat) : Bool := decide (k < nl) && (bt left k && !(bt ab k || bt st k) && !decide (steps < at_ k))
theorem f_waitingBy (h r : St) (s : Int32) {j nl : Nat} (hr : r 0 9 = nI (j + 1)) (hj : j < 45) (hl : h 0 3 = nI nl) (h8 : nl ≤ 8) (hlf : ∀ k, nl ≤ k → bt (r 0 10) k = false) : ∃ w, fX4_waitingBy h r s = some w ∧ ∀ k, k < 32 → bt w k = wtB (r 0 10) (r 6 j) (r 7 j) s (h 10) nl k := by
  have hr2 : r 0 9 - 1 = nI j := by rw [hr]; exact nI_p j
  unfold fX4_waitingBy
  rw [rd_nI hr2 hj (by decide), rd_nI hr2 hj (by decide), stp_n]
  -- the loop: from place i on, bits below i are settled
  have loop : ∀ d i n x, i + d = nl → d < n → (∀ k, k < 32 → bt x k = (if k < i then wtB (r 0 10) (r 6 j) (r 7 j) s (h 10) nl k else (bt (r 0 10) k && !(bt (r 6 j) k || bt (r 7 j) k)))) → ∃ w, fX4_waitingBy_33 h r n s x (nI i) = some w ∧ ∀ k, k < 32 → bt w k = wtB (r 0 10) (r 6 j) (r 7 j) s (h 10) nl k := by
    intro d
    induction d with
    | zero =>
      intro i n x hi hn hx
      obtain ⟨n, rfl⟩ : ∃ q, n = q + 1 := ⟨n - 1, by omega⟩
      have : i = nl := by omega
      subst this
      refine ⟨x, ?_, fun k hk => ?_⟩
      · rw [fX4_waitingBy_33, if_pos (by rw [hl]; exact nI_le (Nat.le_refl _) (by omega))]
      · rw [hx k hk]
        by_cases c : k < i
        · rw [if_pos c]
        · rw [if_neg c, hlf k (by omega)]
          simp [wtB, c]
    | succ d ih =>
      intro i n x hi hn hx
      obtain ⟨n, rfl⟩ : ∃ q, n = q + 1 := ⟨n - 1, by omega⟩
      rw [fX4_waitingBy_33, if_neg (by rw [hl]; exact nI_ge (by omega) (by omega))]
      by_cases c0 : x = 0
      · rw [if_pos c0]
        refine ⟨x, rfl, fun k hk => ?_⟩
        have h1 := hx k hk
        rw [c0, bt_zero] at h1
        rw [c0, bt_zero]
        by_cases c : k < i
        · rw [if_pos c] at h1; exact h1
        · rw [if_neg c] at h1
          unfold wtB
          rw [← h1]
          simp
      · rw [if_neg c0, rd_nI rfl (show i < 8 by omega) (by decide)]
        have e1 : nI i + 1 = nI (i + 1) := nI_1 i
        by_cases c : h 10 i ≤ s
        · rw [if_pos c, stp_n, e1]
          refine ih (i + 1) n x (by omega) (by omega) (fun k hk => ?_)
          rw [hx k hk]
          by_cases c1 : k < i
          · rw [if_pos c1, if_pos (by omega)]
          · rw [if_neg c1]
            by_cases c2 : k = i
            · subst c2
              rw [if_pos (by omega)]
              have c3 : ¬ s < h 10 k := Int32.not_lt.mpr c
              simp [wtB, c3, show k < nl by omega]
            · rw [if_neg (by omega)]
        · rw [if_neg c, stp_n, stp_n, e1]
          refine ih (i + 1) n _ (by omega) (by omega) (fun k hk => ?_)
          rw [bt_and, bt_not _ hk, bt_one (show i < 32 by omega), hx k hk]
          by_cases c1 : k < i
          · rw [if_pos c1, if_pos (by omega)]
            simp [show ¬ k = i by omega]
          · rw [if_neg c1]
            by_cases c2 : k = i
            · subst c2
              rw [if_pos (by omega)]
              have c3 : s < h 10 k := Int32.not_le.mp c
              simp [wtB, c3]
            · rw [if_neg (by omega)]
              simp [c2]
  refine loop nl 0 300 _ (by omega) (by omega) (fun k hk => ?_)
  rw [if_neg (by omega), bt_and, bt_not _ hk, bt_or]
/-! ===== who gets in at HALF ===== -/
/-- behind l leavers: who is in, and how heavy all are -/
def laS (wt lim : Int32) (ah : Nat → Int32) (a v : Int32) : Nat → Int32 × Int32
  | 0 => (a, v)
  | l + 1 => if bt wt l then (if lim < (laS wt lim ah a v l).2 + ah l then laS wt lim ah a v l else ((laS wt lim ah a v l).1 ||| ((1 : Int32) <<< (nI l &&& 31)), (laS wt lim ah a v l).2 + ah l)) else laS wt lim ah a v l
def laR (r : St) (j : Nat) (q : Int32 × Int32) : St := va_up (va_up r 6 (upd (r 6) j q.1)) 4 (upd (r 4) j q.2)
theorem upd_self {f : Nat → Int32} {k : Nat} : upd f k (f k) = f := by
  funext i
  unfold upd
  by_cases h : i = k
  · subst h; simp
  · simp [h]
theorem upd_upd {f : Nat → Int32} {k : Nat} {x y : Int32} : upd (upd f k x) k y = upd f k y := by
  funext i
  unfold upd
  by_cases h : i = k <;> simp [h]
theorem laR_0 (r : St) (j : Nat) : laR r j (r 6 j, r 4 j) = r := by
  unfold laR
  rw [upd_self, upd_self, up_self]
  exact up_self
theorem f_letAbsencesIn (h r : St) (wt : Int32) {j nl : Nat} (hr : r 0 9 = nI (j + 1)) (hj : j < 45) (hl : h 0 3 = nI nl) (h8 : nl ≤ 8) : fX4_letAbsencesIn h r wt = some (laR r j (laS wt (h 0 1) (r 12) (r 6 j) (r 4 j) nl)) := by
  have hr2 : r 0 9 - 1 = nI j := by rw [hr]; exact nI_p j
  unfold fX4_letAbsencesIn
  rw [stp_n, hr2]
  have e0 : r = laR r j (laS wt (h 0 1) (r 12) (r 6 j) (r 4 j) 0) := (laR_0 r j).symm
  have key := forP (fun n k s => fX4_letAbsencesIn_9 h n wt (nI j) (nI k) s) nl (fun k => laR r j (laS wt (h 0 1) (r 12) (r 6 j) (r 4 j) k)) (some (laR r j (laS wt (h 0 1) (r 12) (r 6 j) (r 4 j) nl))) ?_ ?_ 300 (by omega)
  · have k2 : fX4_letAbsencesIn_9 h 300 wt (nI j) (nI 0) (laR r j (laS wt (h 0 1) (r 12) (r 6 j) (r 4 j) 0)) = _ := key
    rw [← e0] at k2
    exact k2
  · intro n k hk
    show fX4_letAbsencesIn_9 h (n + 1) wt (nI j) (nI k) (laR r j (laS wt (h 0 1) (r 12) (r 6 j) (r 4 j) k)) = fX4_letAbsencesIn_9 h n wt (nI j) (nI (k + 1)) (laR r j (laS wt (h 0 1) (r 12) (r 6 j) (r 4 j) (k + 1)))
    generalize hq : laS wt (h 0 1) (r 12) (r 6 j) (r 4 j) k = q
    have hq1 : laS wt (h 0 1) (r 12) (r 6 j) (r 4 j) (k + 1) = if bt wt k then (if h 0 1 < q.2 + r 12 k then q else (q.1 ||| ((1 : Int32) <<< (nI k &&& 31)), q.2 + r 12 k)) else q := by rw [laS, hq]
    rw [hq1, fX4_letAbsencesIn_9, if_neg (by rw [hl]; exact nI_ge hk (by omega)), bt_get wt (show k < 32 by omega)]
    have e1 : nI k + 1 = nI (k + 1) := nI_1 k
    have a4 : laR r j q 4 j = q.2 := by show upd (r 4) j q.2 j = _; exact upd_s
    have a6 : laR r j q 6 j = q.1 := by show upd (r 6) j q.1 j = _; exact upd_s
    have a12 : laR r j q 12 k = r 12 k := rfl
    cases hb : bt wt k
    · simp only [Bool.false_eq_true, if_false, if_true, stp_n, e1]
    · simp only [if_true]
      rw [if_neg (by decide), rd_nI rfl hj (by decide), rd_nI rfl (show k < 8 by omega) (by decide), a4, a12]
      by_cases c : h 0 1 < q.2 + r 12 k
      · rw [if_pos c, if_pos c, stp_n, e1]
      · rw [if_neg c, if_neg c, rd_nI rfl hj (by decide), a6, wr_nI rfl hj (by decide)]
        have b1 : sS (laR r j q) 6 j (q.1 ||| ((1 : Int32) <<< (nI k &&& 31))) = laR r j (q.1 ||| ((1 : Int32) <<< (nI k &&& 31)), q.2) := by
          unfold laR
          rw [sS_upo (by decide), up_s, up_up, upd_upd]
        rw [b1, rd_nI rfl hj (by decide), rd_nI rfl (show k < 8 by omega) (by decide), wr_nI rfl hj (by decide), stp_n, e1]
        have b2 : laR r j (q.1 ||| ((1 : Int32) <<< (nI k &&& 31)), q.2) 4 j = q.2 := by show upd (r 4) j q.2 j = _; exact upd_s
        have b3 : laR r j (q.1 ||| ((1 : Int32) <<< (nI k &&& 31)), q.2) 12 k = r 12 k := rfl
        rw [b2, b3]
        have b4 : sS (laR r j (q.1 ||| ((1 : Int32) <<< (nI k &&& 31)), q.2)) 4 j (q.2 + r 12 k) = laR r j (q.1 ||| ((1 : Int32) <<< (nI k &&& 31)), q.2 + r 12 k) := by
          unfold laR
          rw [sS_up, upd_upd]
        rw [b4]
  · intro n
    show fX4_letAbsencesIn_9 h (n + 1) wt (nI j) (nI nl) _ = _
    rw [fX4_letAbsencesIn_9, if_pos (by rw [hl]; exact nI_le (Nat.le_refl _) (by omega))]
/-! ===== who gets out ===== -/
def loS (out gone : Int32) (hv ah : Nat → Int32) (v : Int32) : Nat → Int32
  | 0 => v
  | i + 1 => loS out gone hv ah v i - ((if bt out i then hv i else 0) + (if bt gone i then ah i else 0))
theorem loS_z (hv ah : Nat → Int32) (v : Int32) : ∀ i, loS 0 0 hv ah v i = v
  | 0 => rfl
  | i + 1 => by rw [loS, loS_z hv ah v i]; simp [bt_zero]
def loR (r : St) (j : Nat) (out gone v : Int32) : St := sS (sS (sS (sS (sS r 4 j v) 5 j (r 5 j &&& (out ^^^ (-1)))) 8 j (r 8 j ||| out)) 6 j (r 6 j &&& (gone ^^^ (-1)))) 7 j (r 7 j ||| gone)
theorem sS_self {t : St} {c j : Nat} : sS t c j (t c j) = t := by
  unfold sS
  rw [upd_self]
  exact up_self
theorem sS_self' {t : St} {c j : Nat} {v : Int32} (h : v = t c j) : sS t c j v = t := by rw [h]; exact sS_self
theorem sS_sS {t : St} {c j : Nat} {v w : Int32} : sS (sS t c j v) c j w = sS t c j w := by
  unfold sS
  rw [up_s, up_up, upd_upd]
theorem and_n0 (x : Int32) : x &&& ((0 : Int32) ^^^ (-1)) = x := by
  apply bt_ext
  intro k hk
  rw [bt_and, bt_not _ hk, bt_zero]
  simp
theorem loR_z (r : St) (j : Nat) : loR r j 0 0 (r 4 j) = r := by
  unfold loR
  rw [sS_self, and_n0, and_n0, or_z, or_z]
  rw [sS_self, sS_self, sS_self, sS_self]
theorem f_letOut_53 (h r : St) (out gone : Int32) {j : Nat} (hj : j < 45) : fX4_letOut_53 h 300 (nI j) out gone 0 r = some (loR r j out gone (loS out gone (h 7) (r 12) (r 4 j) 8)) := by
  have key := forP (fun n k s => fX4_letOut_53 h n (nI j) out gone (nI k) s) 8 (fun k => sS r 4 j (loS out gone (h 7) (r 12) (r 4 j) k)) (some (loR r j out gone (loS out gone (h 7) (r 12) (r 4 j) 8))) ?_ ?_ 300 (by omega)
  · have k2 : fX4_letOut_53 h 300 (nI j) out gone (nI 0) (sS r 4 j (r 4 j)) = _ := key
    rw [sS_self] at k2
    exact k2
  · intro n k hk
    show fX4_letOut_53 h (n + 1) (nI j) out gone (nI k) (sS r 4 j (loS out gone (h 7) (r 12) (r 4 j) k)) = fX4_letOut_53 h n (nI j) out gone (nI (k + 1)) (sS r 4 j (loS out gone (h 7) (r 12) (r 4 j) (k + 1)))
    generalize hq : loS out gone (h 7) (r 12) (r 4 j) k = q
    have hq1 : loS out gone (h 7) (r 12) (r 4 j) (k + 1) = q - ((if bt out k then h 7 k else 0) + (if bt gone k then r 12 k else 0)) := by rw [loS, hq]
    have c0 : ¬ (8 : Int32) ≤ nI k := nI_ge (b := 8) hk (by decide)
    rw [hq1, fX4_letOut_53, if_neg c0, rd_nI rfl hj (by decide), f_has _ (show k < 32 by omega), bd1_s, f_has _ (show k < 32 by omega), bd1_s]
    have e1 : nI k + 1 = nI (k + 1) := nI_1 k
    have a4 : sS r 4 j q 4 j = q := by rw [sS_s]; exact upd_s
    have a12 : sS r 4 j q 12 k = r 12 k := rfl
    cases hb : bt out k <;> cases hc : bt gone k
    · simp only [Bool.false_eq_true, if_false, if_true, stp_n, e1, a4]
      rw [chk_nI hj (by decide), ix_nI (by omega), sS_sS]
    · simp only [Bool.false_eq_true, if_false, if_true]
      rw [if_neg (by decide), rd_nI rfl (show k < 8 by omega) (by decide), wr_nI rfl hj (by decide), stp_n, e1, a4, a12, sS_sS]
    · simp only [Bool.false_eq_true, if_false, if_true]
      rw [if_neg (by decide), rd_nI rfl (show k < 8 by omega) (by decide), bd1_s, if_pos rfl, wr_nI rfl hj (by decide), stp_n, e1, a4, sS_sS]
    · simp only [if_true]
      rw [if_neg (by decide), rd_nI rfl (show k < 8 by omega) (by decide), bd1_s, if_neg (by decide), rd_nI rfl (show k < 8 by omega) (by decide), wr_nI rfl hj (by decide), stp_n, e1, a4, a12, sS_sS]
  · intro n
    show fX4_letOut_53 h (n + 1) (nI j) out gone (nI 8) _ = _
    generalize loS out gone (h 7) (r 12) (r 4 j) 8 = q
    rw [fX4_letOut_53, if_pos (by decide), rd_nI rfl hj (by decide), wr_nI rfl hj (by decide), rd_nI rfl hj (by decide), wr_nI rfl hj (by decide), rd_nI rfl hj (by decide), wr_nI rfl hj (by decide), rd_nI rfl hj (by decide), wr_nI rfl hj (by decide)]
    rfl
theorem f_letOut (h r : St) {j f : Nat} (hr : r 0 9 = nI (j + 1)) (hj : j < 45) (hf : f < 10) : fX4_letOut h r (nI f) = some (loR r j (r 5 j &&& h 14 f) (if f = 0 then r 6 j else 0) (loS (r 5 j &&& h 14 f) (if f = 0 then r 6 j else 0) (h 7) (r 12) (r 4 j) 8)) := by
  have hr2 : r 0 9 - 1 = nI j := by rw [hr]; exact nI_p j
  unfold fX4_letOut
  rw [stp_n, rd_nI hr2 hj (by decide), rd_nI rfl hf (by decide), stp_n, hr2]
  generalize r 5 j &&& h 14 f = out
  by_cases c : f = 0
  · rw [if_pos (by rw [c]; rfl), if_pos c, rd_nI rfl hj (by decide)]
    by_cases c1 : out = 0
    · rw [if_pos c1]
      by_cases c2 : r 6 j = 0
      · rw [if_pos c2, c1, c2, loS_z, loR_z]
      · rw [if_neg c2]; exact f_letOut_53 h r _ _ hj
    · rw [if_neg c1]; exact f_letOut_53 h r _ _ hj
  · have c0 : ¬ nI f = 0 := nI_ne0 (by omega) (by omega)
    rw [if_neg c0, if_neg c]
    by_cases c1 : out = 0
    · rw [if_pos c1, c1, loS_z, loR_z]
    · rw [if_neg c1]; exact f_letOut_53 h r _ _ hj
/-! ===== who gets in at a floor ===== -/
/-- behind i riders: who rides, how heavy all are, who was refused -/
def liS (wt lim : Int32) (hv : Nat → Int32) (a v f : Int32) : Nat → Int32 × Int32 × Int32
  | 0 => (a, v, f)
  | i + 1 => if bt wt i then (if lim < (liS wt lim hv a v f i).2.1 + hv i then ((liS wt lim hv a v f i).1, (liS wt lim hv a v f i).2.1, (liS wt lim hv a v f i).2.2 ||| ((1 : Int32) <<< (nI i &&& 31))) else ((liS wt lim hv a v f i).1 ||| ((1 : Int32) <<< (nI i &&& 31)), (liS wt lim hv a v f i).2.1 + hv i, (liS wt lim hv a v f i).2.2)) else liS wt lim hv a v f i
theorem liS_z (lim : Int32) (hv : Nat → Int32) (a v f : Int32) : ∀ i, liS 0 lim hv a v f i = (a, v, f)
  | 0 => rfl
  | i + 1 => by rw [liS, liS_z lim hv a v f i]; simp [bt_zero]
def liR (r : St) (j : Nat) (q : Int32 × Int32 × Int32) : St := sS (sS (sS r 5 j q.1) 4 j q.2.1) 9 j q.2.2
theorem sS_comm {t : St} {c d i j : Nat} {v w : Int32} (h : c ≠ d) : sS (sS t c i v) d j w = sS (sS t d j w) c i v := by
  funext x
  rw [sS_c, sS_c, sS_c, sS_c]
  by_cases h1 : x = c
  · subst h1
    rw [if_neg h, if_pos rfl, if_pos rfl, sS_c, if_neg h]
  · by_cases h2 : x = d
    · subst h2
      rw [if_pos rfl, sS_c, if_neg h1, if_neg h1, sS_s]
    · rw [if_neg h2, if_neg h1, if_neg h1, sS_o h2]
theorem liR_0 (r : St) (j : Nat) : liR r j (r 5 j, r 4 j, r 9 j) = r := by
  unfold liR
  rw [sS_self]
  show sS (sS r 4 j (r 4 j)) 9 j (r 9 j) = r
  rw [sS_self]
  exact sS_self
theorem liR_5 (r : St) (j : Nat) (q : Int32 × Int32 × Int32) (x : Int32) : sS (liR r j q) 5 j x = liR r j (x, q.2.1, q.2.2) := by
  unfold liR
  rw [sS_comm (c := 9) (d := 5) (by decide), sS_comm (c := 4) (d := 5) (by decide), sS_sS]
theorem liR_4 (r : St) (j : Nat) (q : Int32 × Int32 × Int32) (x : Int32) : sS (liR r j q) 4 j x = liR r j (q.1, x, q.2.2) := by
  unfold liR
  rw [sS_comm (c := 9) (d := 4) (by decide), sS_sS]
theorem liR_9 (r : St) (j : Nat) (q : Int32 × Int32 × Int32) (x : Int32) : sS (liR r j q) 9 j x = liR r j (q.1, q.2.1, x) := by
  unfold liR
  rw [sS_sS]
theorem liR_a5 (r : St) (j : Nat) (q : Int32 × Int32 × Int32) : liR r j q 5 j = q.1 := by
  unfold liR
  rw [sS_o (by decide), sS_o (by decide), sS_s]
  exact upd_s
theorem liR_a4 (r : St) (j : Nat) (q : Int32 × Int32 × Int32) : liR r j q 4 j = q.2.1 := by
  unfold liR
  rw [sS_o (by decide), sS_s]
  exact upd_s
theorem liR_a9 (r : St) (j : Nat) (q : Int32 × Int32 × Int32) : liR r j q 9 j = q.2.2 := by
  unfold liR
  rw [sS_s]
  exact upd_s
theorem f_letIn_41 (h r : St) (wt : Int32) {j nr : Nat} (hj : j < 45) (hn : h 0 2 = nI nr) (h8 : nr ≤ 8) : fX4_letIn_41 h 300 (nI j) wt 0 r = some (liR r j (liS wt (h 0 1) (h 7) (r 5 j) (r 4 j) (r 9 j) nr)) := by
  have key := forP (fun n k s => fX4_letIn_41 h n (nI j) wt (nI k) s) nr (fun k => liR r j (liS wt (h 0 1) (h 7) (r 5 j) (r 4 j) (r 9 j) k)) (some (liR r j (liS wt (h 0 1) (h 7) (r 5 j) (r 4 j) (r 9 j) nr))) ?_ ?_ 300 (by omega)
  · have k2 : fX4_letIn_41 h 300 (nI j) wt (nI 0) (liR r j (r 5 j, r 4 j, r 9 j)) = _ := key
    rw [liR_0] at k2
    exact k2
  · intro n k hk
    show fX4_letIn_41 h (n + 1) (nI j) wt (nI k) (liR r j (liS wt (h 0 1) (h 7) (r 5 j) (r 4 j) (r 9 j) k)) = fX4_letIn_41 h n (nI j) wt (nI (k + 1)) (liR r j (liS wt (h 0 1) (h 7) (r 5 j) (r 4 j) (r 9 j) (k + 1)))
    generalize hq : liS wt (h 0 1) (h 7) (r 5 j) (r 4 j) (r 9 j) k = q
    have hq1 : liS wt (h 0 1) (h 7) (r 5 j) (r 4 j) (r 9 j) (k + 1) = if bt wt k then (if h 0 1 < q.2.1 + h 7 k then (q.1, q.2.1, q.2.2 ||| ((1 : Int32) <<< (nI k &&& 31))) else (q.1 ||| ((1 : Int32) <<< (nI k &&& 31)), q.2.1 + h 7 k, q.2.2)) else q := by rw [liS, hq]
    rw [hq1, fX4_letIn_41, if_neg (by rw [hn]; exact nI_ge hk (by omega)), f_has _ (show k < 32 by omega), bd1_s]
    have e1 : nI k + 1 = nI (k + 1) := nI_1 k
    cases hb : bt wt k
    · simp only [Bool.false_eq_true, if_false, if_true, stp_n, e1]
    · simp only [if_true]
      rw [if_neg (by decide), rd_nI rfl hj (by decide), rd_nI rfl (show k < 8 by omega) (by decide), liR_a4]
      by_cases c : h 0 1 < q.2.1 + h 7 k
      · rw [if_pos c, if_pos c, rd_nI rfl hj (by decide), wr_nI rfl hj (by decide), stp_n, e1, liR_a9, liR_9]
      · rw [if_neg c, if_neg c, rd_nI rfl hj (by decide), wr_nI rfl hj (by decide), rd_nI rfl hj (by decide), rd_nI rfl (show k < 8 by omega) (by decide), wr_nI rfl hj (by decide), stp_n, e1, liR_a5, liR_5, liR_a4, liR_4]
  · intro n
    show fX4_letIn_41 h (n + 1) (nI j) wt (nI nr) _ = _
    rw [fX4_letIn_41, if_pos (by rw [hn]; exact nI_le (Nat.le_refl _) (by omega))]
theorem f_letIn (h r : St) {j f nr : Nat} (hr : r 0 9 = nI (j + 1)) (hj : j < 45) (hf : f < 10) (hn : h 0 2 = nI nr) (h8 : nr ≤ 8) : fX4_letIn h r (nI f) = some (liR r j (liS (h 13 f &&& ((r 5 j ||| r 8 j) ^^^ (-1))) (h 0 1) (h 7) (r 5 j) (r 4 j) (r 9 j) nr)) := by
  have hr2 : r 0 9 - 1 = nI j := by rw [hr]; exact nI_p j
  unfold fX4_letIn
  rw [stp_n, rd_nI rfl hf (by decide), rd_nI hr2 hj (by decide), rd_nI hr2 hj (by decide), stp_n, hr2]
  generalize h 13 f &&& ((r 5 j ||| r 8 j) ^^^ (-1)) = wt
  by_cases c : wt = 0
  · rw [if_pos c, c, liS_z, liR_0]
  · rw [if_neg c]; exact f_letIn_41 h r wt hj hn h8
