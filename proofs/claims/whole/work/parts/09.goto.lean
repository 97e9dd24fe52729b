/-! ===== from floor to floor: the class ===== -/
/-- the row of a halt at HALF -/
def halfR (h r : St) (j : Nat) (s p wt : Int32) (nl : Nat) : St := laR (arR r j s p) (j + 1) (laS wt (h 0 1) (r 12) (r 6 j) (r 4 j) nl)
/-- the row of a halt at a floor -/
def outM (h r : St) (j f : Nat) : Int32 := r 5 j &&& h 14 f
def goneM (r : St) (j f : Nat) : Int32 := if f = 0 then r 6 j else 0
def haltR1 (h r : St) (j : Nat) (s : Int32) (f : Nat) : St := loR (arR r j s (nI (2 * f))) (j + 1) (outM h r j f) (goneM r j f) (loS (outM h r j f) (goneM r j f) (h 7) (r 12) (r 4 j) 8)
def haltR (h r : St) (j : Nat) (s : Int32) (f nr : Nat) : St := liR (haltR1 h r j s f) (j + 1) (liS (h 13 f &&& ((haltR1 h r j s f 5 (j + 1) ||| haltR1 h r j s f 8 (j + 1)) ^^^ (-1))) (h 0 1) (h 7) (haltR1 h r j s f 5 (j + 1)) (haltR1 h r j s f 4 (j + 1)) (haltR1 h r j s f 9 (j + 1)) nr)
/-- what a new row holds at first -/
theorem arR_new (r : St) (j : Nat) (s p : Int32) : arR r j s p 2 (j + 1) = s ∧ arR r j s p 3 (j + 1) = p ∧ arR r j s p 4 (j + 1) = r 4 j ∧ arR r j s p 5 (j + 1) = r 5 j ∧ arR r j s p 6 (j + 1) = r 6 j ∧ arR r j s p 7 (j + 1) = r 7 j ∧ arR r j s p 8 (j + 1) = r 8 j ∧ arR r j s p 9 (j + 1) = 0 ∧ arR r j s p 0 9 = nI (j + 2) := by
  refine ⟨?_, ?_, ?_, ?_, ?_, ?_, ?_, ?_, ?_⟩
  · show upd (r 2) (j + 1) s (j + 1) = s; exact upd_s
  · show upd (r 3) (j + 1) p (j + 1) = p; exact upd_s
  · show upd (r 4) (j + 1) (r 4 j) (j + 1) = _; exact upd_s
  · show upd (r 5) (j + 1) (r 5 j) (j + 1) = _; exact upd_s
  · show upd (r 6) (j + 1) (r 6 j) (j + 1) = _; exact upd_s
  · show upd (r 7) (j + 1) (r 7 j) (j + 1) = _; exact upd_s
  · show upd (r 8) (j + 1) (r 8 j) (j + 1) = _; exact upd_s
  · show upd (r 9) (j + 1) 0 (j + 1) = _; exact upd_s
  · show upd (r 0) 9 (nI (j + 2)) 9 = _; exact upd_s
theorem f_halt (h r : St) (s : Int32) {j f nr : Nat} (hr : r 0 9 = nI (j + 1)) (hj : j + 1 < 45) (hf : f < 10) (hn : h 0 2 = nI nr) (h8 : nr ≤ 8) : bd1 (fX4_addRow h r s (nI (2 * f))) (fun r14 => bd1 (fX4_letOut h r14 (nI f)) (fun r16 => bd1 (fX4_letIn h r16 (nI f)) (fun r18 => some r18))) = some (haltR h r j s f nr) := by
  rw [f_addRow h r s _ hr hj, bd1_s]
  obtain ⟨-, -, a4, a5, a6, -, -, -, a0⟩ := arR_new r j s (nI (2 * f))
  have e1 := f_letOut h (arR r j s (nI (2 * f))) (j := j + 1) (f := f) a0 hj hf
  rw [a5, a6, a4] at e1
  rw [show arR r j s (nI (2 * f)) 12 = r 12 from rfl] at e1
  rw [e1, bd1_s]
  have e2 := f_letIn h (haltR1 h r j s f) (j := j + 1) (f := f) (nr := nr) a0 hj hf hn h8
  have e3 : fX4_letIn h (loR (arR r j s (nI (2 * f))) (j + 1) (r 5 j &&& h 14 f) (if f = 0 then r 6 j else 0) (loS (r 5 j &&& h 14 f) (if f = 0 then r 6 j else 0) (h 7) (r 12) (r 4 j) 8)) (nI f) = _ := e2
  rw [e3, bd1_s]
  rfl
/-- the way passes HALF, and how many steps before it -/
def passes (fl st hf : Nat) : Bool := (decide (fl ≤ hf) && decide (hf < st)) || (decide (st ≤ hf) && decide (hf < fl))
def before (fl st hf : Nat) : Nat := if fl ≤ hf then hf - fl else fl - hf - 1
theorem nI_lt' {a b : Nat} (ha : a < 2 ^ 31) (hb : b < 2 ^ 31) : (nI a < nI b) = (a < b) := propext (nI_ltI ha hb)
theorem nI_le' {a b : Nat} (ha : a < 2 ^ 31) (hb : b < 2 ^ 31) : (nI a ≤ nI b) = (a ≤ b) := propext (nI_leI ha hb)
theorem f_passHalf_no (h r : St) {fl st hf : Nat} (hh : h 0 0 = nI hf) (h1 : fl < 10) (h2 : st < 10) (h3 : hf < 10) (hp : passes fl st hf = false) : fX4_passHalf h r (nI fl) (nI st) = some (0, r) := by
  unfold fX4_passHalf
  rw [stp_n, hh]
  simp only [nI_lt' (show hf < 2 ^ 31 by omega) (show fl < 2 ^ 31 by omega), nI_lt' (show hf < 2 ^ 31 by omega) (show st < 2 ^ 31 by omega), nI_le' (show fl < 2 ^ 31 by omega) (show hf < 2 ^ 31 by omega), nI_le' (show st < 2 ^ 31 by omega) (show hf < 2 ^ 31 by omega)]
  simp only [passes, Bool.or_eq_false_iff, Bool.and_eq_false_iff, decide_eq_false_iff_not] at hp
  by_cases c1 : hf < fl
  · rw [if_pos c1]
    have c2 : hf < st := by omega
    rw [if_pos c2]
  · rw [if_neg c1]
    have c2 : st ≤ hf := by omega
    have c3 : fl ≤ hf := by omega
    have c4 : ¬ hf < st := by omega
    rw [if_pos c2, if_neg c4, if_pos c3]
theorem f_passHalf_yes (h r : St) (wt : Int32) {fl st hf j w nl : Nat} (hh : h 0 0 = nI hf) (h1 : fl < 10) (h2 : st < 10) (h3 : hf < 10) (hp : passes fl st hf = true) (hr : r 0 9 = nI (j + 1)) (hj : j + 1 < 45) (hw : r 2 j = nI w) (hw2 : w < 1000) (hl : h 0 3 = nI nl) (h8 : nl ≤ 8) (hwt : fX4_waitingBy h r (nI (w + before fl st hf)) = some wt) : fX4_passHalf h r (nI fl) (nI st) = if wt = 0 then some (0, r) else some (1, halfR h r j (nI (w + before fl st hf + 1)) (nI (2 * hf + 1)) wt nl) := by
  have hr2 : r 0 9 - 1 = nI j := by rw [hr]; exact nI_p j
  have tail : ∀ x, x = nI (w + before fl st hf) → bd1 (fX4_waitingBy h r x) (fun r8 => if r8 = 0 then (some ((0 : Int32), r)) else (bd1 (fX4_addRow h r (x + 1) (((2 : Int32) * nI hf) + 1)) (fun r11 => bd1 (fX4_letAbsencesIn h r11 r8) (fun r13 => some (1, r13))))) = if wt = 0 then some (0, r) else some (1, halfR h r j (nI (w + before fl st hf + 1)) (nI (2 * hf + 1)) wt nl) := by
    intro x hx
    rw [hx, hwt, bd1_s]
    by_cases c : wt = 0
    · rw [if_pos c, if_pos c]
    · rw [if_neg c, if_neg c]
      have e1 : (2 : Int32) * nI hf + 1 = nI (2 * hf + 1) := by
        rw [show (2 : Int32) = nI 2 from rfl, pk_mul, nI_1]
      rw [e1, nI_1, f_addRow h r _ _ hr hj, bd1_s]
      obtain ⟨-, -, a4, -, a6, -, -, -, a0⟩ := arR_new r j (nI (w + before fl st hf + 1)) (nI (2 * hf + 1))
      have e2 := f_letAbsencesIn h (arR r j (nI (w + before fl st hf + 1)) (nI (2 * hf + 1))) wt (j := j + 1) a0 hj hl h8
      rw [a4, a6] at e2
      rw [e2, bd1_s]
      rfl
  unfold fX4_passHalf
  rw [stp_n, hh]
  simp only [nI_lt' (show hf < 2 ^ 31 by omega) (show fl < 2 ^ 31 by omega), nI_lt' (show hf < 2 ^ 31 by omega) (show st < 2 ^ 31 by omega), nI_le' (show fl < 2 ^ 31 by omega) (show hf < 2 ^ 31 by omega), nI_le' (show st < 2 ^ 31 by omega) (show hf < 2 ^ 31 by omega)]
  simp only [passes, Bool.or_eq_true, Bool.and_eq_true, decide_eq_true_eq] at hp
  by_cases c1 : hf < fl
  · have c2 : ¬ hf < st := by omega
    have c3 : ¬ fl ≤ hf := by omega
    rw [if_pos c1, if_neg c2, if_neg c3, rd_nI hr2 (by omega) (by decide), stp_n]
    refine tail _ ?_
    have e1 : nI fl - nI hf - 1 = nI (fl - hf - 1) := by
      rw [pk_sub (by omega)]
      obtain ⟨d, hd⟩ : ∃ d, fl - hf = d + 1 := ⟨fl - hf - 1, by omega⟩
      rw [hd, nI_p]
      rfl
    rw [hw, e1, nI_add]
    unfold before
    rw [if_neg c3]
  · have c2 : ¬ st ≤ hf := by omega
    have c3 : fl ≤ hf := by omega
    have c4 : hf < st := by omega
    rw [if_neg c1, if_neg c2, if_pos c4, rd_nI hr2 (by omega) (by decide), stp_n]
    refine tail _ ?_
    rw [hw, pk_sub (by omega), nI_add]
    unfold before
    rw [if_pos c3]
def far (fl st : Nat) : Nat := if fl ≤ st then st - fl else fl - st
theorem far_fin : ∀ a b : Fin 10, (if (0 : Int32) ≤ nI a.val - nI b.val then nI a.val - nI b.val else 0 - (nI a.val - nI b.val)) = nI (far b.val a.val) := by decide
theorem f_goTo (h r : St) (wt : Int32) {fl st hf j w nl nr : Nat} (hh : h 0 0 = nI hf) (h1 : fl < 10) (h2 : st < 10) (h3 : hf < 10) (hr : r 0 9 = nI (j + 1)) (hj : j + 2 < 45) (hw : r 2 j = nI w) (hw2 : w < 1000) (hpl : r 3 j = nI (2 * fl)) (hl : h 0 3 = nI nl) (h8 : nl ≤ 8) (hn : h 0 2 = nI nr) (h9 : nr ≤ 8) (hwt : fX4_waitingBy h r (nI (w + before fl st hf)) = some wt) :
    fX4_goTo h r (nI st) = some (if passes fl st hf = true ∧ wt ≠ 0 then haltR h (halfR h r j (nI (w + before fl st hf + 1)) (nI (2 * hf + 1)) wt nl) (j + 1) (nI (w + far fl st + 2)) st nr else haltR h r j (nI (w + far fl st + 1)) st nr) := by
  have hr2 : r 0 9 - 1 = nI j := by rw [hr]; exact nI_p j
  unfold fX4_goTo
  have c1 : ¬ nI st < 0 := nI_pos (by omega)
  have c2 : ¬ (10 : Int32) ≤ nI st := nI_ge (b := 10) h2 (by decide)
  have c3 : r 0 9 + 2 ≤ 45 := by
    rw [hr, show (2 : Int32) = nI 2 from rfl, nI_add, show (45 : Int32) = nI 45 from rfl]
    exact nI_le (by omega) (by decide)
  rw [if_neg c1, if_neg c2, if_pos c3, stp_n, hr2, rd_nI rfl (show j < 45 by omega) (by decide), hpl, stp_n]
  have e1 : nI (2 * fl) / 2 = nI fl := by
    rw [show (2 : Int32) = nI 2 from rfl, pk_div (by omega) (by decide) (by decide)]
    congr 1
    omega
  rw [e1, rd_nI rfl (show j < 45 by omega) (by decide), hw, stp_n]
  have e2 := far_fin ⟨st, h2⟩ ⟨fl, h1⟩
  simp only at e2
  rw [e2, nI_add]
  have e3 : (2 : Int32) * nI st = nI (2 * st) := by rw [show (2 : Int32) = nI 2 from rfl, pk_mul]
  rw [e3]
  have e4 : nI (w + far fl st) + 0 + 1 = nI (w + far fl st + 1) := by rw [Int32.add_zero, nI_1]
  have e5 : nI (w + far fl st) + 1 + 1 = nI (w + far fl st + 2) := by rw [nI_1, nI_1]
  cases hp : passes fl st hf
  · rw [f_passHalf_no h r hh h1 h2 h3 hp, bd2_s, e4, f_halt h r _ hr (by omega) h2 hn h9]
    simp
  · rw [f_passHalf_yes h r wt hh h1 h2 h3 hp hr (by omega) hw hw2 hl h8 hwt]
    by_cases c : wt = 0
    · rw [if_pos c, bd2_s, e4, f_halt h r _ hr (by omega) h2 hn h9]
      simp [c]
    · rw [if_neg c, bd2_s, e5]
      have a0 : halfR h r j (nI (w + before fl st hf + 1)) (nI (2 * hf + 1)) wt nl 0 9 = nI (j + 1 + 1) := (arR_new r j (nI (w + before fl st hf + 1)) (nI (2 * hf + 1))).2.2.2.2.2.2.2.2
      rw [f_halt h _ _ a0 (by omega) h2 hn h9]
      simp [c]
