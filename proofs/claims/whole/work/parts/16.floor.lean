/-! ===== a halt at a floor: its parts ===== -/
theorem liS_mono (wt lim : Int32) (hv : Nat → Int32) (a v f : Int32) {k : Nat} (h : bt a k = true) : ∀ l, bt (liS wt lim hv a v f l).1 k = true := by
  intro l
  induction l with
  | zero => exact h
  | succ l ih =>
    rw [liS]
    by_cases c : bt wt l = true
    · rw [if_pos c]
      by_cases c2 : lim < (liS wt lim hv a v f l).2.1 + hv l
      · rw [if_pos c2]; exact ih
      · rw [if_neg c2]
        show bt (_ ||| _) k = true
        rw [bt_or, ih]; rfl
    · rw [if_neg c]; exact ih
theorem liS_e {wt lim : Int32} {hv hv' : Nat → Int32} {a v f : Int32} : ∀ {l : Nat}, (∀ k, k < l → bt wt k = true → hv k = hv' k) → liS wt lim hv a v f l = liS wt lim hv' a v f l := by
  intro l
  induction l with
  | zero => intro _; rfl
  | succ l ih =>
    intro h
    have e := ih (fun k hk => h k (by omega))
    rw [liS, liS, e]
    by_cases c : bt wt l = true
    · rw [if_pos c, if_pos c, h l (by omega) c]
    · rw [if_neg c, if_neg c]
/-- whom each step lets in, whom it refuses -/
theorem liS_bits (wt lim : Int32) (hv : Nat → Int32) (a v : Int32) {k : Nat} (hk : k < 32) : ∀ {l : Nat}, l ≤ 32 → bt (liS wt lim hv a v 0 l).1 k = (bt a k || (decide (k < l) && (bt wt k && !decide (lim < (liS wt lim hv a v 0 k).2.1 + hv k)))) ∧ bt (liS wt lim hv a v 0 l).2.2 k = (decide (k < l) && (bt wt k && decide (lim < (liS wt lim hv a v 0 k).2.1 + hv k))) := by
  intro l
  induction l with
  | zero => intro _; simp [liS, bt_zero]
  | succ l ih =>
    intro hl
    obtain ⟨i1, i2⟩ := ih (by omega)
    have lt : ¬ k = l → (k < l + 1 ↔ k < l) := fun h => by omega
    rw [liS]
    by_cases c : bt wt l = true
    · rw [if_pos c]
      by_cases c2 : lim < (liS wt lim hv a v 0 l).2.1 + hv l
      · rw [if_pos c2]
        refine ⟨?_, ?_⟩
        · show bt (liS wt lim hv a v 0 l).1 k = _
          rw [i1]
          by_cases e : k = l
          · subst e; simp [c2]
          · simp [lt e]
        · show bt ((liS wt lim hv a v 0 l).2.2 ||| _) k = _
          rw [bt_or, i2, bt_one (show l < 32 by omega)]
          by_cases e : k = l
          · subst e; simp [c, c2]
          · simp [lt e, e]
      · rw [if_neg c2]
        refine ⟨?_, ?_⟩
        · show bt ((liS wt lim hv a v 0 l).1 ||| _) k = _
          rw [bt_or, i1, bt_one (show l < 32 by omega)]
          by_cases e : k = l
          · subst e; simp [c, c2]
          · simp [lt e, e]
        · show bt (liS wt lim hv a v 0 l).2.2 k = _
          rw [i2]
          by_cases e : k = l
          · subst e; simp [c2]
          · simp [lt e]
    · rw [if_neg c]
      have c' : bt wt l = false := by simpa using c
      refine ⟨?_, ?_⟩
      · rw [i1]
        by_cases e : k = l
        · subst e; simp [c']
        · simp [lt e]
      · rw [i2]
        by_cases e : k = l
        · subst e; simp [c']
        · simp [lt e]
theorem loS_ld (out gone : Int32) (hv ah : Nat → Int32) (v : Int32) : ∀ n, loS out gone hv ah v n = v - ldS out gone hv ah n := by
  intro n
  induction n with
  | zero => rw [loS, ldS]; simp
  | succ n ih =>
    rw [loS, ldS, ih]
    generalize (if bt out n = true then hv n else 0) = x
    generalize (if bt gone n = true then ah n else 0) = y
    generalize ldS out gone hv ah n = A
    have e : ∀ a b c : Int32, a - b - c = a - (b + c) := fun a b c => by
      rw [Int32.sub_eq_add_neg, Int32.sub_eq_add_neg, Int32.sub_eq_add_neg, Int32.neg_add, Int32.add_assoc, Int32.sub_eq_add_neg]
    rw [e, Int32.add_assoc]
theorem ldS_split {rid ab rid1 ab1 out gone : Int32} (hv ah : Nat → Int32) : ∀ {n : Nat}, (∀ k, k < n → bt rid k = (bt rid1 k || bt out k) ∧ ¬ (bt rid1 k = true ∧ bt out k = true)) → (∀ k, k < n → bt ab k = (bt ab1 k || bt gone k) ∧ ¬ (bt ab1 k = true ∧ bt gone k = true)) → ldS rid ab hv ah n = ldS rid1 ab1 hv ah n + ldS out gone hv ah n := by
  intro n
  induction n with
  | zero => intro _ _; rw [ldS, ldS, ldS]; simp
  | succ n ih =>
    intro h1 h2
    rw [ldS, ldS, ldS, ih (fun k hk => h1 k (by omega)) (fun k hk => h2 k (by omega)), (h1 n (by omega)).1, (h2 n (by omega)).1]
    have n1 := (h1 n (by omega)).2
    have n2 := (h2 n (by omega)).2
    generalize ldS rid1 ab1 hv ah n = A
    generalize ldS out gone hv ah n = B
    generalize hv n = x
    generalize ah n = y
    have sw : ∀ a b c : Int32, a + b + c = a + c + b := add_sw
    cases c1 : bt rid1 n <;> cases c2 : bt out n <;> cases c3 : bt ab1 n <;> cases c4 : bt gone n <;> simp_all
    all_goals ac_rfl
/-- the first who are refused, and when -/
theorem lowS_e {x y : Int32} : ∀ {n : Nat}, (∀ k, k < n → bt x k = bt y k) → lowS x n = lowS y n := by
  intro n
  induction n with
  | zero => intro _; rfl
  | succ n ih => intro h; rw [lowS, lowS, ih (fun k hk => h k (by omega)), h n (by omega)]
theorem lowS_none {x : Int32} : ∀ {n : Nat}, (∀ k, k < n → bt x k = false) → lowS x n = -1 := by
  intro n
  induction n with
  | zero => intro _; rfl
  | succ n ih => intro h; rw [lowS, ih (fun k hk => h k (by omega)), h n (by omega)]; rfl
theorem nI_nm {n : Nat} (h : n < 2 ^ 31) : ¬ nI n = -1 := fun z => by
  have h1 := nI_toInt h
  rw [z] at h1
  have e2 : (-1 : Int32).toInt = -1 := by decide
  omega
theorem lowS_some {x : Int32} : ∀ {n : Nat}, n ≤ 32 → (∃ k, k < n ∧ bt x k = true) → ¬ lowS x n = -1 := by
  intro n
  induction n with
  | zero => rintro _ ⟨k, h, _⟩; omega
  | succ n ih =>
    rintro hn ⟨k, hk, hb⟩
    rw [lowS]
    by_cases c : lowS x n = -1
    · rw [if_pos c]
      have : k = n := by
        by_cases e : k = n
        · exact e
        · exact absurd c (ih (by omega) ⟨k, by omega, hb⟩)
      subst this
      rw [hb, if_pos rfl]
      exact nI_nm (by omega)
    · rw [if_neg c]; exact c
theorem bt_ne {x : Int32} (h : ¬ x = 0) : ∃ k, k < 32 ∧ bt x k = true := by
  by_cases c : ∃ k, k < 32 ∧ bt x k = true
  · exact c
  · exfalso
    apply h
    apply bt_ext
    intro k hk
    rw [bt_zero]
    cases e : bt x k
    · rfl
    · exact absurd ⟨k, hk, e⟩ c
theorem fuS_v (wt lim : Int32) (hv : Nat → Int32) (a v w fa fw : Int32) (hw : ¬ w = -1) : ∀ {n : Nat}, n ≤ 8 → fuS wt lim hv a v w fa fw n = if fa = -1 then (if (liS wt lim hv a v 0 n).2.2 = 0 then (fa, fw) else (w, lowS (liS wt lim hv a v 0 n).2.2 n)) else (fa, fw) := by
  intro n
  induction n with
  | zero =>
    intro _
    rw [fuS, liS]
    by_cases c : fa = -1
    · rw [if_pos c, if_pos rfl]
    · rw [if_neg c]
  | succ n ih =>
    intro hn
    have ih := ih (by omega)
    have hb := fun k (hk : k < 32) => (liS_bits wt lim hv a v hk (l := n) (by omega)).2
    have hb1 := fun k (hk : k < 32) => (liS_bits wt lim hv a v hk (l := n + 1) (by omega)).2
    generalize hR : (liS wt lim hv a v 0 n).2.2 = R at *
    generalize hR1 : (liS wt lim hv a v 0 (n + 1)).2.2 = R1 at *
    have below : ∀ k, k < n → bt R1 k = bt R k := fun k hk => by
      rw [hb k (by omega), hb1 k (by omega)]
      simp [hk, show k < n + 1 by omega]
    have atn : bt R n = false := by rw [hb n (by omega)]; simp
    have rz : ¬ R = 0 → ¬ lowS R n = -1 := fun h => by
      obtain ⟨k, hk, hk2⟩ := bt_ne h
      refine lowS_some (by omega) ⟨k, ?_, hk2⟩
      rw [hb k hk] at hk2
      simp at hk2
      exact hk2.1
    rw [fuS]
    by_cases c : bt wt n = true ∧ lim < (liS wt lim hv a v 0 n).2.1 + hv n
    · rw [if_pos c]
      have atn1 : bt R1 n = true := by rw [hb1 n (by omega)]; simp [c.1, c.2]
      have r1 : ¬ R1 = 0 := fun h => by rw [h, bt_zero] at atn1; cases atn1
      rw [ih]
      by_cases cf : fa = -1
      · rw [if_pos cf, if_pos cf, if_neg r1]
        by_cases cR : R = 0
        · rw [if_pos cR, if_pos cf]
          have e1 : lowS R1 n = -1 := by rw [lowS_e below, cR]; exact lowS_none (fun k _ => bt_zero k)
          rw [lowS, e1, if_pos rfl, atn1, if_pos rfl]
        · rw [if_neg cR, if_neg hw]
          have e1 : lowS R1 n = lowS R n := lowS_e below
          rw [lowS, e1, if_neg (rz cR)]
      · rw [if_neg cf, if_neg cf, if_neg cf]
    · rw [if_neg c, ih]
      have atn1 : bt R1 n = false := by
        rw [hb1 n (by omega)]
        cases c1 : bt wt n
        · simp
        · have : ¬ lim < (liS wt lim hv a v 0 n).2.1 + hv n := fun h => c ⟨c1, h⟩
          simp [this]
      have er : R1 = R := by
        apply bt_ext
        intro k hk
        by_cases e : k < n
        · exact below k e
        · by_cases e2 : k = n
          · subst e2; rw [atn1, atn]
          · rw [hb k hk, hb1 k hk]; simp [show ¬ k < n by omega, show ¬ k < n + 1 by omega]
      rw [er]
      by_cases cf : fa = -1
      · rw [if_pos cf, if_pos cf]
        by_cases cR : R = 0
        · rw [if_pos cR, if_pos cR]
        · rw [if_neg cR, if_neg cR, lowS, if_neg (rz cR)]
      · rw [if_neg cf, if_neg cf]
def Inv (r t : St) (j nr : Nat) : Prop := (∀ q, q < nr → t 27 q = -1 ∨ bt (t 0 20) q = true) ∧ (∀ q, q < nr → bt (r 8 j) q = false → t 28 q = -1) ∧ (∀ k, k < 32 → bt (r 5 j) k = true → bt (r 8 j) k = false) ∧ (t 0 29 = -1 ↔ t 0 30 = -1)
/-- the masks behind those who get out: the class', the reference's -/
theorem rid1_eq {h r t : St} {j f nr nl hf : Nat} (hH : Hou h t nr nl hf) (hf9 : f < 10) (e : t 0 18 = r 5 j) : rdS (t 0 18) (nI f) (t 6) nr = r 5 j &&& (outM h r j f ^^^ (-1)) := by
  apply bt_ext
  intro k hk
  have h8 := hH.1.2.2
  rw [rdS_b _ _ _ hk (by omega), bt_and, bt_not _ hk, e]
  unfold outM
  rw [bt_and, (hH.2.2.2.2.2.2.1 f k hf9 hk).2]
  cases bt (r 5 j) k <;> simp
theorem gone_eq {r t : St} {j f : Nat} (e : t 0 19 = r 6 j) : (if f = 0 then 0 else t 0 19) = r 6 j &&& (goneM r j f ^^^ (-1)) := by
  unfold goneM
  by_cases c : f = 0
  · rw [if_pos c, if_pos c]
    apply bt_ext
    intro k hk
    rw [bt_zero, bt_and, bt_not _ hk]
    cases bt (r 6 j) k <;> simp
  · rw [if_neg c, if_neg c, and_n0, e]
