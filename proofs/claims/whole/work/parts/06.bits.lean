/-! ===== numbers and bits ===== -/
theorem li (n : Nat) : (OfNat.ofNat n : Int32) = nI n := rfl
def bt (x : Int32) (k : Nat) : Bool := x.toBitVec.getLsbD k
theorem bt_or (x y : Int32) (k : Nat) : bt (x ||| y) k = (bt x k || bt y k) := by simp [bt]
theorem bt_and (x y : Int32) (k : Nat) : bt (x &&& y) k = (bt x k && bt y k) := by simp [bt]
theorem bt_zero (k : Nat) : bt 0 k = false := by simp [bt]
theorem bt_not (x : Int32) {k : Nat} (hk : k < 32) : bt (x ^^^ (-1)) k = !bt x k := by
  have h : (-1 : Int32).toBitVec = BitVec.allOnes 32 := by decide
  simp [bt, h, hk]
theorem bt_ge (x : Int32) {k : Nat} (hk : 32 ≤ k) : bt x k = false := by
  unfold bt
  exact BitVec.getLsbD_of_ge _ _ hk
theorem bt_ext {x y : Int32} (h : ∀ k, k < 32 → bt x k = bt y k) : x = y := by
  apply Int32.toBitVec_inj.mp
  apply BitVec.eq_of_getLsbD_eq
  intro i hi
  exact h i hi
theorem sh_amt : ∀ k : Fin 32, ((nI k.val &&& 31 : Int32).toBitVec.smod 32) = BitVec.ofNat 32 k.val := by decide
theorem bt_one {j k : Nat} (hj : j < 32) : bt (1 <<< (nI j &&& 31)) k = decide (k = j) := by
  have h := sh_amt ⟨j, hj⟩
  simp only at h
  unfold bt
  rw [Int32.toBitVec_shiftLeft, h]
  have h1 : (1 : Int32).toBitVec = 1#32 := rfl
  rw [h1]
  simp only [BitVec.shiftLeft_eq', BitVec.toNat_ofNat, BitVec.getLsbD_shiftLeft, BitVec.getLsbD_one]
  have hm : j % 2 ^ 32 = j := Nat.mod_eq_of_lt (by omega)
  rw [hm]
  by_cases c : k = j
  · subst c; simp [hj]
  · by_cases c2 : k < j
    · simp [c, c2]
    · have : ¬ (k - j = 0) := by omega
      simp [c, this]
theorem bt_get (x : Int32) {k : Nat} (hk : k < 32) : ((x >>> (nI k &&& 31)) &&& 1) = if bt x k then 1 else 0 := by
  have h := sh_amt ⟨k, hk⟩
  simp only at h
  apply bt_ext
  intro i hi
  rw [bt_and]
  have e1 : bt 1 i = decide (i = 0) := by
    have h0 : ((1 : Int32) <<< (nI 0 &&& 31)) = 1 := by decide
    have h1 := bt_one (j := 0) (k := i) (by decide)
    rw [h0] at h1
    exact h1
  rw [e1]
  have e2 : bt (x >>> (nI k &&& 31)) 0 = bt x k := by
    unfold bt
    rw [Int32.toBitVec_shiftRight, h]
    simp only [BitVec.sshiftRight_eq', BitVec.toNat_ofNat]
    have hm : k % 2 ^ 32 = k := Nat.mod_eq_of_lt (by omega)
    rw [hm, BitVec.getLsbD_sshiftRight]
    simp [hk]
  by_cases c : i = 0
  · subst c
    rw [e2]
    cases bt x k
    · simp [bt_zero]
    · simp [e1]
  · cases bt x k
    · simp [c, bt_zero]
    · simp [c, e1]
theorem f_isIn (x : Int32) {k : Nat} (hk : k < 32) : fX9_isIn x (nI k) = some (if bt x k then 1 else 0) := by
  unfold fX9_isIn
  rw [bt_get x hk]
  cases bt x k <;> rfl
theorem f_has (x : Int32) {k : Nat} (hk : k < 32) : fX8_has x (nI k) = some (if bt x k then 1 else 0) := by
  unfold fX8_has
  rw [bt_get x hk]
  cases bt x k <;> rfl
theorem ix_nI {n : Nat} (h : n < 2 ^ 31) : ix (nI n) = n := nI_clamp h
theorem chk_nI {β : Type} {k n : Nat} {x : Option β} (h : k < n) (hn : n < 2 ^ 31) : chk (nI k) n x = x := by
  unfold chk
  rw [if_neg (vp_in_nI h hn)]
theorem stp_n {α β : Type} (x : α) (k : α → Option β) : stp x k = k x := rfl
theorem bd1_s {α β : Type} {a : α} {k : α → Option β} : bd1 (some a) k = k a := rfl
theorem bd2_s {α1 α2 β : Type} {a : α1} {b : α2} {k : α1 → α2 → Option β} : bd2 (some (a, b)) k = k a b := rfl
theorem bd3_s {α1 α2 α3 β : Type} {a : α1} {b : α2} {c : α3} {k : α1 → α2 → α3 → Option β} : bd3 (some (a, b, c)) k = k a b c := rfl
theorem bd4_s {α1 α2 α3 α4 β : Type} {a : α1} {b : α2} {c : α3} {d : α4} {k : α1 → α2 → α3 → α4 → Option β} : bd4 (some (a, b, c, d)) k = k a b c d := rfl
theorem sS_c (t : St) (c j : Nat) (v : Int32) (c' : Nat) : sS t c j v c' = if c' = c then upd (t c) j v else t c' := rfl
theorem sS_o {t : St} {c j : Nat} {v : Int32} {c' : Nat} (h : c' ≠ c) : sS t c j v c' = t c' := by rw [sS_c, if_neg h]
theorem sS_s {t : St} {c j : Nat} {v : Int32} : sS t c j v c = upd (t c) j v := by rw [sS_c, if_pos rfl]
theorem upd_s {f : Nat → Int32} {k : Nat} {x : Int32} : upd f k x k = x := pk_us
theorem upd_o {f : Nat → Int32} {k j : Nat} {x : Int32} (h : j ≠ k) : upd f k x j = f j := pk_un h
theorem wr_nI {β : Type} {w n : Nat} {x : Int32} {t : St} {c : Nat} {v : Int32} {k : St → Option β} (hx : x = nI w) (h : w < n) (hn : n < 2 ^ 31) : chk x n (stp (sS t c (ix x) v) k) = k (sS t c w v) := by
  rw [hx, chk_nI h hn, stp_n, ix_nI (by omega)]
theorem rd_nI {β : Type} {w n : Nat} {x : Int32} {f : Nat → Int32} {k : Int32 → Option β} (hx : x = nI w) (h : w < n) (hn : n < 2 ^ 31) : chk x n (stp (f (ix x)) k) = k (f w) := by
  rw [hx, chk_nI h hn, stp_n, ix_nI (by omega)]
/-- a loop whose state behind k rounds is known -/
theorem forP {S R : Type} (F : Nat → Nat → S → Option R) (N : Nat) (Φ : Nat → S) (o : Option R) (hs : ∀ n k, k < N → F (n + 1) k (Φ k) = F n (k + 1) (Φ (k + 1))) (he : ∀ n, F (n + 1) N (Φ N) = o) : ∀ n, N < n → F n 0 (Φ 0) = o := by
  have h : ∀ d k n, k + d = N → d < n → F n k (Φ k) = o := by
    intro d
    induction d with
    | zero =>
      intro k n hk hn
      obtain ⟨n, rfl⟩ : ∃ x, n = x + 1 := ⟨n - 1, by omega⟩
      have : k = N := by omega
      subst this
      exact he n
    | succ d ih =>
      intro k n hk hn
      obtain ⟨n, rfl⟩ : ∃ x, n = x + 1 := ⟨n - 1, by omega⟩
      rw [hs n k (by omega)]
      exact ih (k + 1) n (by omega) (by omega)
  intro n hn
  exact h N 0 n (by omega) hn
/-- .. beginning with i rounds done -/
theorem forQ {S R : Type} (F : Nat → Nat → S → Option R) (i N : Nat) (hi : i ≤ N) (Φ : Nat → S) (o : Option R) (hs : ∀ n k, i ≤ k → k < N → F (n + 1) k (Φ k) = F n (k + 1) (Φ (k + 1))) (he : ∀ n, F (n + 1) N (Φ N) = o) : ∀ n, N - i < n → F n i (Φ i) = o := by
  have h : ∀ d k n, k + d = N → i ≤ k → d < n → F n k (Φ k) = o := by
    intro d
    induction d with
    | zero =>
      intro k n hk hik hn
      obtain ⟨n, rfl⟩ : ∃ x, n = x + 1 := ⟨n - 1, by omega⟩
      have : k = N := by omega
      subst this
      exact he n
    | succ d ih =>
      intro k n hk hik hn
      obtain ⟨n, rfl⟩ : ∃ x, n = x + 1 := ⟨n - 1, by omega⟩
      rw [hs n k hik (by omega)]
      exact ih (k + 1) n (by omega) (by omega) (by omega)
  intro n hn
  exact h (N - i) i n (by omega) (by omega) hn
/-! ===== the reference's load ===== -/
def ldS (rid abs : Int32) (hv ah : Nat → Int32) : Nat → Int32
  | 0 => 0
  | n + 1 => (ldS rid abs hv ah n + (if bt rid n then hv n else 0)) + (if bt abs n then ah n else 0)
def ahM (t : St) (k : Nat) : Int32 := t 4 (ix (t 9 k)) / 2
def ldM (t : St) : Int32 := ldS (t 0 18) (t 0 19) (t 4) (ahM t) 8
theorem f_load (t : St) (h : ∀ k, k < 8 → bt (t 0 19) k = true → ∃ w, w < 9 ∧ t 9 k = nI w) : fX9_load t = some (ldM t) := by
  refine forP (fun n k s => fX9_load_4 t n s (nI k)) 8 (fun k => ldS (t 0 18) (t 0 19) (t 4) (ahM t) k) _ ?_ ?_ 300 (by decide)
  · intro n k hk
    show fX9_load_4 t (n + 1) (ldS _ _ _ _ k) (nI k) = fX9_load_4 t n (ldS _ _ _ _ (k + 1)) (nI (k + 1))
    rw [fX9_load_4]
    have c0 : ¬ (8 : Int32) ≤ nI k := nI_ge (b := 8) hk (by decide)
    have hk8 : k < 32 := by omega
    simp only [if_neg c0, f_isIn _ hk8, bd1_s, stp_n, chk_nI (show k < 9 by omega) (by decide), ix_nI (show k < 2 ^ 31 by omega), nI_1, ldS]
    cases hr : bt (t 0 18) k <;> cases ha : bt (t 0 19) k
    · simp
    · obtain ⟨w, hw, ew⟩ := h k hk ha
      simp [ew, chk_nI hw (show 9 < 2 ^ 31 by decide), ahM]
    · simp
    · obtain ⟨w, hw, ew⟩ := h k hk ha
      simp [ew, chk_nI hw (show 9 < 2 ^ 31 by decide), ahM]
  · intro n
    show fX9_load_4 t (n + 1) (ldS _ _ _ _ 8) (nI 8) = _
    rw [fX9_load_4]
    have c0 : (8 : Int32) ≤ nI 8 := by decide
    rw [if_pos c0]
    rfl
