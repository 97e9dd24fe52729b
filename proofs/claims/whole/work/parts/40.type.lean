/-! ===== riders, leavers, stops; texts ===== -/
def mxT (κ : Nat) : Nat := if κ = 2 then 20 else 31
def TxP (t s : St) (κ : Nat) : Prop := t 0 0 = nI κ ∧ t 0 1 = nI (mxT κ) ∧ ∃ n, n ≤ mxT κ ∧ t 0 3 = nI n ∧ s 1 κ = nI n ∧ ∀ k, k < n → ∃ b, b < 256 ∧ t 3 k = nI b ∧ s 2 (31 * κ + k) = nI b
theorem mxT_31 (κ : Nat) : mxT κ ≤ 31 := by unfold mxT; split <;> omega
theorem TxP_of {z : Nat → St} {s : St} (H : TxR z s) {κ : Nat} (hκ : κ < 3) : TxP (z (κ + 1)) s κ := by
  obtain ⟨hk, hT⟩ := H
  obtain ⟨a1, a2, a3, a4, a5, a6⟩ := hT κ hκ
  have hR : Rx s κ (tn s κ) (tb s κ) := by
    obtain rfl | rfl | rfl : κ = 0 ∨ κ = 1 ∨ κ = 2 := by omega
    · exact hk.1
    · exact hk.2.1
    · exact hk.2.2.1
  exact ⟨a1, a3, tn s κ, a5, a4, hR.1, fun k hk2 => ⟨tb s κ k, (a6 k hk2).2, (a6 k hk2).1, (hR.2.2.2 k hk2).1⟩⟩
theorem TxR_of {z : Nat → St} {s : St} (H : ∀ κ, κ < 3 → TxP (z (κ + 1)) s κ) : TxR z s := by
  have key : ∀ κ, κ < 3 → Rx s κ (tn s κ) (tb s κ) ∧ Tx (z (κ + 1)) κ (tn s κ) (tb s κ) ∧ tn s κ ≤ mxT κ := by
    intro κ hκ
    obtain ⟨a1, a2, n, a3, a4, a5, a6⟩ := H κ hκ
    have h31 := mxT_31 κ
    have en : tn s κ = n := by unfold tn; rw [a5, ix_nI (by omega)]
    have eb : ∀ k, k < n → z (κ + 1) 3 k = nI (tb s κ k) ∧ s 2 (31 * κ + k) = nI (tb s κ k) ∧ tb s κ k < 256 := fun k hk => by
      obtain ⟨b, b1, b2, b3⟩ := a6 k hk
      have : tb s κ k = b := by unfold tb; rw [b3, ix_nI (by omega)]
      rw [this]; exact ⟨b2, b3, b1⟩
    rw [en]
    exact ⟨⟨a5, by omega, hκ, fun k hk => ⟨(eb k hk).2.1, (eb k hk).2.2⟩⟩, ⟨a1, hκ, a2, a4, a3, fun k hk => ⟨(eb k hk).1, (eb k hk).2.2⟩⟩, a3⟩
  exact ⟨⟨(key 0 (by decide)).1, (key 1 (by decide)).1, (key 2 (by decide)).1, (key 2 (by decide)).2.2⟩, fun κ hκ => (key κ hκ).2.1⟩
theorem noText_out {x : Int32} (h : x < 0 ∨ nI 2 < x) : fX8_noSuchText x = some 1 := by
  unfold fX8_noSuchText
  by_cases c : x < 0
  · rw [if_pos c]
  · rw [if_neg c, if_neg (show ¬ x < 3 from lt_suc (N := 2) (by decide) (h.resolve_left c))]
theorem noText_in {T : Nat} (h : T ≤ 2) : fX8_noSuchText (nI T) = some 0 := by
  unfold fX8_noSuchText
  rw [if_neg (nI_pos (by omega)), if_pos (show nI T < 3 from nI_lt (b := 3) (by omega) (by decide))]
theorem isText_out {x : Int32} (h : x < 0 ∨ nI 2 < x) : fX9_isText x = some 0 := by
  unfold fX9_isText
  rw [show fX9_in x 0 2 = some 0 from in_out h, bd1_s]; rfl
theorem isText_in {T : Nat} (h : T ≤ 2) : fX9_isText (nI T) = some 1 := by
  unfold fX9_isText
  rw [in_in (b := 2) h (by decide) rfl, bd1_s]; rfl
/-- by the number of a text, the three branches of the class -/
theorem sel3 {α : Type} {A B C D : Option α} {κ : Nat} (h : κ ≤ 2) : (if nI κ = 0 then A else if nI κ = 1 then B else if nI κ = 2 then C else D) = if κ = 0 then A else if κ = 1 then B else C := by
  obtain rfl | rfl | rfl : κ = 0 ∨ κ = 1 ∨ κ = 2 := by omega
  · rfl
  · rfl
  · rfl
theorem c_fault {z : Nat → St} {y : Nat → Lt} {s : St} (H : Rel z y s) (x : Int32) : ∃ v s', fX8_fault z y x = some v ∧ fX9_fault s x = some (v, s') ∧ Rel z y s' := by
  unfold fX8_fault fX9_fault
  rcases rng x 2 (by decide) with h | ⟨κ, hκ, rfl⟩
  · rw [noText_out h, isText_out h, bd1_s, bd1_s, if_neg n10, if_pos z00]
    exact ⟨_, _, rfl, rfl, H⟩
  · rw [noText_in hκ, isText_in hκ, bd1_s, bd1_s, if_pos z00, if_neg n10, sel3 hκ]
    obtain ⟨u, F, R, e⟩ := f_faultOf H.1.1
    rw [e κ (by omega), bd2_s]
    refine ⟨_, u, ?_, rfl, Rel_d F.dur H⟩
    obtain rfl | rfl | rfl : κ = 0 ∨ κ = 1 ∨ κ = 2 := by omega
    · rw [if_pos rfl, f_firstFault (H.1.2 0 (by decide)), bd1_s]
    · rw [if_neg (by decide), if_pos rfl, f_firstFault (H.1.2 1 (by decide)), bd1_s]
    · rw [if_neg (by decide), if_neg (by decide), f_firstFault (H.1.2 2 (by decide)), bd1_s]
/-- a text of both becomes another; all that was worked out is stale -/
theorem Rel_text {z : Nat → St} {y : Nat → Lt} {s : St} (H : Rel z y s) {κ : Nat} (hκ : κ ≤ 2) (t s' : St) (hP : TxP t s' κ) (hO : ∀ κ', κ' < 3 → κ' ≠ κ → TxP (z (κ' + 1)) s' κ') (e : ∀ c, c ≠ 1 → c ≠ 2 → s' c = s c) : Rel (va_up (va_up z (κ + 1) t) 0 (sS (z 0) 0 10 1)) y s' := by
  obtain ⟨h1, h2, h3, h4, h5, h6, h7, h8⟩ := H
  have o : ∀ i, i ≠ 0 → i ≠ κ + 1 → va_up (va_up z (κ + 1) t) 0 (sS (z 0) 0 10 1) i = z i := fun i a b => by rw [up_o a, up_o b]
  refine ⟨TxR_of (fun κ' hκ' => ?_), ?_, ?_, fun q hq => ?_, ?_, ?_, ?_, Or.inl ?_⟩
  · by_cases c : κ' = κ
    · rw [c, up_o (by omega), up_s]; exact hP
    · rw [o _ (by omega) (by omega)]; exact hO κ' hκ' c
  · rw [o 8 (by omega) (by omega)]
    unfold Sts; rw [e 0 (by decide) (by decide)]; exact h2
  · rw [o 13 (by omega) (by omega)]
    unfold Sgt; rw [e 0 (by decide) (by decide), e 36 (by decide) (by decide), e 37 (by decide) (by decide)]; exact h3
  · rw [o (4 + q) (by omega) (by omega)]
    unfold Sh1; rw [e 39 (by decide) (by decide), e 40 (by decide) (by decide), e 41 (by decide) (by decide), e 42 (by decide) (by decide)]
    exact h4 q hq
  · rw [up_s, e 0 (by decide) (by decide)]; exact h5
  · rw [o 9 (by omega) (by omega)]; exact h6
  · rw [o 10 (by omega) (by omega)]; exact h7
  · rw [up_s]; rfl
/-- another text stays as it was -/
theorem TxP_same {t s s' : St} {κ : Nat} (h : TxP t s κ) (e1 : s' 1 κ = s 1 κ) (e2 : ∀ k, k < 31 → s' 2 (31 * κ + k) = s 2 (31 * κ + k)) : TxP t s' κ := by
  obtain ⟨a1, a2, n, a3, a4, a5, a6⟩ := h
  have h31 := mxT_31 κ
  refine ⟨a1, a2, n, a3, a4, by rw [e1]; exact a5, fun k hk => ?_⟩
  rw [e2 k (by omega)]
  exact a6 k hk
theorem f_append {t : St} {κ n : Nat} (h1 : t 0 1 = nI (mxT κ)) (h3 : t 0 3 = nI n) (hn : n ≤ mxT κ) (b : Int32) : fX7_append t b = some (if n = mxT κ then (0, t) else (1, sS (sS t 3 n b) 0 3 (nI (n + 1)))) := by
  have h31 := mxT_31 κ
  unfold fX7_append
  rw [h1, h3]
  by_cases c : n = mxT κ
  · rw [if_pos (by rw [nI_le' (by omega) (by omega)]; omega), if_pos c]
  · rw [if_neg (by rw [nI_le' (by omega) (by omega)]; omega), if_pos (show nI n < 31 from nI_lt (b := 31) (by omega) (by decide)), if_neg c, wr_nI rfl (show n < 31 by omega) (by decide), stp_n]
    have e : sS t 3 n b 0 3 = nI n := h3
    rw [e, nI_1]
theorem c_type {z : Nat → St} {y : Nat → Lt} {s : St} (H : Rel z y s) (x1 x2 : Int32) : Ans (fX8_type z y x1 x2) (fX9_type s x1 x2) y := by
  unfold fX8_type fX9_type
  rcases rng x1 2 (by decide) with h | ⟨κ, hκ, rfl⟩
  · rw [noText_out h, isText_out h, bd1_s, bd1_s, if_neg n10, if_pos z00]
    exact ⟨_, _, _, rfl, rfl, H⟩
  · rw [noText_in hκ, isText_in hκ, bd1_s, bd1_s, if_pos z00, if_neg n10]
    rcases rng x2 255 (by decide) with h | ⟨b, hb, rfl⟩
    · rw [show fX9_in x2 0 255 = some 0 from in_out h, bd1_s, if_pos z00]
      refine ⟨-2, z, s, ?_, rfl, H⟩
      by_cases c : x2 < 0
      · rw [if_pos c]
      · rw [if_neg c, if_neg (show ¬ x2 ≤ 255 from i_le (h.resolve_left c))]
    · rw [in_in (b := 255) hb (by decide) rfl, bd1_s, if_neg n10, if_neg (nI_pos (by omega)), if_pos (show nI b ≤ 255 from nI_le (b := 255) hb (by decide)), sel3 hκ]
      obtain ⟨a1, a2, n, a3, a4, a5, a6⟩ := TxP_of H.1 (show κ < 3 by omega)
      have h31 := mxT_31 κ
      have ap := f_append a2 a4 a3 (nI b)
      have e20 : κ = 2 → mxT κ = 20 := fun c => by unfold mxT; rw [if_pos c]
      have e31 : κ ≠ 2 → mxT κ = 31 := fun c => by unfold mxT; rw [if_neg c]
      -- the class
      have cl : (if κ = 0 then (bd2 (fX7_append (z 1) (nI b)) (fun r7 t8 => stp (va_up z 1 t8) (fun z10 => if r7 = 0 then (some (((-4 : Int32)), z10)) else (stp (va_up z10 0 (sS (z10 0) 0 10 1)) (fun z13 => some ((z13 1 0 3, z13))))))) else if κ = 1 then (bd2 (fX7_append (z 2) (nI b)) (fun r15 t16 => stp (va_up z 2 t16) (fun z18 => if r15 = 0 then (some (((-4 : Int32)), z18)) else (stp (va_up z18 0 (sS (z18 0) 0 10 1)) (fun z21 => some ((z21 2 0 3, z21))))))) else (bd2 (fX7_append (z 3) (nI b)) (fun r23 t24 => stp (va_up z 3 t24) (fun z26 => if r23 = 0 then (some (((-4 : Int32)), z26)) else (stp (va_up z26 0 (sS (z26 0) 0 10 1)) (fun z29 => some ((z29 3 0 3, z29)))))))) = some (if n = mxT κ then ((-4 : Int32), z) else (nI (n + 1), va_up (va_up z (κ + 1) (sS (sS (z (κ + 1)) 3 n (nI b)) 0 3 (nI (n + 1)))) 0 (sS (z 0) 0 10 1))) := by
        obtain rfl | rfl | rfl : κ = 0 ∨ κ = 1 ∨ κ = 2 := by omega
        · rw [if_pos rfl, ap]
          by_cases c : n = mxT 0
          · rw [if_pos c, if_pos c, bd2_s, stp_n, if_pos z00, up_self]
          · rw [if_neg c, if_neg c, bd2_s, stp_n, if_neg n10, stp_n]; rfl
        · rw [if_neg (by decide), if_pos rfl, ap]
          by_cases c : n = mxT 1
          · rw [if_pos c, if_pos c, bd2_s, stp_n, if_pos z00, up_self]
          · rw [if_neg c, if_neg c, bd2_s, stp_n, if_neg n10, stp_n]; rfl
        · rw [if_neg (by decide), if_neg (by decide), ap]
          by_cases c : n = mxT 2
          · rw [if_pos c, if_pos c, bd2_s, stp_n, if_pos z00, up_self]
          · rw [if_neg c, if_neg c, bd2_s, stp_n, if_neg n10, stp_n]; rfl
      rw [cl, rd_nI rfl (show κ < 3 by omega) (by decide), a5]
      -- the reference
      have wr : ∀ {K : Option (Int32 × St)}, n < mxT κ → K = some (nI (n + 1), sS (sS s 2 (31 * κ + n) (nI b)) 1 κ (nI (n + 1))) → Ans (some (if n = mxT κ then ((-4 : Int32), z) else (nI (n + 1), va_up (va_up z (κ + 1) (sS (sS (z (κ + 1)) 3 n (nI b)) 0 3 (nI (n + 1)))) 0 (sS (z 0) 0 10 1)))) K y := by
        intro K hn hK
        rw [if_neg (by omega)]
        refine ⟨_, _, _, rfl, hK, Rel_text H hκ _ _ ⟨a1, a2, n + 1, by omega, rfl, ?_, fun k hk => ?_⟩ (fun κ' hκ' hne => TxP_same (TxP_of H.1 hκ') ?_ (fun k hk => ?_)) (fun c c1 c2 => ?_)⟩
        · rw [sS_s, upd_s]
        · by_cases c : k = n
          · subst c
            exact ⟨b, by omega, by rw [sS_o (by decide), sS_s, upd_s], by rw [sS_o (by decide), sS_s, upd_s]⟩
          · obtain ⟨b', g1, g2, g3⟩ := a6 k (by omega)
            exact ⟨b', g1, by rw [sS_o (by decide), sS_s, upd_o c]; exact g2, by rw [sS_o (by decide), sS_s, upd_o (by omega)]; exact g3⟩
        · rw [sS_s, upd_o hne]; rfl
        · rw [sS_o (by decide), sS_s, upd_o (by omega)]
        · rw [sS_o c1, sS_o c2]
      have bdy : n < mxT κ → (chk (nI κ) 3 (stp (s 1 (ix (nI κ))) (fun v11 => chk (((31 : Int32) * nI κ) + v11) 93 (stp (sS s 2 (ix (((31 : Int32) * nI κ) + v11)) (nI b)) (fun s14 => chk (nI κ) 3 (stp (s14 1 (ix (nI κ))) (fun v15 => chk (nI κ) 3 (stp (sS s14 1 (ix (nI κ)) (v15 + 1)) (fun s18 => chk (nI κ) 3 (stp (s18 1 (ix (nI κ))) (fun v19 => some ((v19, s18)))))))))))) : Option (Int32 × St)) = some (nI (n + 1), sS (sS s 2 (31 * κ + n) (nI b)) 1 κ (nI (n + 1))) := by
        intro hn
        rw [rd_nI rfl (show κ < 3 by omega) (by decide), a5, show (31 : Int32) = nI 31 from rfl, nI_mul, nI_add, wr_nI rfl (show 31 * κ + n < 93 by omega) (by decide), rd_nI rfl (show κ < 3 by omega) (by decide), sS_o (show (1 : Nat) ≠ 2 by decide), a5, nI_1, wr_nI rfl (show κ < 3 by omega) (by decide), rd_nI rfl (show κ < 3 by omega) (by decide), sS_s, upd_s]
      by_cases k2 : κ = 2
      · have m := e20 k2
        rw [if_pos (show nI κ = 2 by rw [k2]; rfl)]
        by_cases c : n = 20
        · rw [if_pos (show nI n = 20 by rw [c]; rfl), if_pos (by omega)]
          exact ⟨_, _, _, rfl, rfl, H⟩
        · rw [if_neg (show ¬ nI n = 20 by rw [show (20 : Int32) = nI 20 from rfl, nI_eq (by omega) (by omega)]; exact c)]
          exact wr (by omega) (bdy (by omega))
      · have m := e31 k2
        rw [if_neg (show ¬ nI κ = 2 by rw [show (2 : Int32) = nI 2 from rfl, nI_eq (by omega) (by omega)]; exact k2)]
        by_cases c : n = 31
        · rw [if_pos (show nI n = 31 by rw [c]; rfl), if_pos (by omega)]
          exact ⟨_, _, _, rfl, rfl, H⟩
        · rw [if_neg (show ¬ nI n = 31 by rw [show (31 : Int32) = nI 31 from rfl, nI_eq (by omega) (by omega)]; exact c)]
          exact wr (by omega) (bdy (by omega))
