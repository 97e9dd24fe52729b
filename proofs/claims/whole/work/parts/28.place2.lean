/-! ===== the lift's place behind a step ===== -/
theorem f_place {h r : St} {j k T : Nat} (hR : Rws r j) (hD : Dw r j) (hj : j ≤ 44) (hk : k ≤ j) (h1 : whn r k ≤ T) (hT : T < 1000) (h2 : k = j ∨ T < whn r (k + 1)) : fX4_placeBehind h r (nI T) (nI k) = some (nI (if k = j then pN r j else plf (pN r k) (pN r (k + 1)) (T - whn r k))) := by
  obtain ⟨a1, a2, a3, a4⟩ := hR.2.1 k hk
  have rd : ∀ {β : Type} (K : Int32 → Option β), chk (nI k) 45 (stp (r 3 (ix (nI k))) K) = K (nI (pN r k)) := fun K => by
    rw [rd_nI rfl (show k < 45 by omega) (by decide), a3]
  unfold fX4_placeBehind
  rw [rd_nI rfl (show k < 45 by omega) (by decide), a1, stp_n, nI_sb h1]
  by_cases c0 : T - whn r k = 0
  · rw [c0, if_pos (show nI 0 = 0 from rfl), rd]
    by_cases c : k = j
    · rw [if_pos c, c]
    · rw [if_neg c]; unfold plf; rw [if_pos rfl]
  · rw [if_neg (nI_ne0 (by omega) (by omega)), nI_1, hR.1]
    by_cases c : k = j
    · rw [if_neg (by rw [nI_lt' (by omega) (by omega)]; omega), if_pos c, rd, c]
    · have hT2 : T < whn r (k + 1) := by
        rcases h2 with z | z
        · exact absurd z c
        · exact z
      obtain ⟨b1, b2, b3, b4⟩ := hR.2.1 (k + 1) (by omega)
      have hd := hD k (by omega)
      have ev := ev_fin ⟨pN r k, a4⟩
      simp only at ev
      rw [if_pos (by rw [nI_lt' (by omega) (by omega)]; omega), if_neg c, rd_nI rfl (show k + 1 < 45 by omega) (by decide), b3, rd]
      unfold plf
      rw [if_neg c0]
      by_cases d : pN r (k + 1) ≤ pN r k
      · have hd := hd (by omega)
        rw [if_pos (by rw [nI_le' (by omega) (by omega)]; exact d), if_neg (show ¬ pN r k < pN r (k + 1) by omega), rd]
        by_cases e : pN r k % 2 = 0
        · rw [if_pos (ev.mpr e), if_pos e, rd]
          exact congrArg some ((nI_dn 2 (a := pN r k) (by omega) (by omega)).trans (by congr 1; omega))
        · rw [if_neg (fun z => e (ev.mp z)), if_neg e, rd]
          exact congrArg some ((nI_dn 1 (a := pN r k) (by omega) (by omega)).trans (by congr 1; omega))
      · rw [if_neg (by rw [nI_le' (by omega) (by omega)]; exact d), if_pos (show pN r k < pN r (k + 1) by omega), rd]
        by_cases e : pN r k % 2 = 0
        · rw [if_pos (ev.mpr e), if_pos e, rd]
          exact congrArg some ((nI_up 2 (pN r k) (by omega)).trans (by congr 1; omega))
        · rw [if_neg (fun z => e (ev.mp z)), if_neg e, rd]
          exact congrArg some ((nI_up 1 (pN r k) (by omega)).trans (by congr 1; omega))
/-- what lift() tells, all four -/
def tel (t : St) (w T : Nat) (x : Int32) : Int32 := if x = 0 then t 23 (stp1 T w) else if x = 1 then t 24 (stp1 T w) else if x = 2 then t 25 (stp1 T w) else t 26 (stp1 T w)
theorem q_tell4 {h r t : St} {j w nr nl hf fl : Nat} (H : RR h r t j w nr nl hf (fun _ => 2 * fl)) (hw : whn r j = w) (hp : pN r j = 2 * fl) (hD : Dw r j) (hj : j ≤ 44) {T : Nat} (hT : T < 1000) (x : Int32) : fX4_tell h r (nI T) x = some (tel t w T x) := by
  unfold tel
  by_cases c : x = 0
  · obtain ⟨k, h1, h2, h3, h4, -⟩ := q_row H hw hj hT
    obtain ⟨hH, hL, hR, hC, hI, hP, hV⟩ := H
    unfold fX4_tell
    rw [h2, bd1_s, if_pos c, if_pos c, f_place hR hD hj h1 h3 hT h4, bd1_s]
    congr 1
    by_cases d : k = j
    · subst d
      rw [if_pos rfl]
      unfold stp1
      rw [if_pos (by omega), (hI.2 w (by omega) (Nat.le_refl _)).2, hp]
    · have h5 : T < whn r (k + 1) := by
        rcases h4 with z | z
        · exact absurd z d
        · exact z
      have h6 : whn r (k + 1) ≤ whn r j := Rws_mono hR (by omega) (Nat.le_refl _)
      rw [if_neg d]
      unfold stp1
      rw [if_neg (by omega), (hI.1 k T (by omega) h3 h5).2]
  · rw [q_tell H hw hj hT x c, if_neg c]
