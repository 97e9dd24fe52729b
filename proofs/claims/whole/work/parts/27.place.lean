/-! ===== the lift's place between two rows ===== -/
theorem nI_sb {a b : Nat} (h : b ≤ a) : nI a - nI b = nI (a - b) := by
  have e : nI a = nI (a - b) + nI b := by rw [nI_add]; congr 1; omega
  rw [e, Int32.add_sub_cancel]
theorem nI_d (x : Nat) : (2 : Int32) * nI x = nI (2 * x) := by
  rw [show 2 * x = x + x by omega, ← nI_add, show (2 : Int32) = 1 + 1 from rfl, Int32.add_mul, Int32.one_mul]
theorem ev_fin : ∀ a : Fin 20, ((nI a.val - nI a.val / 2 * 2 = 0) ↔ a.val % 2 = 0) := by decide
theorem nI_up {g : Nat} (c : Nat) (a : Nat) (hg : 1 ≤ g) : nI a + ((1 : Int32) * (nI c + ((2 : Int32) * (nI g - 1)))) = nI (a + (c + 2 * (g - 1))) := by
  rw [show (1 : Int32) = nI 1 from rfl, nI_sb hg, nI_d, nI_add, show nI 1 = (1 : Int32) from rfl, Int32.one_mul, nI_add]
theorem nI_dn {g : Nat} (c : Nat) {a : Nat} (hg : 1 ≤ g) (h : c + 2 * (g - 1) ≤ a) : nI a + ((-1 : Int32) * (nI c + ((2 : Int32) * (nI g - 1)))) = nI (a - (c + 2 * (g - 1))) := by
  rw [show (1 : Int32) = nI 1 from rfl, nI_sb hg, nI_d, nI_add, Int32.neg_mul, show nI 1 = (1 : Int32) from rfl, Int32.one_mul, ← Int32.sub_eq_add_neg, nI_sb h]
