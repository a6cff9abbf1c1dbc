theorem bd1_e {α γ : Type} {x : Option α} {a : α} (h : x = some a) (k : α → Option γ) : bd1 x k = k a := by rw [h]; rfl
theorem bd2_e {α β γ : Type} {x : Option (α × β)} {a : α} {b : β} (h : x = some (a, b)) (k : α → β → Option γ) : bd2 x k = k a b := by rw [h]; rfl
theorem law_j (L : Nat) (xs : Nat → Int32) (i : Nat) (u : Um) : fL_law_j1273 L xs (nI i) u = some (0, nI (i + 7), u) := by
  unfold fL_law_j1273 nm
  rw [show (7 : Int32) = nI 7 from rfl, nI_add]
set_option maxHeartbeats 8000000 in
theorem law_step (hST : STEPS) {L : Nat} (hL : L ≤ 3584) (xs : Nat → Int32) {i : Nat} (hi : i + 7 ≤ L) {u : Um} (hI : Inv u) : ∃ u', fL_law_b18 L xs (nI i) u = some (0, nI (i + 7), u') ∧ Inv u' := by
  obtain ⟨h_feed, h_coast, h_person, h_as, h_wrong, h_carry, h_lend, h_sin, h_harden, h_pass, h_undo, h_image, h_restore, h_said, h_comes, h_least, h_match, h_chain, h_reach, h_plan, h_gusts, h_decades, h_sheet, h_drop, h_item, h_copy, h_log, h_skills, h_kinds, h_count⟩ := hST
  have e0 : inb (nI i) L = true := inbN (by omega) (by omega)
  have e1 : inb (nI i + 1) L = true := by rw [show (1 : Int32) = nI 1 from rfl, nI_add]; exact inbN (by omega) (by omega)
  have e2 : inb (nI i + 2) L = true := by rw [show (2 : Int32) = nI 2 from rfl, nI_add]; exact inbN (by omega) (by omega)
  have e3 : inb (nI i + 3) L = true := by rw [show (3 : Int32) = nI 3 from rfl, nI_add]; exact inbN (by omega) (by omega)
  have e4 : inb (nI i + 4) L = true := by rw [show (4 : Int32) = nI 4 from rfl, nI_add]; exact inbN (by omega) (by omega)
  have e5 : inb (nI i + 5) L = true := by rw [show (5 : Int32) = nI 5 from rfl, nI_add]; exact inbN (by omega) (by omega)
  have e6 : inb (nI i + 6) L = true := by rw [show (6 : Int32) = nI 6 from rfl, nI_add]; exact inbN (by omega) (by omega)
  have hgt : ¬ (Int32.ofNat L - 7) < nI i := by
    rw [show (Int32.ofNat L - 7 : Int32) = nI L - nI 7 from rfl, pk_sub (by omega)]
    exact nI_nlt (by omega) (by omega)
  unfold fL_law_b18
  rw [if_neg hgt, if_pos e0]
  generalize (xs (nI i).toNatClampNeg &&& 31) = op
  by_cases q0 : op = 0
  · rw [if_pos q0]
    simp only [e1, if_true]
    obtain ⟨r, u1, u2, g1, g2, hI2⟩ := h_feed _ u hI
    rw [bd2_e g1]
    try simp only [e1, if_true]
    rw [bd2_e g2, if_pos rfl, law_j]
    exact ⟨u2, rfl, hI2⟩
  rw [if_neg q0]
  by_cases q1 : op = 1
  · rw [if_pos q1]
    obtain ⟨r, u1, u2, g1, g2, hI2⟩ := h_coast u hI
    rw [bd2_e g1]
    rw [bd2_e g2, if_pos rfl, law_j]
    exact ⟨u2, rfl, hI2⟩
  rw [if_neg q1]
  by_cases q2 : op = 2
  · rw [if_pos q2]
    simp only [e1, e2, if_true]
    obtain ⟨r, g1, g2⟩ := h_person _ _ u hI
    rw [bd1_e g1]
    try simp only [e1, e2, if_true]
    rw [bd1_e g2, if_pos rfl, law_j]
    exact ⟨u, rfl, hI⟩
  rw [if_neg q2]
  by_cases q3 : op = 3
  · rw [if_pos q3]
    simp only [e1, e2, if_true]
    obtain ⟨r, g1, g2⟩ := h_as _ _ u hI
    rw [bd1_e g1]
    try simp only [e1, e2, if_true]
    rw [bd1_e g2, if_pos rfl, law_j]
    exact ⟨u, rfl, hI⟩
  rw [if_neg q3]
  by_cases q4 : op = 4
  · rw [if_pos q4]
    simp only [e1, e2, if_true]
    obtain ⟨r, g1, g2⟩ := h_wrong _ _ u hI
    rw [bd1_e g1]
    try simp only [e1, e2, if_true]
    rw [bd1_e g2, if_pos rfl, law_j]
    exact ⟨u, rfl, hI⟩
  rw [if_neg q4]
  by_cases q5 : op = 5
  · rw [if_pos q5]
    simp only [e1, e2, if_true]
    obtain ⟨r, u1, u2, g1, g2, hI2⟩ := h_carry _ _ u hI
    rw [bd2_e g1]
    try simp only [e1, e2, if_true]
    rw [bd2_e g2, if_pos rfl, law_j]
    exact ⟨u2, rfl, hI2⟩
  rw [if_neg q5]
  by_cases q6 : op = 6
  · rw [if_pos q6]
    simp only [e1, e2, if_true]
    obtain ⟨r, u1, u2, g1, g2, hI2⟩ := h_lend _ _ u hI
    rw [bd2_e g1]
    try simp only [e1, e2, if_true]
    rw [bd2_e g2, if_pos rfl, law_j]
    exact ⟨u2, rfl, hI2⟩
  rw [if_neg q6]
  by_cases q7 : op = 7
  · rw [if_pos q7]
    simp only [e1, e2, e3, if_true]
    obtain ⟨r, u1, u2, g1, g2, hI2⟩ := h_sin _ _ _ u hI
    rw [bd2_e g1]
    try simp only [e1, e2, e3, if_true]
    rw [bd2_e g2, if_pos rfl, law_j]
    exact ⟨u2, rfl, hI2⟩
  rw [if_neg q7]
  by_cases q8 : op = 8
  · rw [if_pos q8]
    simp only [e1, e2, if_true]
    obtain ⟨r, u1, u2, g1, g2, hI2⟩ := h_harden _ _ u hI
    rw [bd2_e g1]
    try simp only [e1, e2, if_true]
    rw [bd2_e g2, if_pos rfl, law_j]
    exact ⟨u2, rfl, hI2⟩
  rw [if_neg q8]
  by_cases q9 : op = 9
  · rw [if_pos q9]
    obtain ⟨r, u1, u2, g1, g2, hI2⟩ := h_pass u hI
    rw [bd2_e g1]
    rw [bd2_e g2, if_pos rfl, law_j]
    exact ⟨u2, rfl, hI2⟩
  rw [if_neg q9]
  by_cases q10 : op = 10
  · rw [if_pos q10]
    obtain ⟨r, u1, u2, g1, g2, hI2⟩ := h_undo u hI
    rw [bd2_e g1]
    rw [bd2_e g2, if_pos rfl, law_j]
    exact ⟨u2, rfl, hI2⟩
  rw [if_neg q10]
  by_cases q11 : op = 11
  · rw [if_pos q11]
    simp only [e1, if_true]
    obtain ⟨r, u1, u2, g1, g2, hI2⟩ := h_image _ u hI
    rw [bd2_e g1]
    try simp only [e1, if_true]
    rw [bd2_e g2, if_pos rfl, law_j]
    exact ⟨u2, rfl, hI2⟩
  rw [if_neg q11]
  by_cases q12 : op = 12
  · rw [if_pos q12]
    simp only [e1, if_true]
    obtain ⟨r, u1, u2, g1, g2, hI2⟩ := h_restore _ u hI
    rw [bd2_e g1]
    try simp only [e1, if_true]
    rw [bd2_e g2, if_pos rfl, law_j]
    exact ⟨u2, rfl, hI2⟩
  rw [if_neg q12]
  by_cases q13 : op = 13
  · rw [if_pos q13]
    simp only [e1, e2, if_true]
    obtain ⟨r, g1, g2⟩ := h_said _ _ u hI
    rw [bd1_e g1]
    try simp only [e1, e2, if_true]
    rw [bd1_e g2, if_pos rfl, law_j]
    exact ⟨u, rfl, hI⟩
  rw [if_neg q13]
  by_cases q14 : op = 14
  · rw [if_pos q14]
    simp only [e1, e2, if_true]
    obtain ⟨r, g1, g2⟩ := h_comes _ _ u hI
    rw [bd1_e g1]
    try simp only [e1, e2, if_true]
    rw [bd1_e g2, if_pos rfl, law_j]
    exact ⟨u, rfl, hI⟩
  rw [if_neg q14]
  by_cases q15 : op = 15
  · rw [if_pos q15]
    simp only [e1, e2, if_true]
    obtain ⟨r, u2, g1, g2, hI2⟩ := h_least _ _ u hI
    rw [bd1_e g1]
    try simp only [e1, e2, if_true]
    rw [bd2_e g2, if_pos rfl, law_j]
    exact ⟨u2, rfl, hI2⟩
  rw [if_neg q15]
  by_cases q16 : op = 16
  · rw [if_pos q16]
    simp only [e1, if_true]
    obtain ⟨r, u1, u2, g1, g2, hI2⟩ := h_match _ u hI
    rw [bd2_e g1]
    try simp only [e1, if_true]
    rw [bd2_e g2, if_pos rfl, law_j]
    exact ⟨u2, rfl, hI2⟩
  rw [if_neg q16]
  by_cases q17 : op = 17
  · rw [if_pos q17]
    simp only [e1, e2, if_true]
    obtain ⟨r, g1, g2⟩ := h_chain _ _ u hI
    rw [bd1_e g1]
    try simp only [e1, e2, if_true]
    rw [bd1_e g2, if_pos rfl, law_j]
    exact ⟨u, rfl, hI⟩
  rw [if_neg q17]
  by_cases q18 : op = 18
  · rw [if_pos q18]
    simp only [e1, e2, if_true]
    obtain ⟨r, u2, g1, g2, hI2⟩ := h_reach _ _ u hI
    rw [bd1_e g1]
    try simp only [e1, e2, if_true]
    rw [bd2_e g2, if_pos rfl, law_j]
    exact ⟨u2, rfl, hI2⟩
  rw [if_neg q18]
  by_cases q19 : op = 19
  · rw [if_pos q19]
    simp only [e1, e2, if_true]
    obtain ⟨r, u1, u2, g1, g2, hI2⟩ := h_plan _ _ u hI
    rw [bd2_e g1]
    try simp only [e1, e2, if_true]
    rw [bd2_e g2, if_pos rfl, law_j]
    exact ⟨u2, rfl, hI2⟩
  rw [if_neg q19]
  by_cases q20 : op = 20
  · rw [if_pos q20]
    simp only [e1, e2, e3, e4, if_true]
    obtain ⟨r, g1, g2⟩ := h_gusts _ _ _ _ u hI
    rw [bd1_e g1]
    try simp only [e1, e2, e3, e4, if_true]
    rw [bd1_e g2, if_pos rfl, law_j]
    exact ⟨u, rfl, hI⟩
  rw [if_neg q20]
  by_cases q21 : op = 21
  · rw [if_pos q21]
    simp only [e1, e2, e3, if_true]
    obtain ⟨r, u1, u2, g1, g2, hI2⟩ := h_decades _ _ _ u hI
    rw [bd2_e g1]
    try simp only [e1, e2, e3, if_true]
    rw [bd2_e g2, if_pos rfl, law_j]
    exact ⟨u2, rfl, hI2⟩
  rw [if_neg q21]
  by_cases q22 : op = 22
  · rw [if_pos q22]
    simp only [e1, e2, e3, if_true]
    obtain ⟨r, u1, u2, g1, g2, hI2⟩ := h_sheet _ _ _ u hI
    rw [bd2_e g1]
    try simp only [e1, e2, e3, if_true]
    rw [bd2_e g2, if_pos rfl, law_j]
    exact ⟨u2, rfl, hI2⟩
  rw [if_neg q22]
  by_cases q23 : op = 23
  · rw [if_pos q23]
    simp only [e1, if_true]
    obtain ⟨r, u1, u2, g1, g2, hI2⟩ := h_drop _ u hI
    rw [bd2_e g1]
    try simp only [e1, if_true]
    rw [bd2_e g2, if_pos rfl, law_j]
    exact ⟨u2, rfl, hI2⟩
  rw [if_neg q23]
  by_cases q24 : op = 24
  · rw [if_pos q24]
    simp only [e1, e2, e3, e4, e5, if_true]
    obtain ⟨r, u1, u2, g1, g2, hI2⟩ := h_item _ _ _ _ u hI
    rw [bd2_e g1]
    try simp only [e1, e2, e3, e4, e5, if_true]
    rw [bd2_e g2, if_pos (by simp [lg_cmp]), law_j]
    exact ⟨u2, rfl, hI2⟩
  rw [if_neg q24]
  by_cases q25 : op = 25
  · rw [if_pos q25]
    simp only [e1, e2, e3, e4, e5, if_true]
    obtain ⟨r, u1, u2, g1, g2, hI2⟩ := h_copy _ _ _ _ _ u hI
    rw [bd2_e g1]
    try simp only [e1, e2, e3, e4, e5, if_true]
    rw [bd2_e g2, if_pos rfl, law_j]
    exact ⟨u2, rfl, hI2⟩
  rw [if_neg q25]
  by_cases q26 : op = 26
  · rw [if_pos q26]
    simp only [e1, e2, e3, e4, if_true]
    obtain ⟨r, u1, u2, g1, g2, hI2⟩ := h_log _ _ _ _ u hI
    rw [bd2_e g1]
    try simp only [e1, e2, e3, e4, if_true]
    rw [bd2_e g2, if_pos rfl, law_j]
    exact ⟨u2, rfl, hI2⟩
  rw [if_neg q26]
  by_cases q27 : op = 27
  · rw [if_pos q27]
    simp only [e1, e2, e3, e4, e5, e6, if_true]
    obtain ⟨r, u1, u2, g1, g2, hI2⟩ := h_skills _ _ _ _ _ _ u hI
    rw [bd2_e g1]
    try simp only [e1, e2, e3, e4, e5, e6, if_true]
    rw [bd2_e g2, if_pos rfl, law_j]
    exact ⟨u2, rfl, hI2⟩
  rw [if_neg q27]
  by_cases q28 : op = 28
  · rw [if_pos q28]
    simp only [e1, e2, e3, e4, e5, e6, if_true]
    obtain ⟨r, u1, u2, g1, g2, hI2⟩ := h_kinds _ _ _ _ _ _ u hI
    rw [bd2_e g1]
    try simp only [e1, e2, e3, e4, e5, e6, if_true]
    rw [bd2_e g2, if_pos rfl, law_j]
    exact ⟨u2, rfl, hI2⟩
  rw [if_neg q28]
  by_cases q29 : op = 29
  · rw [if_pos q29]
    simp only [e1, if_true]
    obtain ⟨r, g1, g2⟩ := h_count _ u hI
    rw [bd1_e g1]
    try simp only [e1, if_true]
    rw [bd1_e g2, if_pos rfl, law_j]
    exact ⟨u, rfl, hI⟩
  rw [if_neg q29]
  rw [law_j]
  exact ⟨u, rfl, hI⟩
theorem law_stop {L : Nat} (hL : L ≤ 3584) (xs : Nat → Int32) {i : Nat} (hi : i ≤ L) (h7 : L < i + 7) (u : Um) : fL_law_b18 L xs (nI i) u = some (1, nI i, u) := by
  have hlt : (Int32.ofNat L - 7) < nI i := by
    show (nI L - nI 7) < nI i
    rw [Int32.lt_iff_toInt_lt, pk_sub_toInt (by omega) (by omega), nI_toInt (by omega)]
    omega
  unfold fL_law_b18
  rw [if_pos hlt]
theorem law_run (hST : STEPS) {L : Nat} (hL : L ≤ 3584) (xs : Nat → Int32) : ∀ (n i : Nat) (u : Um), Inv u → i ≤ L → L - i < 7 * n → ∃ (j : Int32) (u' : Um), lp (fun s => fL_law_b18 L xs s.1 s.2) n (nI i, u) = some (1, j, u')
  | 0, i, u, _, _, h => by omega
  | n + 1, i, u, hI, hi, h => by
    by_cases h7 : L < i + 7
    · refine ⟨nI i, u, ?_⟩
      show (fL_law_b18 L xs (nI i) u).bind _ = _
      rw [law_stop hL xs hi h7]
      rfl
    · obtain ⟨u', e1, hI'⟩ := law_step hST hL xs (by omega : i + 7 ≤ L) hI
      obtain ⟨j, u2, e2⟩ := law_run hST hL xs n (i + 7) u' hI' (by omega) (by omega)
      refine ⟨j, u2, ?_⟩
      show (fL_law_b18 L xs (nI i) u).bind _ = _
      rw [e1]
      exact e2
theorem pure_of (hST : STEPS) : PURE := fun L xs hL => by
  obtain ⟨j, u, h⟩ := law_run hST hL xs fuel 0 U0 Inv_0 (Nat.zero_le _) (by rw [fuel_eq]; omega)
  exact ⟨j, u, h⟩
