theorem i10 : ¬ (1 : Int32) = 0 := by decide
theorem IvC_get {u : Um} (h : IvC u) : ∃ P W dd : Nat, VR (u.1 122) P W dd ∧ RC u 3 (u.1 122) P W ∧ dd ≤ 9999 ∧ (P = 0 ∧ W = 0 ∧ dd = 0 ∨ 2 ≤ P ∧ 1 ≤ W) := by
  rcases h with ⟨h1, h2, h3, h4, h5, h6⟩ | ⟨P, W, dd, h1, h2, h3, hV, hR⟩
  · exact ⟨0, 0, 0, ⟨h1, h2, h3, by decide, by decide, by decide, fun p hp => absurd hp (Nat.not_lt_zero p), fun w hw => absurd hw (Nat.not_lt_zero w)⟩, ⟨h4.trans h1.symm, h5.trans h2.symm, h6.trans h3.symm, fun p k hp => absurd hp (Nat.not_lt_zero p), fun w k hw => absurd hw (Nat.not_lt_zero w)⟩, by decide, Or.inl ⟨rfl, rfl, rfl⟩⟩
  · exact ⟨P, W, dd, hV, hR, h3, Or.inr ⟨h1, h2⟩⟩
theorem in_y {x lo hi : Int32} {u : Um} (h1 : ¬ x < lo) (h2 : ¬ hi < x) : fX8_in x lo hi u = some 1 := by
  unfold fX8_in
  rw [if_neg h1, if_neg h2]
theorem in_n {x lo hi : Int32} {u : Um} (h : x < lo ∨ hi < x) : fX8_in x lo hi u = some 0 := by
  unfold fX8_in
  by_cases h1 : x < lo
  · rw [if_pos h1]
  · rw [if_neg h1, if_pos (h.resolve_left h1)]
theorem last_lt {P : Nat} {x : Int32} (hP : P ≤ 100) : nI P - 1 < x ↔ nI P ≤ x := by
  have h1 : (nI P - 1 : Int32).toInt = (P : Int) - 1 := by
    have := pk_sub_toInt (a := P) (b := 1) (by omega) (by decide)
    exact this
  rw [Int32.lt_iff_toInt_lt, Int32.le_iff_toInt_le, h1, nI_toInt (by omega)]
  omega
theorem one_y {u : Um} {P p : Nat} (h : u.1 122 1 = nI P) (hP : P ≤ 6) (hp : p < P) : fX8_isOne (nI p) u = some 1 := by
  unfold fX8_isOne
  rw [if_pos (by decide)]
  show bd1 (fX8_in (nI p) 0 (u.1 122 1 - 1) u) _ = _
  rw [h, in_y (nI_pos (by omega)) (by rw [last_lt (by omega)]; exact nI_ge hp (by omega)), bd1s]
  rfl
theorem one_n {u : Um} {P : Nat} {x : Int32} (h : u.1 122 1 = nI P) (hP : P ≤ 6) (hx : x < 0 ∨ nI P ≤ x) : fX8_isOne x u = some 0 := by
  unfold fX8_isOne
  rw [if_pos (by decide)]
  show bd1 (fX8_in x 0 (u.1 122 1 - 1) u) _ = _
  rw [h, in_n (hx.imp id (fun h => (last_lt (by omega)).mpr h)), bd1s]
  rfl
theorem wr_y {u : Um} {W p : Nat} (h : u.1 122 2 = nI W) (hW : W ≤ 8) (hp : p < W) : fX8_isWrong (nI p) u = some 1 := by
  unfold fX8_isWrong
  rw [if_pos (by decide)]
  show bd1 (fX8_in (nI p) 0 (u.1 122 2 - 1) u) _ = _
  rw [h, in_y (nI_pos (by omega)) (by rw [last_lt (by omega)]; exact nI_ge hp (by omega)), bd1s]
  rfl
theorem wr_n {u : Um} {W : Nat} {x : Int32} (h : u.1 122 2 = nI W) (hW : W ≤ 8) (hx : x < 0 ∨ nI W ≤ x) : fX8_isWrong x u = some 0 := by
  unfold fX8_isWrong
  rw [if_pos (by decide)]
  show bd1 (fX8_in x 0 (u.1 122 2 - 1) u) _ = _
  rw [h, in_n (hx.imp id (fun h => (last_lt (by omega)).mpr h)), bd1s]
  rfl
theorem ix_of (x : Int32) {n : Nat} (hn : n < 2 ^ 31) : (x < 0 ∨ nI n ≤ x) ∨ ∃ j : Nat, j < n ∧ x = nI j := by
  rcases pk_ix x hn with h | h | h
  · exact Or.inl (Or.inl h)
  · exact Or.inl (Or.inr h)
  · exact Or.inr h
theorem s_person (a b : Int32) : S11 (fX7_person a b) (fX8_person a b) := by
  intro u hI
  obtain ⟨P, W, dd, hV, hR, -, -⟩ := IvC_get hI.1
  have hP := hV.2.2.2.1
  unfold fX7_person fX8_person
  rcases ix_of a (n := P) (by omega) with ha | ⟨p, hp, rfl⟩
  · rw [hasP_n (hR.1.trans hV.1) ha, one_n hV.1 hP ha]
    exact ⟨-1, rfl, rfl⟩
  · rw [hasP_y (hR.1.trans hV.1) hP hp, one_y hV.1 hP hp, bd1s, bd1s, if_neg i10, if_neg i10]
    rcases ix_of b (n := 8) (by decide) with hb | ⟨k, hk, rfl⟩
    · rw [in_n (hi := 7) (hb.imp id (fun h => (last_lt (P := 8) (by decide)).mpr h)), bd1s, if_pos rfl]
      refine ⟨-1, ?_, rfl⟩
      by_cases h0 : b < 0
      · rw [if_pos h0]
      · rw [if_neg h0, if_neg (show ¬ b < 8 from fun h => Int32.not_le.mpr h (hb.resolve_left h0))]
    · rw [in_y (hi := 7) (nI_pos (by omega)) (by intro h; exact nI_ge hk (by omega) ((last_lt (P := 8) (by decide)).mp h)), bd1s, if_neg i10, if_neg (nI_pos (n := k) (by omega)), if_pos ((ltr8 (by omega)).mpr hk), tr_at 3 u (by omega) hk, bd1s]
      have e : ((3 : Int32) + 6 * nI k + nI p) = nI (3 + 6 * k + p) := by
        rw [show (3 : Int32) = nI 3 from rfl, show (6 : Int32) = nI 6 from rfl, pk_mul, nI_add, nI_add]
      rw [e, if_pos (inbN (by omega) (by decide)), nI_clamp (by omega), ← hR.2.2.2.1 p k hp hk]
      exact ⟨_, rfl, rfl⟩
theorem s_wrong (a b : Int32) : S11 (fX7_wrong a b) (fX8_wrong a b) := by
  intro u hI
  obtain ⟨P, W, dd, hV, hR, -, -⟩ := IvC_get hI.1
  have hP := hV.2.2.2.1
  have hW := hV.2.2.2.2.1
  unfold fX7_wrong fX8_wrong
  rcases ix_of a (n := W) (by omega) with ha | ⟨w, hw, rfl⟩
  · rw [hasW_n (hR.2.1.trans hV.2.1) ha, wr_n hV.2.1 hW ha]
    exact ⟨-1, rfl, rfl⟩
  · rw [hasW_y (hR.2.1.trans hV.2.1) hW hw, wr_y hV.2.1 hW hw, bd1s, bd1s, if_neg i10, if_neg i10]
    rcases ix_of b (n := 5) (by decide) with hb | ⟨k, hk, rfl⟩
    · have hne : ∀ k, k < 5 → ¬ b = nI k := by
        intro k hk e
        rcases hb with h | h
        · rw [e] at h; exact nI_pos (by omega) h
        · rw [e] at h; exact nI_ge hk (by omega) h
      simp only [show ¬ b = 0 from hne 0 (by decide), show ¬ b = 1 from hne 1 (by decide), show ¬ b = 2 from hne 2 (by decide), show ¬ b = 3 from hne 3 (by decide), show ¬ b = 4 from hne 4 (by decide), if_false]
      refine ⟨-1, ?_, rfl⟩
      by_cases h0 : b < 0
      · rw [if_pos h0]
      · rw [if_neg h0, if_neg]
        intro h4
        have h5 := hb.resolve_left h0
        rw [Int32.le_iff_toInt_le] at h4 h5
        have e4 : (4 : Int32).toInt = 4 := by decide
        have e5 : (nI 5).toInt = 5 := by decide
        omega
    · rw [need_c hR hV hw, need_m (s := 122) (by decide +kernel) hV hw]
      rcases (show k = 0 ∨ k = 1 ∨ k = 2 ∨ k = 3 ∨ k = 4 by omega) with rfl | rfl | rfl | rfl | rfl
      · refine ⟨u.1 122 (51 + w), ?_, ?_⟩
        · show bd1 (fX0_part 3 (nI w) 0 u) _ = _
          rw [pR0 hR hW hw, bd1s]
        · show (if inb (51 + nI w) 83 = true then some (u.1 122 (51 + nI w).toNatClampNeg) else none) = _
          rw [if_pos (ic51 (by omega)), ix51 (by omega)]
      · refine ⟨u.1 122 (59 + w), ?_, ?_⟩
        · show bd1 (fX0_part 3 (nI w) 1 u) _ = _
          rw [pR1 hR hW hw, bd1s]
        · show (if inb (59 + nI w) 83 = true then some (u.1 122 (59 + nI w).toNatClampNeg) else none) = _
          rw [if_pos (ic59 (by omega)), ix59 (by omega)]
      · refine ⟨u.1 122 (67 + w), ?_, ?_⟩
        · show bd1 (fX0_part 3 (nI w) 2 u) _ = _
          rw [pR2 hR hW hw, bd1s]
        · show (if inb (67 + nI w) 83 = true then some (u.1 122 (67 + nI w).toNatClampNeg) else none) = _
          rw [if_pos (ic67 (by omega)), ix67 (by omega)]
      · refine ⟨u.1 122 (75 + w), ?_, ?_⟩
        · show bd1 (fX0_part 3 (nI w) 3 u) _ = _
          rw [pR3 hR hW hw, bd1s]
        · show (if inb (75 + nI w) 83 = true then some (u.1 122 (75 + nI w).toNatClampNeg) else none) = _
          rw [if_pos (ic75 (by omega)), ix75 (by omega)]
      · exact ⟨sNeed (u.1 122) w, rfl, rfl⟩
theorem ln122 : ln 122 = 83 := by decide +kernel
theorem ln123 : ln 123 = 83 := by decide +kernel
theorem ln124 : ln 124 = 83 := by decide +kernel
theorem s_said (a b : Int32) : S11 (fX7_said a b) (fX8_said a b) := by
  intro u hI
  obtain ⟨P, W, dd, hV, hR, -, -⟩ := IvC_get hI.1
  have hP := hV.2.2.2.1
  have hW := hV.2.2.2.2.1
  unfold fX7_said fX8_said
  rcases ix_of a (n := W) (by omega) with ha | ⟨w, hw, rfl⟩
  · rw [hasW_n (hR.2.1.trans hV.2.1) ha, wr_n hV.2.1 hW ha]
    exact ⟨-1, rfl, rfl⟩
  · rw [hasW_y (hR.2.1.trans hV.2.1) hW hw, wr_y hV.2.1 hW hw, bd1s, bd1s, if_neg i10, if_neg i10]
    rcases ix_of b (n := P) (by omega) with hb | ⟨p, hp, rfl⟩
    · rw [hasP_n (hR.1.trans hV.1) hb, one_n hV.1 hP hb]
      exact ⟨-1, rfl, rfl⟩
    · rw [hasP_y (hR.1.trans hV.1) hP hp, one_y hV.1 hP hp, bd1s, bd1s, if_neg i10, if_neg i10, said_c hR hV hw hp, said_m ln122 hV hw hp]
      exact ⟨_, rfl, rfl⟩
/-- whether one may carry: both sides say the same -/
theorem why {u : Um} {P W dd : Nat} (hV : VR (u.1 122) P W dd) (hR : RC u 3 (u.1 122) P W) (a b : Int32) : (∃ r : Int32, ¬ r = 0 ∧ fX7_refuseCarrying a b u = some r ∧ fX8_whyNot a b u = some r) ∨ (∃ w p, w < W ∧ p < P ∧ a = nI w ∧ b = nI p ∧ sMay (u.1 122) w p ∧ fX7_refuseCarrying a b u = some 0 ∧ fX8_whyNot a b u = some 0) := by
  have hP := hV.2.2.2.1
  have hW := hV.2.2.2.2.1
  unfold fX7_refuseCarrying fX8_whyNot
  rcases ix_of a (n := W) (by omega) with ha | ⟨w, hw, rfl⟩
  · rw [hasW_n (hR.2.1.trans hV.2.1) ha, wr_n hV.2.1 hW ha]
    exact Or.inl ⟨-1, by decide, rfl, rfl⟩
  · rw [hasW_y (hR.2.1.trans hV.2.1) hW hw, wr_y hV.2.1 hW hw, bd1s, bd1s, if_neg i10, if_neg i10]
    rcases ix_of b (n := P) (by omega) with hb | ⟨p, hp, rfl⟩
    · rw [hasP_n (hR.1.trans hV.1) hb, one_n hV.1 hP hb]
      exact Or.inl ⟨-1, by decide, rfl, rfl⟩
    · rw [hasP_y (hR.1.trans hV.1) hP hp, one_y hV.1 hP hp, bd1s, bd1s, if_neg i10, if_neg i10]
      by_cases hm : sMay (u.1 122) w p
      · rw [(may_c hR hV hw hp).1 hm, (may_m ln122 hV hw hp).1 hm]
        exact Or.inr ⟨w, p, hw, hp, rfl, rfl, hm, rfl, rfl⟩
      · rw [(may_c hR hV hw hp).2 hm, (may_m ln122 hV hw hp).2 hm]
        exact Or.inl ⟨-2, by decide, rfl, rfl⟩
theorem s_comes (a b : Int32) : S11 (fX7_comes a b) (fX8_comes a b) := by
  intro u hI
  obtain ⟨P, W, dd, hV, hR, -, -⟩ := IvC_get hI.1
  unfold fX7_comes fX8_comes
  rcases why hV hR a b with ⟨r, h0, h1, h2⟩ | ⟨w, p, hw, hp, rfl, rfl, hm, h1, h2⟩
  · rw [h1, h2, bd1s, bd1s, if_neg h0, if_neg h0]
    exact ⟨r, rfl, rfl⟩
  · rw [h1, h2, bd1s, bd1s, if_pos rfl, if_pos rfl, com_c hR hV hw hp (sn_b hV hw hp), com_m ln122 hV hw hp]
    exact ⟨_, rfl, rfl⟩
