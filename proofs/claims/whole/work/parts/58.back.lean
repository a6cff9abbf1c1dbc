/-! ===== undo, image, restore, feed ===== -/
theorem s_undo : S22 fX7_undo fX8_undo := by
  intro u hI
  obtain ⟨i1, i2, i3, i4, i5⟩ := hI
  have hI : Inv u := ⟨i1, i2, i3, i4, i5⟩
  obtain ⟨n, nx, hn24, hx, a1, a2, a3, a4⟩ := i2
  have er : irm (nI nx + 24 - 1) 24 = nI ((nx + 23) % 24) := by
    rw [show (nI nx + 24 : Int32) = nI (nx + 24) from nI_add nx 24, show (nI (nx + 24) - 1 : Int32) = nI (nx + 24 - 1) from pk_sub (a := nx + 24) (b := 1) (by omega)]
    exact irmN (d := 24) (by omega) (by decide) (by decide)
  have hlt : (nx + 23) % 24 < 24 := Nat.mod_lt _ (by decide)
  have hkd : kd (11 + 3 * ((nx + 23) % 24)) = 0 := by
    have key : ∀ q, q < 24 → kd (11 + 3 * q) = 0 := by decide +kernel
    exact key _ hlt
  have hat : fX3_at (nI ((nx + 23) % 24)) u = some (some (11 + 3 * ((nx + 23) % 24))) := by
    unfold fX3_at
    rw [if_neg (nI_pos (by omega)), if_pos ((ltr24 (by omega)).mpr hlt), if_pos (inbN hlt (by decide)), nI_clamp (by omega)]
  unfold fX7_undo fX3_takeBack
  rw [a3, er]
  simp only [nm]
  rw [hat, bd1s, spl_e hkd, a1]
  by_cases h0 : n = 0
  · subst h0
    refine ⟨-4, u, u, rfl, ?_, hI⟩
    unfold fX8_undo
    rw [a2, if_pos (show nI 0 = 0 from rfl)]
  · rw [if_neg (by rw [ltr1 (by omega)]; omega)]
    obtain ⟨u1, e1, f1, f2, f3, f4, f5, f6, f7⟩ := copy_spec (a := 3) (b := 11 + 3 * ((nx + 23) % 24)) (by omega) u
    rw [e1, bd1s, bd2s, if_neg i10]
    have en : (nI n - 1 : Int32) = nI (n - 1) := pk_sub (a := n) (b := 1) (by omega)
    have h9 : u1.1 9 = u.1 9 := f1 9 (by decide) (by decide) (by decide)
    have w92 : (sI (sI u1 9 1 (nI ((nx + 23) % 24))) 9 2 (nI (n - 1))).1 9 2 = nI (n - 1) := sI_eq
    obtain ⟨u3, e3, g1, g2, g3, g4⟩ := bring_spec (s := 127) (d := 122) (i0 := 83 * (n - 1)) (j0 := 0) (n := 83) (I := 83 * nI (n - 1)) (J := 0) (N := 83) (pk_mul 83 (n - 1)) rfl rfl (by rw [ln127]; omega) (by rw [ln122]; omega) (by rw [ln127]; omega) (by rw [ln122]; omega) (Or.inl (by decide)) (by decide) (sI (sI (sI u1 9 1 (nI ((nx + 23) % 24))) 9 2 (nI (n - 1))) 117 12 (nI (n - 1)))
    have q117 : u3.1 117 12 = nI (n - 1) := by rw [g1 117 (by decide), sI_eq]
    refine ⟨nI (n - 1), sI (sI u1 9 1 (nI ((nx + 23) % 24))) 9 2 (nI (n - 1)), u3, ?_, ?_, ?_⟩
    · unfold fX3_acts
      rw [sI_ot (show 2 ≠ 1 by decide), h9, a1, en, bd1s, w92]
    · have z : (sI (sI u1 9 1 (nI ((nx + 23) % 24))) 9 2 (nI (n - 1))).1 117 12 = nI n := by
        rw [sI_ne (by decide), sI_ne (by decide), f1 117 (by decide) (by decide) (by decide)]; exact a2
      unfold fX8_undo
      rw [z, if_neg (by rw [eqr0 (by omega)]; exact h0), en]
      simp only [nm]
      rw [sI_eq, e3, bd1s, q117]
    · have all : ∀ k, k ≠ 3 → k ≠ 4 → k ≠ 5 → k ≠ 9 → k ≠ 117 → k ≠ 122 → u3.1 k = u.1 k := fun k b1 b2 b3 b4 b5 b6 => by
        rw [g1 k b6, sI_ne b5, sI_ne b4, sI_ne b4, f1 k b1 b2 b3]
      have c9 : u3.1 9 = upd (upd (u.1 9) 1 (nI ((nx + 23) % 24))) 2 (nI (n - 1)) := by
        rw [g1 9 (by decide), sI_ne (by decide), sI_row, sI_row, h9]
      have m3 : ∀ k, k = 3 ∨ k = 4 ∨ k = 5 → u3.1 k = u1.1 k := fun k hk => by
        rw [g1 k (by omega), sI_ne (by omega), sI_ne (by omega), sI_ne (by omega)]
      refine ⟨Or.inr ?_, ?_, ?_, ?_, ?_⟩
      · have hc := a4 (n - 1) (by omega)
        rw [show (nx + 24 - n + (n - 1)) % 24 = (nx + 23) % 24 by omega] at hc
        refine CP_copy hc ?_ ?_ ?_ (fun i hi => ?_) (fun i hi => ?_) (fun i hi => ?_)
        · rw [m3 3 (by omega)]; exact f3
        · rw [m3 3 (by omega)]; exact f4
        · rw [m3 3 (by omega)]; exact f5
        · rw [m3 (3 + 1) (by omega)]; exact f6 i hi
        · rw [m3 (3 + 2) (by omega)]; exact f7 i hi
        · have := g4 i hi
          rw [Nat.zero_add, sI_ne (by decide), sI_ne (by decide), sI_ne (by decide), f1 127 (by decide) (by decide) (by decide)] at this
          exact this
      · refine ⟨n - 1, (nx + 23) % 24, by omega, hlt, by rw [c9]; exact pk_us, q117, by rw [c9, pk_un (by decide)]; exact pk_us, fun j hj => ?_⟩
        rw [show ((nx + 23) % 24 + 24 - (n - 1) + j) % 24 = (nx + 24 - n + j) % 24 by omega]
        have hm : (nx + 24 - n + j) % 24 < 24 := Nat.mod_lt _ (by decide)
        exact CP_fr (a4 j (by omega)) (all _ (by omega) (by omega) (by omega) (by omega) (by omega) (by omega)) (all _ (by omega) (by omega) (by omega) (by omega) (by omega) (by omega)) (all _ (by omega) (by omega) (by omega) (by omega) (by omega) (by omega)) (fun i _ => by rw [all 127 (by decide) (by decide) (by decide) (by decide) (by decide) (by decide)])
      · exact IvM_fr i3 (fun k hk => all k (by omega) (by omega) (by omega) (by omega) (by omega) (by omega))
      · exact IvT_fr i4 (all 1 (by decide) (by decide) (by decide) (by decide) (by decide) (by decide)) (all 2 (by decide) (by decide) (by decide) (by decide) (by decide) (by decide)) (all 121 (by decide) (by decide) (by decide) (by decide) (by decide) (by decide)) (by rw [g1 117 (by decide), sI_ot (by decide), sI_ne (by decide), sI_ne (by decide), f1 117 (by decide) (by decide) (by decide)])
      · exact IvS_fr i5 (fun k hk => all k (by omega) (by omega) (by omega) (by omega) (by omega) (by omega)) (by rw [g2]; exact f2)
theorem im_at {k : Nat} (u : Um) (hk : k < 2) : fX7_imageAt (nI k) u = some (some (84 + 3 * k)) := by
  unfold fX7_imageAt
  rw [if_neg (nI_pos (by omega)), if_pos ((ltr2 (by omega)).mpr hk), if_pos (inbN hk (by decide)), nI_clamp (by omega)]
theorem im_no {x : Int32} (u : Um) (h : x < 0 ∨ nI 2 ≤ x) : fX7_imageAt x u = some none := by
  unfold fX7_imageAt
  by_cases h0 : x < 0
  · rw [if_pos h0]
  · rw [if_neg h0, if_neg (show ¬ x < 2 from fun h2 => Int32.not_le.mpr h2 (h.resolve_left h0))]
theorem im_kd : ∀ k, k < 2 → kd (84 + 3 * k) = 0 := by decide +kernel
theorem in01_n {x : Int32} (u : Um) (h : x < 0 ∨ nI 2 ≤ x) : fX8_in x 0 1 u = some 0 := in_n (hi := 1) (h.imp id (fun h => (last_lt (P := 2) (by decide)).mpr h))
theorem in01_y {k : Nat} (u : Um) (h : k < 2) : fX8_in (nI k) 0 1 u = some 1 := in_y (nI_pos (by omega)) (by rw [ltl1 (by omega)]; omega)
theorem there_fr {u u' : Um} (h : u'.1 122 = u.1 122) : fX8_isThere u' = fX8_isThere u := by
  unfold fX8_isThere
  rw [h]
theorem s_image (a : Int32) : S22 (fX7_image a) (fX8_image a) := by
  intro u hI
  unfold fX7_image fX8_image
  rcases ix_of a (n := 2) (by decide) with ha | ⟨k, hk, rfl⟩
  · refine ⟨-1, u, u, ?_, ?_, hI⟩
    · rw [im_no u ha]; rfl
    · rw [in01_n u ha]; rfl
  · rw [im_at u hk, bd1s, spl_e (im_kd k hk)]
    rcases stand_or hI.1 with ⟨h1, h2, -⟩ | ⟨h1, h2, hC⟩
    · refine ⟨-2, u, u, ?_, ?_, hI⟩
      · rw [h1, bd1s, if_pos rfl]
      · rw [in01_y u hk, bd1s, if_neg i10, h2, bd1s, if_pos rfl]
    · obtain ⟨u1, e1, f1, f2, f3, f4, f5, f6, f7⟩ := copy_spec (a := 84 + 3 * k) (b := 3) (by omega) u
      obtain ⟨u3, e3, g1, g2, g3, g4⟩ := bring_spec (s := 122) (d := 125) (i0 := 0) (j0 := 83 * k) (n := 83) (I := 0) (J := 83 * nI k) (N := 83) rfl (pk_mul 83 k) rfl (by rw [ln122]; omega) (by rw [ln125]; omega) (by rw [ln122]; omega) (by rw [ln125]; omega) (Or.inl (by decide)) (by decide) u1
      have q122 : u1.1 122 = u.1 122 := f1 122 (by omega) (by omega) (by omega)
      have r122 : u3.1 122 = u.1 122 := (g1 122 (by decide)).trans q122
      obtain ⟨P, W, dd, hP2, hW1, hd, hV, hR⟩ := id hC
      refine ⟨nI dd, u1, sI u3 126 k 1, ?_, ?_, ?_⟩
      · rw [h1, bd1s, if_neg i10, e1, bd1s]
        show some (u1.1 3 4, u1) = _
        rw [f1 3 (by omega) (by omega) (by omega), hR.2.2.1, hV.2.2.1]
      · rw [in01_y u1 hk, bd1s, if_neg i10, there_fr q122, h2, bd1s, if_neg i10, e3, bd1s, if_pos (inbN hk (by decide)), nI_clamp (by omega), show vp_nar .boolean 1 = 1 from by decide]
        simp only [nm]
        rw [if_pos b083, cl0, sI_ne (by decide), r122, hV.2.2.1]
      · have all : ∀ j, j ≠ 84 + 3 * k → j ≠ 84 + 3 * k + 1 → j ≠ 84 + 3 * k + 2 → j ≠ 125 → j ≠ 126 → (sI u3 126 k 1).1 j = u.1 j := fun j b1 b2 b3 b4 b5 => by
          rw [sI_ne b5, g1 j b4, f1 j b1 b2 b3]
        obtain ⟨i1, i2, i3, i4, i5⟩ := hI
        refine ⟨IvC_fr i1 (all _ (by omega) (by omega) (by omega) (by omega) (by omega)) (all _ (by omega) (by omega) (by omega) (by omega) (by omega)) (all _ (by omega) (by omega) (by omega) (by omega) (by omega)) (all _ (by omega) (by omega) (by omega) (by omega) (by omega)), IvP_fr i2 (fun j hj => all _ (by omega) (by omega) (by omega) (by omega) (by omega)) (by rw [all 117 (by omega) (by omega) (by omega) (by omega) (by omega)]), ?_, IvT_fr i4 (all _ (by omega) (by omega) (by omega) (by omega) (by omega)) (all _ (by omega) (by omega) (by omega) (by omega) (by omega)) (all _ (by omega) (by omega) (by omega) (by omega) (by omega)) (by rw [all 117 (by omega) (by omega) (by omega) (by omega) (by omega)]), IvS_fr i5 (fun j hj => all _ (by omega) (by omega) (by omega) (by omega) (by omega)) (by rw [sI_2, g2, f2])⟩
        intro j hj
        by_cases hjk : j = k
        · subst hjk
          refine Or.inr ⟨sI_eq, CP_copy hC ?_ ?_ ?_ (fun i hi => ?_) (fun i hi => ?_) (fun i hi => ?_)⟩
          · rw [sI_ne (by omega), g1 _ (by omega)]; exact f3
          · rw [sI_ne (by omega), g1 _ (by omega)]; exact f4
          · rw [sI_ne (by omega), g1 _ (by omega)]; exact f5
          · rw [sI_ne (by omega), g1 _ (by omega)]; exact f6 i hi
          · rw [sI_ne (by omega), g1 _ (by omega)]; exact f7 i hi
          · rw [sI_ne (by decide), g4 i hi, Nat.zero_add, q122]
        · have e126 : (sI u3 126 k 1).1 126 j = u.1 126 j := by rw [sI_ot hjk, g1 126 (by decide), f1 126 (by omega) (by omega) (by omega)]
          rcases i3 j hj with ⟨b1, b2⟩ | ⟨b1, b2⟩
          · exact Or.inl ⟨e126.trans b1, by rw [all (84 + 3 * j) (by omega) (by omega) (by omega) (by omega) (by omega)]; exact b2⟩
          · refine Or.inr ⟨e126.trans b1, CP_fr b2 (all _ (by omega) (by omega) (by omega) (by omega) (by omega)) (all _ (by omega) (by omega) (by omega) (by omega) (by omega)) (all _ (by omega) (by omega) (by omega) (by omega) (by omega)) (fun i hi => ?_)⟩
            show (sI u3 126 k 1).1 125 (83 * j + i) = u.1 125 (83 * j + i)
            rw [sI_ne (by decide), g3 _ (by omega), f1 125 (by omega) (by omega) (by omega)]
theorem s_restore (a : Int32) : S22 (fX7_restore a) (fX8_restore a) := by
  intro u hI
  unfold fX7_restore fX8_restore
  rcases ix_of a (n := 2) (by decide) with ha | ⟨k, hk, rfl⟩
  · refine ⟨-1, u, u, ?_, ?_, hI⟩
    · rw [im_no u ha]; rfl
    · rw [in01_n u ha]; rfl
  · rw [im_at u hk, bd1s, spl_e (im_kd k hk)]
    rcases hI.2.2.1 k hk with ⟨h1, h2⟩ | ⟨h1, hC⟩
    · refine ⟨-2, u, u, ?_, ?_, hI⟩
      · unfold fX0_stands
        rw [h2, if_pos (by decide), bd1s, if_pos rfl]
      · rw [in01_y u hk, bd1s, if_neg i10, if_pos (inbN hk (by decide)), nI_clamp (by omega), h1, if_pos rfl]
    · obtain ⟨P, W, dd, hP2, hW1, hd, hV, hR⟩ := id hC
      have hP := hV.2.2.2.1
      have hst : fX0_stands (84 + 3 * k) u = some 1 := by
        unfold fX0_stands
        rw [hR.1.trans hV.1, if_neg (by rw [ler0 (by omega)]; omega)]
      obtain ⟨u1, e1, f1, f2, f3, f4, f5, f6, f7⟩ := copy_spec (a := 3) (b := 84 + 3 * k) (by omega) u
      obtain ⟨u3, e3, g1, g2, g3, g4⟩ := bring_spec (s := 125) (d := 122) (i0 := 83 * k) (j0 := 0) (n := 83) (I := 83 * nI k) (J := 0) (N := 83) (pk_mul 83 k) rfl rfl (by rw [ln125]; omega) (by rw [ln122]; omega) (by rw [ln125]; omega) (by rw [ln122]; omega) (Or.inl (by decide)) (by decide) (sI u1 9 2 0)
      have row : ∀ i, i < 83 → u3.1 122 i = u.1 125 (83 * k + i) := fun i hi => by
        have := g4 i hi
        rw [Nat.zero_add, sI_ne (by decide), f1 125 (by omega) (by omega) (by omega)] at this
        exact this
      refine ⟨nI dd, sI u1 9 2 0, sI u3 117 12 0, ?_, ?_, ?_⟩
      · rw [hst, bd1s, if_neg i10, e1, bd1s]
        unfold fX3_forget
        simp only [nm]
        rw [bd1s]
        show some ((sI u1 9 2 0).1 3 4, sI u1 9 2 0) = _
        rw [sI_ne (by decide), f5, hR.2.2.1, hV.2.2.1]
      · rw [in01_y _ hk, bd1s, if_neg i10, if_pos (inbN hk (by decide)), nI_clamp (by omega), sI_ne (by decide), f1 126 (by omega) (by omega) (by omega), h1, if_neg i10, e3, bd1s]
        simp only [nm]
        rw [if_pos b083, cl0, sI_ne (by decide), row 0 (by decide), show u.1 125 (83 * k + 0) = nI dd from hV.2.2.1]
      · have all : ∀ j, j ≠ 3 → j ≠ 4 → j ≠ 5 → j ≠ 9 → j ≠ 117 → j ≠ 122 → (sI u3 117 12 0).1 j = u.1 j := fun j b1 b2 b3 b4 b5 b6 => by
          rw [sI_ne b5, g1 j b6, sI_ne b4, f1 j b1 b2 b3]
        have m3 : ∀ j, j = 3 ∨ j = 4 ∨ j = 5 → (sI u3 117 12 0).1 j = u1.1 j := fun j hj => by
          rw [sI_ne (by omega), g1 j (by omega), sI_ne (by omega)]
        obtain ⟨i1, ⟨n, nx, hn24, hx, a1, a2, a3, a4⟩, i3, i4, i5⟩ := hI
        refine ⟨Or.inr (CP_copy hC ?_ ?_ ?_ (fun i hi => ?_) (fun i hi => ?_) (fun i hi => ?_)), ⟨0, nx, by decide, hx, ?_, sI_eq, ?_, fun j hj => absurd hj (Nat.not_lt_zero j)⟩, IvM_fr i3 (fun j hj => all _ (by omega) (by omega) (by omega) (by omega) (by omega) (by omega)), IvT_fr i4 (all _ (by omega) (by omega) (by omega) (by omega) (by omega) (by omega)) (all _ (by omega) (by omega) (by omega) (by omega) (by omega) (by omega)) (all _ (by omega) (by omega) (by omega) (by omega) (by omega) (by omega)) ?_, IvS_fr i5 (fun j hj => all _ (by omega) (by omega) (by omega) (by omega) (by omega) (by omega)) (by rw [sI_2, g2, sI_2, f2])⟩
        · rw [m3 3 (by omega)]; exact f3
        · rw [m3 3 (by omega)]; exact f4
        · rw [m3 3 (by omega)]; exact f5
        · rw [m3 (3 + 1) (by omega)]; exact f6 i hi
        · rw [m3 (3 + 2) (by omega)]; exact f7 i hi
        · rw [sI_ne (by decide)]; exact row i hi
        · rw [sI_ne (by decide), g1 9 (by decide), sI_eq]; rfl
        · rw [sI_ne (by decide), g1 9 (by decide), sI_ot (by decide), f1 9 (by omega) (by omega) (by omega)]; exact a3
        · rw [sI_ot (by decide), g1 117 (by decide), sI_ne (by decide), f1 117 (by omega) (by omega) (by omega)]
theorem s_feed (a : Int32) : S22 (fX7_feed a) (fX8_feed a) := by
  intro u hI
  unfold fX7_feed fX8_feed
  rcases ix_of a (n := 256) (by decide) with ha | ⟨b, hb, rfl⟩
  · refine ⟨-1, u, u, ?_, ?_, hI⟩
    · by_cases h0 : a < 0
      · rw [if_pos h0]
      · have h256 := ha.resolve_left h0
        rw [if_neg h0, if_neg (show ¬ a ≤ 255 from fun h => by
          rw [Int32.le_iff_toInt_le] at h h256
          have e1 : (255 : Int32).toInt = 255 := by decide
          have e2 : (nI 256).toInt = 256 := by decide
          omega)]
    · rw [in_n (hi := 255) (ha.imp id (fun h => by
        rw [Int32.le_iff_toInt_le] at h
        rw [Int32.lt_iff_toInt_lt]
        have e1 : (255 : Int32).toInt = 255 := by decide
        have e2 : (nI 256).toInt = 256 := by decide
        omega)), bd1s, if_pos rfl]
  · have hin : ∀ v : Um, fX8_in (nI b) 0 255 v = some 1 := fun v => in_y (nI_pos (by omega)) (by rw [ltl255 (by omega)]; omega)
    rw [if_neg (nI_pos (n := b) (by omega)), if_pos ((ler255 (by omega)).mpr (by omega))]
    obtain ⟨i1, i2, i3, ⟨n, hn, t1, t2, t3⟩, i5⟩ := id hI
    unfold fX6_add
    rw [t1, if_neg (nI_pos (n := n) (by omega))]
    by_cases h130 : n = 130
    · subst h130
      refine ⟨-3, u, u, rfl, ?_, hI⟩
      rw [hin, bd1s, if_neg i10, t2, if_pos (show nI 130 = 130 from rfl)]
    · have e1 : (nI n + 1 : Int32) = nI (n + 1) := nI_1 n
      rw [if_pos ((ltr130 (by omega)).mpr (by omega)), if_pos (inbN (show n < 130 by omega) (by decide)), nI_clamp (by omega)]
      simp only [nm]
      rw [bd2s, if_neg i10, sI_ne (show 1 ≠ 2 by decide), t1, e1]
      refine ⟨nI (n + 1), sI (sI u 2 n (nI b)) 1 1 (nI (n + 1)), sI (sI (sI (sI u 2 n (nI b)) 1 1 (nI (n + 1))) 121 n (nI b)) 117 3 (nI (n + 1)), ?_, ?_, ?_⟩
      · unfold fX6_length
        rw [bd1s, sI_eq]
      · rw [hin, bd1s, if_neg i10, sI_ne (by decide), sI_ne (by decide), t2, if_neg (by rw [eqr130 (by omega)]; exact h130), if_pos (inbN (show n < 130 by omega) (by decide)), nI_clamp (by omega), sI_eq, sI_ne (show 117 ≠ 121 by decide), sI_ne (show 117 ≠ 1 by decide), sI_ne (show 117 ≠ 2 by decide), t2, e1]
      · have all : ∀ j, j ≠ 1 → j ≠ 2 → j ≠ 117 → j ≠ 121 → (sI (sI (sI (sI u 2 n (nI b)) 1 1 (nI (n + 1))) 121 n (nI b)) 117 3 (nI (n + 1))).1 j = u.1 j := fun j b1 b2 b3 b4 => by
          rw [sI_ne b3, sI_ne b4, sI_ne b1, sI_ne b2]
        refine ⟨IvC_fr i1 (all _ (by omega) (by omega) (by omega) (by omega)) (all _ (by omega) (by omega) (by omega) (by omega)) (all _ (by omega) (by omega) (by omega) (by omega)) (all _ (by omega) (by omega) (by omega) (by omega)), IvP_fr i2 (fun j hj => all _ (by omega) (by omega) (by omega) (by omega)) ?_, IvM_fr i3 (fun j hj => all _ (by omega) (by omega) (by omega) (by omega)), ⟨n + 1, by omega, ?_, sI_eq, fun i hi => ?_⟩, IvS_fr i5 (fun j hj => all _ (by omega) (by omega) (by omega) (by omega)) rfl⟩
        · rw [sI_ot (by decide), sI_ne (by decide), sI_ne (by decide), sI_ne (by decide)]
        · rw [sI_ne (by decide), sI_ne (by decide), sI_eq]
        · rw [sI_ne (by decide), sI_ne (by decide), sI_ne (by decide), sI_ne (show 121 ≠ 117 by decide)]
          by_cases hin2 : i = n
          · subst hin2
            rw [sI_eq, sI_eq]
            exact ⟨rfl, b, hb, rfl⟩
          · rw [sI_ot hin2, sI_ot hin2, sI_ne (by decide), sI_ne (by decide)]
            exact t3 i (by omega)
