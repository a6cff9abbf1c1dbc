/-! ===== acts: pass, lend, harden, sin, carry ===== -/
theorem b083 : inb 0 83 = true := by decide
theorem b283 : inb 2 83 = true := by decide
theorem cl0 : (0 : Int32).toNatClampNeg = 0 := by decide
theorem cl1 : (1 : Int32).toNatClampNeg = 1 := by decide
theorem cl2 : (2 : Int32).toNatClampNeg = 2 := by decide
theorem sI_row {u : Um} {k i : Nat} {v : Int32} : (sI u k i v).1 k = upd (u.1 k) i v := by simp [sI, sIr]
theorem sIr_ne {u : Um} {k j : Nat} {f : Nat → Int32} (h : j ≠ k) : (sIr u k f).1 j = u.1 j := by simp [sIr, h]
theorem sIr_2 {u : Um} {k : Nat} {f : Nat → Int32} : (sIr u k f).2 = u.2 := rfl
theorem sIr_self (u : Um) (k : Nat) : sIr u k (u.1 k) = u := by
  unfold sIr
  refine Prod.ext (funext fun j => ?_) rfl
  show (if j = k then u.1 k else u.1 j) = u.1 j
  by_cases h : j = k
  · rw [if_pos h, h]
  · rw [if_neg h]
theorem sI_sIr {u : Um} {s i : Nat} {c : Nat → Int32} {v : Int32} : sI (sIr u s c) s i v = sIr u s (upd c i v) := by
  unfold sI
  rw [sIr_at]
  unfold sIr
  refine Prod.ext (funext fun j => ?_) rfl
  by_cases h : j = s <;> simp [h]
theorem stand_or {u : Um} (h : IvC u) : (fX0_stands 3 u = some 0 ∧ fX8_isThere u = some 0 ∧ u.1 3 2 = 0 ∧ u.1 122 1 = 0 ∧ u.1 3 3 = 0 ∧ u.1 122 2 = 0) ∨ (fX0_stands 3 u = some 1 ∧ fX8_isThere u = some 1 ∧ CP u 3 (u.1 122)) := by
  rcases h with ⟨h1, h2, h3, h4, h5, h6⟩ | h
  · refine Or.inl ⟨?_, ?_, h4, h1, h5, h2⟩
    · unfold fX0_stands
      rw [h4, if_pos (by decide)]
    · unfold fX8_isThere
      rw [if_pos (by decide)]
      show (if u.1 122 1 ≤ 0 then some (0 : Int32) else some 1) = _
      rw [h1, if_pos (by decide)]
  · refine Or.inr ⟨?_, ?_, h⟩ <;> obtain ⟨P, W, dd, hP, hW, hd, hV, hR⟩ := h
    · have hP6 := hV.2.2.2.1
      unfold fX0_stands
      rw [hR.1.trans hV.1, if_neg (by rw [ler0 (by omega)]; omega)]
    · have hP6 := hV.2.2.2.1
      unfold fX8_isThere
      rw [if_pos (by decide)]
      show (if u.1 122 1 ≤ 0 then some (0 : Int32) else some 1) = _
      rw [hV.1, if_neg (by rw [ler0 (by omega)]; omega)]
theorem act_go {u : Um} (hI : Inv u) (hC : CP u 3 (u.1 122)) : ∃ u1, fX3_keep 3 u = some u1 ∧ u1.1 3 = u.1 3 ∧ u1.1 4 = u.1 4 ∧ u1.1 5 = u.1 5 ∧ u1.1 122 = u.1 122 ∧ ∀ u2 : Um, (∀ k, k ≠ 3 → k ≠ 4 → k ≠ 5 → u2.1 k = u1.1 k) → u2.2 = u1.2 → ∃ u3, fX8_note u2 = some u3 ∧ u3.1 3 = u2.1 3 ∧ u3.1 4 = u2.1 4 ∧ u3.1 5 = u2.1 5 ∧ u3.1 122 = u.1 122 ∧ ∀ u4 : Um, (∀ k, k ≠ 122 → u4.1 k = u3.1 k) → u4.2 = u3.2 → CP u4 3 (u4.1 122) → Inv u4 := by
  obtain ⟨n, nx, hn24, hx, a1, a2, a3, a4⟩ := hI.2.1
  obtain ⟨u1, e1, f1, f2, -, -, -, -, -, -, -⟩ := keep_spec hn24 hx a1 a3
  refine ⟨u1, e1, f1 3 (by omega) (by omega) (by omega) (by omega), f1 4 (by omega) (by omega) (by omega) (by omega), f1 5 (by omega) (by omega) (by omega) (by omega), f1 122 (by omega) (by omega) (by omega) (by omega), fun u2 h2 h22 => ?_⟩
  have hvn : u2.1 117 12 = nI n := by rw [h2 117 (by decide) (by decide) (by decide), f1 117 (by decide) (by omega) (by omega) (by omega)]; exact a2
  obtain ⟨u3, e3, g1, g2, g3, -⟩ := note_spec hn24 hvn
  refine ⟨u3, e3, g1 3 (by decide) (by decide), g1 4 (by decide) (by decide), g1 5 (by decide) (by decide), ?_, fun u4 h4 h42 hCP => act_Inv hI hC e1 h2 h22 e3 h4 h42 hCP⟩
  rw [g1 122 (by decide) (by decide), h2 122 (by decide) (by decide) (by decide), f1 122 (by omega) (by omega) (by omega) (by omega)]
theorem change_go {u : Um} {P W dd p k : Nat} {v : Int32} (hI : Inv u) (hP2 : 2 ≤ P) (hW1 : 1 ≤ W) (hd : dd ≤ 9999) (hV : VR (u.1 122) P W dd) (hR : RC u 3 (u.1 122) P W) (hp : p < P) (hk : k < 8) (hv : okv P dd (3 + 6 * k + p) v) (hne : ¬ u.1 122 (3 + 6 * k + p) = v) : ∃ u1 u2, fX7_change (nI p) (nI k) v u = some (u.1 122 (3 + 6 * k + p), u1) ∧ fX8_note u1 = some u2 ∧ u2.1 122 = u.1 122 ∧ Inv (sI u2 122 (3 + 6 * k + p) v) := by
  have hP := hV.2.2.2.1
  have hW := hV.2.2.2.2.1
  obtain ⟨u1, e1, b3, b4, b5, b122, hgo⟩ := act_go hI ⟨P, W, dd, hP2, hW1, hd, hV, hR⟩
  obtain ⟨u3, e3, c3, c4, c5, c122, hgo2⟩ := hgo (sI u1 4 (8 * p + k) v) (fun k' h1 h2 h3 => sI_ne h2) rfl
  refine ⟨sI u1 4 (8 * p + k) v, u3, ?_, e3, c122, ?_⟩
  · unfold fX7_change
    rw [tr_at 3 u (by omega) hk, bd1s, hR.2.2.2.1 p k hp hk]
    show (if u.1 122 (3 + 6 * k + p) = v then _ else _) = _
    rw [if_neg hne, e1, bd1s, str_at 3 v u1 (by omega) hk, bd1s]
  · refine hgo2 _ (fun k' h => sI_ne h) rfl ?_
    rw [sI_row, c122]
    refine ⟨P, W, dd, hP2, hW1, hd, VR_set hV (by omega) hv, ?_⟩
    have r1 : RC (sI u1 4 (8 * p + k) v) 3 (upd (u.1 122) (3 + 6 * k + p) v) P W := RC_setT (RC_fr hR b3 b4 b5) hP hW hp hk
    exact RC_fr r1 ((sI_ne (by decide)).trans c3) ((sI_ne (by decide)).trans c4) ((sI_ne (by decide)).trans c5)
theorem change_no {u : Um} {P W dd p k : Nat} {v : Int32} (hV : VR (u.1 122) P W dd) (hR : RC u 3 (u.1 122) P W) (hp : p < P) (hk : k < 8) (he : u.1 122 (3 + 6 * k + p) = v) : fX7_change (nI p) (nI k) v u = some (-2, u) := by
  have hP := hV.2.2.2.1
  unfold fX7_change
  rw [tr_at 3 u (by omega) hk, bd1s, hR.2.2.2.1 p k hp hk]
  show (if u.1 122 (3 + 6 * k + p) = v then _ else _) = _
  rw [if_pos he]
theorem s_pass : S22 fX7_pass fX8_pass := by
  intro u hI
  rcases stand_or hI.1 with ⟨h1, h2, -⟩ | ⟨h1, h2, hC⟩
  · refine ⟨-2, u, u, ?_, ?_, hI⟩
    · unfold fX7_pass; rw [h1, bd1s, if_pos rfl]
    · unfold fX8_pass; rw [h2, bd1s, if_pos rfl]
  · have hC' := hC
    obtain ⟨P, W, dd, hP2, hW1, hd, hV, hR⟩ := hC
    have hP := hV.2.2.2.1
    have hW := hV.2.2.2.2.1
    have e4 : u.1 3 4 = nI dd := hR.2.2.1.trans hV.2.2.1
    have e0 : u.1 122 0 = nI dd := hV.2.2.1
    unfold fX7_pass fX8_pass
    rw [h1, bd1s, if_neg i10]
    show ∃ r u1 u2, bd1 (some (u.1 3 4)) _ = _ ∧ _
    rw [bd1s, e4]
    by_cases h9 : dd = 9999
    · refine ⟨-3, u, u, ?_, ?_, hI⟩
      · show (if nI dd < 9999 then _ else _) = _
        rw [if_neg (by rw [ltr9999 (by omega)]; omega)]
      · rw [h2, bd1s, if_neg i10, if_pos (by decide)]
        show (if u.1 122 0 = 9999 then _ else _) = _
        rw [e0, if_pos (by rw [h9]; rfl)]
    · obtain ⟨u1, k1, b3, b4, b5, b122, hgo⟩ := act_go hI hC'
      obtain ⟨u3, k3, c3, c4, c5, c122, hgo2⟩ := hgo (sI u1 3 4 (nI (dd + 1))) (fun k' h1 h2 h3 => sI_ne h1) rfl
      have t : fX8_isThere (sI u1 3 4 (nI (dd + 1))) = some 1 := by
        unfold fX8_isThere at h2 ⊢
        rw [sI_ne (by decide), b122]
        exact h2
      have z4 : u1.1 3 4 = nI dd := by rw [b3]; exact e4
      have z0 : u3.1 122 0 = nI dd := by rw [c122]; exact e0
      refine ⟨nI (dd + 1), sI u1 3 4 (nI (dd + 1)), sI u3 122 0 (nI (dd + 1)), ?_, ?_, ?_⟩
      · show (if nI dd < 9999 then _ else _) = _
        rw [if_pos ((ltr9999 (by omega)).mpr (by omega)), k1, bd1s]
        unfold fX0_nextDay
        simp only [nm]
        rw [bd1s]
        unfold fX0_day
        rw [bd1s, sI_eq, z4, nI_1]
      · rw [t, bd1s, if_neg i10, if_pos (by decide)]
        show (if (sI u1 3 4 (nI (dd + 1))).1 122 0 = 9999 then _ else _) = _
        rw [sI_ne (by decide), b122, e0, if_neg (by rw [eqr9999 (by omega)]; exact h9), k3, bd1s]
        simp only [b083, if_true, cl0, nm]
        rw [z0, nI_1, sI_eq]
      · refine hgo2 _ (fun k' h => sI_ne h) rfl ?_
        rw [sI_row, c122]
        refine ⟨P, W, dd + 1, hP2, hW1, by omega, VR_day hV (by omega), ?_⟩
        have r1 : RC (sI u1 3 4 (nI (dd + 1))) 3 (upd (u.1 122) 0 (nI (dd + 1))) P W := RC_day (RC_fr hR b3 b4 b5) hP hW
        exact RC_fr r1 ((sI_ne (by decide)).trans c3) ((sI_ne (by decide)).trans c4) ((sI_ne (by decide)).trans c5)
theorem CP_of {u : Um} {P W dd p : Nat} (hp : p < P) (h : P = 0 ∧ W = 0 ∧ dd = 0 ∨ 2 ≤ P ∧ 1 ≤ W) : 2 ≤ P ∧ 1 ≤ W := by omega
theorem one_fr {u u' : Um} {x : Int32} (h : u'.1 122 = u.1 122) : fX8_isOne x u' = fX8_isOne x u := by
  unfold fX8_isOne
  rw [if_pos (by decide), if_pos (by decide)]
  show bd1 (fX8_in x 0 (u'.1 122 1 - 1) u') _ = bd1 (fX8_in x 0 (u.1 122 1 - 1) u) _
  rw [h]
  rfl
theorem change_fr {u u1 : Um} {p k v r : Int32} (h : fX7_change p k v u = some (r, u1)) (hI : IvP u) : u1.1 122 = u.1 122 := by
  obtain ⟨n, nx, hn24, hx, a1, a2, a3, a4⟩ := hI
  obtain ⟨w1, e1, f1, -⟩ := keep_spec hn24 hx a1 a3
  unfold fX7_change at h
  cases ht : fX0_trait 3 p k u with
  | none => rw [ht] at h; cases h
  | some v2 =>
    rw [ht, bd1s] at h
    by_cases hv : v2 = v
    · rw [if_pos hv] at h
      cases h
      rfl
    · rw [if_neg hv, e1, bd1s] at h
      cases hs : fX0_setTrait 3 p k v w1 with
      | none => rw [hs] at h; cases h
      | some w2 =>
        rw [hs, bd1s] at h
        have hw : w2.1 122 = w1.1 122 := by
          unfold fX0_setTrait at hs
          simp only [nm] at hs
          split at hs
          · cases hs; rfl
          · split at hs
            · cases hs; rfl
            · split at hs
              · have := Option.some.inj hs
                rw [← this]
                exact sI_ne (by decide)
              · cases hs
        have hu : w2 = u1 := congrArg Prod.snd (Option.some.inj h)
        rw [← hu, hw, f1 122 (by omega) (by omega) (by omega) (by omega)]
theorem s_lend (a b : Int32) : S22 (fX7_lend a b) (fX8_lend a b) := by
  intro u hI
  obtain ⟨P, W, dd, hV, hR, hd, hz⟩ := IvC_get hI.1
  have hP := hV.2.2.2.1
  unfold fX7_lend fX8_lend
  rcases ix_of a (n := P) (by omega) with ha | ⟨p, hp, rfl⟩
  · refine ⟨-1, u, u, ?_, ?_, hI⟩
    · rw [hasP_n (hR.1.trans hV.1) ha, bd1s, if_pos rfl]
    · rw [one_n hV.1 hP ha, bd1s, if_pos rfl]
  · rw [hasP_y (hR.1.trans hV.1) hP hp, bd1s, if_neg i10]
    rcases ix_of b (n := P) (by omega) with hb | ⟨q, hq, rfl⟩
    · refine ⟨-1, u, u, ?_, ?_, hI⟩
      · rw [hasP_n (hR.1.trans hV.1) hb, bd1s, if_pos rfl]
      · rw [one_y hV.1 hP hp, bd1s, if_neg i10, one_n hV.1 hP hb, bd1s, if_pos rfl]
    · rw [hasP_y (hR.1.trans hV.1) hP hq, bd1s, if_neg i10]
      by_cases hpq : nI p = nI q
      · refine ⟨-1, u, u, ?_, ?_, hI⟩
        · rw [if_pos hpq]
        · rw [one_y hV.1 hP hp, bd1s, if_neg i10, one_y hV.1 hP hq, bd1s, if_neg i10, if_pos hpq]
      · rw [if_neg hpq]
        have hz2 : 2 ≤ P ∧ 1 ≤ W := by omega
        by_cases he : u.1 122 (33 + p) = nI q
        · refine ⟨-2, u, u, ?_, ?_, hI⟩
          · rw [show fX7_change (nI p) 5 (nI q) u = _ from change_no (k := 5) hV hR hp (by decide) he, bd2s]
          · rw [one_y hV.1 hP hp, bd1s, if_neg i10, one_y hV.1 hP hq, bd1s, if_neg i10, if_neg hpq, if_pos (ic33 (by omega)), ix33 (by omega)]
            show (if u.1 122 (33 + p) = nI q then _ else _) = _
            rw [if_pos he]
        · obtain ⟨u1, u2, e1, e2, e3, e4⟩ := change_go (p := p) (k := 5) (v := nI q) hI hz2.1 hz2.2 hd hV hR hp (by decide) (by unfold okv; rw [if_neg (by omega), if_neg (by omega), if_pos (by omega)]; exact Or.inr ⟨q, hq, rfl⟩) he
          have h122 := change_fr e1 hI.2.1
          have e1' : fX7_change (nI p) 5 (nI q) u = some (u.1 122 (33 + p), u1) := e1
          refine ⟨u.1 122 (33 + p), u1, sI u2 122 (33 + p) (nI q), ?_, ?_, e4⟩
          · rw [e1', bd2s]
          · rw [one_fr h122, one_fr h122, one_y hV.1 hP hp, bd1s, if_neg i10, one_y hV.1 hP hq, bd1s, if_neg i10, if_neg hpq, if_pos (ic33 (by omega)), ix33 (by omega), h122]
            show (if u.1 122 (33 + p) = nI q then _ else _) = _
            rw [if_neg he, e2, bd1s, if_pos (ic33 (by omega))]
            rfl
theorem s_harden (a b : Int32) : S22 (fX7_harden a b) (fX8_harden a b) := by
  intro u hI
  obtain ⟨P, W, dd, hV, hR, hd, hz⟩ := IvC_get hI.1
  have hP := hV.2.2.2.1
  unfold fX7_harden fX8_harden
  rcases ix_of a (n := P) (by omega) with ha | ⟨p, hp, rfl⟩
  · refine ⟨-1, u, u, ?_, ?_, hI⟩
    · rw [hasP_n (hR.1.trans hV.1) ha, bd1s, if_pos rfl]
    · rw [one_n hV.1 hP ha, bd1s, if_pos rfl]
  · rw [hasP_y (hR.1.trans hV.1) hP hp, bd1s, if_neg i10]
    rcases ix_of b (n := 10) (by omega) with hb | ⟨q, hq, rfl⟩
    · refine ⟨-1, u, u, ?_, ?_, hI⟩
      · by_cases h0 : b < 0
        · rw [if_pos h0]
        · rw [if_neg h0, if_neg (show ¬ b ≤ 9 from fun h => Int32.not_le.mpr ((last_lt (P := 10) (by decide)).mpr (hb.resolve_left h0)) h)]
      · rw [one_y hV.1 hP hp, bd1s, if_neg i10, in_n (hi := 9) (hb.imp id (fun h => (last_lt (P := 10) (by decide)).mpr h)), bd1s, if_pos rfl]
    · have hin : ∀ v : Um, fX8_in (nI q) 0 9 v = some 1 := fun v => in_y (nI_pos (by omega)) (by rw [ltl9 (by omega)]; omega)
      rw [if_neg (nI_pos (n := q) (by omega)), if_pos ((ler9 (by omega)).mpr (by omega))]
      have hz2 : 2 ≤ P ∧ 1 ≤ W := by omega
      by_cases he : u.1 122 (15 + p) = nI q
      · refine ⟨-2, u, u, ?_, ?_, hI⟩
        · rw [show fX7_change (nI p) 2 (nI q) u = _ from change_no (k := 2) hV hR hp (by decide) he, bd2s]
        · rw [one_y hV.1 hP hp, bd1s, if_neg i10, hin, bd1s, if_neg i10, if_pos (ic15 (by omega)), ix15 (by omega)]
          show (if u.1 122 (15 + p) = nI q then _ else _) = _
          rw [if_pos he]
      · obtain ⟨u1, u2, e1, e2, e3, e4⟩ := change_go (p := p) (k := 2) (v := nI q) hI hz2.1 hz2.2 hd hV hR hp (by decide) (by unfold okv; rw [if_neg (by omega), if_pos (by omega)]; exact ⟨q, by omega, rfl⟩) he
        have h122 := change_fr e1 hI.2.1
        have e1' : fX7_change (nI p) 2 (nI q) u = some (u.1 122 (15 + p), u1) := e1
        refine ⟨u.1 122 (15 + p), u1, sI u2 122 (15 + p) (nI q), ?_, ?_, e4⟩
        · rw [e1', bd2s]
        · rw [one_fr h122, one_y hV.1 hP hp, bd1s, if_neg i10, hin, bd1s, if_neg i10, if_pos (ic15 (by omega)), ix15 (by omega), h122]
          show (if u.1 122 (15 + p) = nI q then _ else _) = _
          rw [if_neg he, e2, bd1s, if_pos (ic15 (by omega))]
          rfl
