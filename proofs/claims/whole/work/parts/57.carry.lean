/-! ===== sin and carry ===== -/
def sAdd (c : Nat → Int32) (W : Nat) (x y z : Int32) : Nat → Int32 := upd (upd (upd (upd (upd c (51 + W) x) (59 + W) y) (67 + W) z) (75 + W) (-4)) 2 (nI (W + 1))
theorem add_VR {c : Nat → Int32} {P W dd x y z : Nat} (h : VR c P W dd) (hW : W < 8) (hx : x < P) (hy : y < P) (h1 : 1 ≤ z) (h9 : z ≤ 9) : VR (sAdd c W (nI x) (nI y) (nI z)) P (W + 1) dd := by
  obtain ⟨a1, a2, a3, a4, a5, a6, a7⟩ := VR_iff.mp h
  unfold sAdd
  refine VR_iff.mpr ⟨?_, pk_us, ?_, a4, by omega, a6, fun i hi => ?_⟩
  · rw [pk_un (by omega), pk_un (by omega), pk_un (by omega), pk_un (by omega), pk_un (by omega)]; exact a1
  · rw [pk_un (by omega), pk_un (by omega), pk_un (by omega), pk_un (by omega), pk_un (by omega)]; exact a3
  · have hi2 : i ≠ 2 := by rcases hi with ⟨k, p, hk, hp, rfl⟩ | ⟨k, w, hk, hw, rfl⟩ <;> omega
    rw [pk_un hi2]
    by_cases e3 : i = 75 + W
    · subst e3
      rw [pk_us]
      unfold okv
      rw [if_neg (by omega), if_neg (by omega), if_neg (by omega), if_neg (by omega), if_neg (by omega), if_neg (by omega), if_neg (by omega)]
      exact Or.inl rfl
    rw [pk_un e3]
    by_cases e2 : i = 67 + W
    · subst e2
      rw [pk_us]
      unfold okv
      rw [if_neg (by omega), if_neg (by omega), if_neg (by omega), if_neg (by omega), if_neg (by omega), if_neg (by omega), if_pos (by omega)]
      exact ⟨z, h1, h9, rfl⟩
    rw [pk_un e2]
    by_cases e1 : i = 59 + W
    · subst e1
      rw [pk_us]
      unfold okv
      rw [if_neg (by omega), if_neg (by omega), if_neg (by omega), if_neg (by omega), if_neg (by omega), if_pos (by omega)]
      exact ⟨y, hy, rfl⟩
    rw [pk_un e1]
    by_cases e0 : i = 51 + W
    · subst e0
      rw [pk_us]
      unfold okv
      rw [if_neg (by omega), if_neg (by omega), if_neg (by omega), if_neg (by omega), if_neg (by omega), if_pos (by omega)]
      exact ⟨x, hx, rfl⟩
    rw [pk_un e0]
    refine a7 i ?_
    rcases hi with ⟨k, p, hk, hp, rfl⟩ | ⟨k, w, hk, hw, rfl⟩
    · exact Or.inl ⟨k, p, hk, hp, rfl⟩
    · exact Or.inr ⟨k, w, hk, by omega, rfl⟩
theorem add_c {u : Um} {a P W : Nat} {c : Nat → Int32} {x y z : Int32} (hR : RC u a c P W) (hP : P ≤ 6) (hW : W < 8) (h2 : c 2 = nI W) : ∃ u', fX0_addWrong a x y z u = some u' ∧ (∀ k, k ≠ a → k ≠ a + 2 → u'.1 k = u.1 k) ∧ u'.2 = u.2 ∧ RC u' a (sAdd c W x y z) P (W + 1) := by
  have e3 : u.1 a 3 = nI W := hR.2.1.trans h2
  have s0 : ∀ (v : Um) (q : Int32), fX0_setPart a (nI W) 0 q v = some (sI v (a + 2) (4 * W + 0) q) := fun v q => spt_at a q v hW (by decide)
  have s1 : ∀ (v : Um) (q : Int32), fX0_setPart a (nI W) 1 q v = some (sI v (a + 2) (4 * W + 1) q) := fun v q => spt_at a q v hW (by decide)
  have s2 : ∀ (v : Um) (q : Int32), fX0_setPart a (nI W) 2 q v = some (sI v (a + 2) (4 * W + 2) q) := fun v q => spt_at a q v hW (by decide)
  have s3 : ∀ (v : Um) (q : Int32), fX0_setPart a (nI W) 3 q v = some (sI v (a + 2) (4 * W + 3) q) := fun v q => spt_at a q v hW (by decide)
  have na : a ≠ a + 2 := by omega
  have ea : ∀ (v : Um) (i : Nat) (q : Int32), (sI v (a + 2) i q).1 a = v.1 a := fun v i q => sI_ne na
  unfold fX0_addWrong
  rw [e3, if_pos ((ltr8 (by omega)).mpr hW), s0, bd1s, ea, e3, s1, bd1s, ea, ea, e3, s2, bd1s, ea, ea, ea, e3, s3, bd1s]
  simp only [nm, ea, e3]
  refine ⟨_, rfl, fun k h1 h2 => ?_, rfl, ?_, ?_, ?_, fun p k hp hk => ?_, fun w k hw hk => ?_⟩
  · rw [sI_ne h1, sI_ne h2, sI_ne h2, sI_ne h2, sI_ne h2]
  · unfold sAdd
    rw [sI_ot (by decide), ea, ea, ea, ea, pk_un (by omega), pk_un (by omega), pk_un (by omega), pk_un (by omega), pk_un (by omega)]
    exact hR.1
  · unfold sAdd
    rw [sI_eq, pk_us, nI_1]
  · unfold sAdd
    rw [sI_ot (by decide), ea, ea, ea, ea, pk_un (by omega), pk_un (by omega), pk_un (by omega), pk_un (by omega), pk_un (by omega)]
    exact hR.2.2.1
  · unfold sAdd
    rw [sI_ne (by omega), sI_ne (by omega), sI_ne (by omega), sI_ne (by omega), sI_ne (by omega), pk_un (by omega), pk_un (by omega), pk_un (by omega), pk_un (by omega), pk_un (by omega)]
    exact hR.2.2.2.1 p k hp hk
  · unfold sAdd
    rw [sI_ne (by omega), pk_un (by omega)]
    by_cases hwW : w = W
    · subst hwW
      rcases (show k = 0 ∨ k = 1 ∨ k = 2 ∨ k = 3 by omega) with rfl | rfl | rfl | rfl
      · rw [sI_ot (by omega), sI_ot (by omega), sI_ot (by omega), sI_eq, pk_un (by omega), pk_un (by omega), pk_un (by omega), show 51 + 8 * 0 + w = 51 + w by omega, pk_us]
      · rw [sI_ot (by omega), sI_ot (by omega), sI_eq, pk_un (by omega), pk_un (by omega), show 51 + 8 * 1 + w = 59 + w by omega, pk_us]
      · rw [sI_ot (by omega), sI_eq, pk_un (by omega), show 51 + 8 * 2 + w = 67 + w by omega, pk_us]
      · rw [sI_eq, show 51 + 8 * 3 + w = 75 + w by omega, pk_us]
    · rw [sI_ot (by omega), sI_ot (by omega), sI_ot (by omega), sI_ot (by omega), pk_un (by omega), pk_un (by omega), pk_un (by omega), pk_un (by omega)]
      exact hR.2.2.2.2 w k (by omega) hk
theorem add_m {u : Um} {s W : Nat} {x y z : Int32} (hs : ln s = 83) (hW : W < 8) (h2 : u.1 s 2 = nI W) : fX8_addWrong s x y z u = some (nI W, sIr u s (sAdd (u.1 s) W x y z)) := by
  have key : ∀ c : Nat → Int32, c 2 = nI W → fX8_addWrong s x y z (sIr u s c) = some (nI W, sIr u s (sAdd c W x y z)) := by
    intro c h2
    unfold fX8_addWrong
    rw [if_pos (by rw [hs]; exact b283), cl2, sIr_at, h2]
    simp only [nm, ib51 hs (show 51 + W < 83 by omega), ib59 hs (show 59 + W < 83 by omega), ib67 hs (show 67 + W < 83 by omega), ib75 hs (show 75 + W < 83 by omega), show inb 2 (ln s) = true from by rw [hs]; exact b283, if_true, sI_sIr, sIr_at, ix51 (n := W) (by omega), ix59 (n := W) (by omega), ix67 (n := W) (by omega), ix75 (n := W) (by omega), cl2]
    unfold sAdd
    rw [pk_un (show 2 ≠ 75 + W by omega), pk_un (show 2 ≠ 67 + W by omega), pk_un (show 2 ≠ 59 + W by omega), pk_un (show 2 ≠ 51 + W by omega), h2, nI_1]
  have := key (u.1 s) h2
  rw [sIr_self] at this
  exact this
theorem s_sin (a b w : Int32) : S22 (fX7_sin a b w) (fX8_sin a b w) := by
  intro u hI
  obtain ⟨P, W, dd, hV, hR, hd, hz⟩ := IvC_get hI.1
  have hP := hV.2.2.2.1
  have hW := hV.2.2.2.2.1
  unfold fX7_sin fX8_sin
  rcases ix_of a (n := P) (by omega) with ha | ⟨p, hp, rfl⟩
  · refine ⟨-1, u, u, ?_, ?_, hI⟩
    · rw [hasP_n (hR.1.trans hV.1) ha, bd1s, if_pos rfl]
    · rw [one_n hV.1 hP ha, bd1s, if_pos rfl]
  rw [hasP_y (hR.1.trans hV.1) hP hp, bd1s, if_neg i10]
  rcases ix_of b (n := P) (by omega) with hb | ⟨q, hq, rfl⟩
  · refine ⟨-1, u, u, ?_, ?_, hI⟩
    · rw [hasP_n (hR.1.trans hV.1) hb, bd1s, if_pos rfl]
    · rw [one_y hV.1 hP hp, bd1s, if_neg i10, one_n hV.1 hP hb, bd1s, if_pos rfl]
  rw [hasP_y (hR.1.trans hV.1) hP hq, bd1s, if_neg i10]
  by_cases hpq : nI p = nI q
  · refine ⟨-1, u, u, ?_, ?_, hI⟩
    · rw [if_pos hpq]
    · rw [one_y hV.1 hP hp, bd1s, if_neg i10, one_y hV.1 hP hq, bd1s, if_neg i10, if_pos hpq]
  rw [if_neg hpq]
  by_cases h1 : w < 1
  · refine ⟨-1, u, u, ?_, ?_, hI⟩
    · rw [if_pos h1]
    · rw [one_y hV.1 hP hp, bd1s, if_neg i10, one_y hV.1 hP hq, bd1s, if_neg i10, if_neg hpq, in_n (Or.inl h1), bd1s, if_pos rfl]
  by_cases h9 : ¬ w ≤ 9
  · refine ⟨-1, u, u, ?_, ?_, hI⟩
    · rw [if_neg h1, if_neg h9]
    · rw [one_y hV.1 hP hp, bd1s, if_neg i10, one_y hV.1 hP hq, bd1s, if_neg i10, if_neg hpq, in_n (Or.inr (Int32.not_le.mp h9)), bd1s, if_pos rfl]
  have h9 : w ≤ 9 := Classical.not_not.mp h9
  have hin : ∀ v : Um, fX8_in w 1 9 v = some 1 := fun v => in_y h1 (Int32.not_lt.mpr h9)
  obtain ⟨z, hz9, rfl⟩ : ∃ z : Nat, z < 10 ∧ w = nI z := by
    rcases ix_of w (n := 10) (by decide) with h | h
    · exfalso
      rcases h with h | h
      · exact h1 (Int32.lt_trans h (by decide))
      · exact Int32.not_le.mpr ((last_lt (P := 10) (by decide)).mpr h) h9
    · exact h
  have hz1 : 1 ≤ z := by
    rcases Nat.eq_zero_or_pos z with h | h
    · subst h; exact absurd (by decide) h1
    · exact h
  rw [if_neg h1, if_pos h9]
  have hz2 : 2 ≤ P ∧ 1 ≤ W := by omega
  have e3 : u.1 3 3 = nI W := hR.2.1.trans hV.2.1
  by_cases h8 : W = 8
  · refine ⟨-3, u, u, ?_, ?_, hI⟩
    · show (if u.1 3 3 < 8 then _ else _) = _
      rw [e3, if_neg (by rw [ltr8 (by omega)]; omega)]
    · rw [one_y hV.1 hP hp, bd1s, if_neg i10, one_y hV.1 hP hq, bd1s, if_neg i10, if_neg hpq, hin, bd1s, if_neg i10, if_pos b283, cl2, hV.2.1, if_pos (by rw [h8]; rfl)]
  · obtain ⟨u1, k1, b3, b4, b5, b122, hgo⟩ := act_go hI ⟨P, W, dd, hz2.1, hz2.2, hd, hV, hR⟩
    obtain ⟨u2, k2, f1, f2, hR2⟩ := add_c (x := nI p) (y := nI q) (z := nI z) (RC_fr hR b3 b4 b5) hP (show W < 8 by omega) hV.2.1
    have h122 : u2.1 122 = u.1 122 := (f1 122 (by decide) (by decide)).trans b122
    obtain ⟨u3, k3, c3, c4, c5, c122, hgo2⟩ := hgo u2 (fun k g1 g2 g3 => f1 k g1 g3) f2
    have k4 : fX8_addWrong 122 (nI p) (nI q) (nI z) u3 = some (nI W, sIr u3 122 (sAdd (u.1 122) W (nI p) (nI q) (nI z))) := by
      rw [add_m ln122 (show W < 8 by omega) (by rw [c122]; exact hV.2.1), c122]
    refine ⟨nI W, u2, sIr u3 122 (sAdd (u.1 122) W (nI p) (nI q) (nI z)), ?_, ?_, ?_⟩
    · show (if u.1 3 3 < 8 then _ else _) = _
      rw [e3, if_pos ((ltr8 (by omega)).mpr (by omega)), k1, bd1s, k2, bd1s]
      show some (u2.1 3 3 - 1, u2) = _
      rw [hR2.2.1, show sAdd (u.1 122) W (nI p) (nI q) (nI z) 2 = nI (W + 1) from pk_us, show (nI (W + 1) - 1 : Int32) = nI W from (pk_sub (a := W + 1) (b := 1) (by omega))]
    · rw [one_fr h122, one_fr h122, one_y hV.1 hP hp, bd1s, if_neg i10, one_y hV.1 hP hq, bd1s, if_neg i10, if_neg hpq, hin, bd1s, if_neg i10, if_pos b283, cl2, h122, hV.2.1, if_neg (by rw [eqr8 (by omega)]; exact h8), k3, bd1s, k4, bd2s]
    · refine hgo2 _ (fun k' h => sIr_ne h) rfl ?_
      rw [sIr_at]
      refine ⟨P, W + 1, dd, hz2.1, by omega, hd, add_VR hV (by omega) hp hq hz1 (by omega), ?_⟩
      exact RC_fr hR2 ((sIr_ne (by decide)).trans c3) ((sIr_ne (by decide)).trans c4) ((sIr_ne (by decide)).trans c5)
/-! what a carrying makes of a row -/
def sSt (k : Int32) : Int32 := if k = 1 then 1 else if k = 2 then 1 else if k = 3 then 2 else 0
def sC1 (c : Nat → Int32) (w p : Nat) : Nat → Int32 := if sCom c w p = 0 then upd c (67 + w) (mnI 9 (c (67 + w) + sSt (c (3 + p)))) else upd c (75 + w) (nI p)
def sC3 (c : Nat → Int32) (p q : Nat) : Nat → Int32 := upd (upd (upd c (27 + p) (c (21 + q))) (39 + p) (c (39 + p) + 1)) 0 (c 0 + 1)
def sC2 (r : Int32) (c : Nat → Int32) (p q : Nat) : Nat → Int32 := if r = 2 then upd (upd c (45 + q) (nI p)) (33 + p) (-4) else c
def sCar (c : Nat → Int32) (w p : Nat) : Nat → Int32 := sC3 (sC2 (sCom c w p) (sC1 c w p) p (nN (c (59 + w)))) p (nN (c (59 + w)))
theorem sC3_VR {c : Nat → Int32} {P W dd p q : Nat} (h : VR c P W dd) (hp : p < P) (hq : q < P) (hd : dd + 1 ≤ 20000) : VR (sC3 c p q) P W (dd + 1) := by
  have hP := h.2.2.2.1
  obtain ⟨x, x1, x2⟩ := (h.2.2.2.2.2.2.1 q hq).2.2.2.1
  obtain ⟨y, y1, y2⟩ := (h.2.2.2.2.2.2.1 p hp).2.2.2.2.2.2.1
  unfold sC3
  have h1 : VR (upd c (27 + p) (c (21 + q))) P W dd := VR_set h (by omega) (by unfold okv; rw [if_neg (by omega), if_pos (by omega)]; exact ⟨x, x1, x2⟩)
  have e0 : c 0 + 1 = nI (dd + 1) := by rw [h.2.2.1, nI_1]
  rw [e0]
  have h2 := VR_day h1 hd
  have h3 : VR (upd (upd (upd c (27 + p) (c (21 + q))) 0 (nI (dd + 1))) (39 + p) (c (39 + p) + 1)) P W (dd + 1) := VR_set h2 (by omega) (by unfold okv; rw [if_neg (by omega), if_neg (by omega), if_neg (by omega), if_pos (by omega)]; exact ⟨y + 1, by omega, by rw [y2, nI_1]⟩)
  refine VR_congr h3 (fun i hi => ?_)
  by_cases hi0 : i = 0
  · subst hi0; rw [pk_us, pk_un (by omega), pk_us]
  · by_cases hi1 : i = 39 + p
    · subst hi1; rw [pk_un hi0, pk_us, pk_us]
    · rw [pk_un hi0, pk_un hi1, pk_un hi1, pk_un hi0]
theorem sC2_VR {r : Int32} {c : Nat → Int32} {P W dd p q : Nat} (h : VR c P W dd) (hp : p < P) (hq : q < P) : VR (sC2 r c p q) P W dd := by
  have hP := h.2.2.2.1
  unfold sC2
  split
  · refine VR_set (VR_set h (by omega) ?_) (by omega) ?_
    · unfold okv; rw [if_neg (by omega), if_neg (by omega), if_neg (by omega), if_neg (by omega), if_pos (by omega)]; exact Or.inr ⟨p, hp, rfl⟩
    · unfold okv; rw [if_neg (by omega), if_neg (by omega), if_pos (by omega)]; exact Or.inl rfl
  · exact h
theorem heavy : ∀ g, g < 10 → ∀ k, k < 6 → 1 ≤ g → ∃ z, 1 ≤ z ∧ z ≤ 9 ∧ mnI 9 (nI g + sSt (nI k)) = nI z := by
  intro g hg k hk h1
  have hs : ∃ t, t ≤ 2 ∧ sSt (nI k) = nI t := by
    rcases (show k = 0 ∨ k = 1 ∨ k = 2 ∨ k = 3 ∨ k = 4 ∨ k = 5 by omega) with rfl | rfl | rfl | rfl | rfl | rfl
    · exact ⟨0, by omega, by decide⟩
    · exact ⟨1, by omega, by decide⟩
    · exact ⟨1, by omega, by decide⟩
    · exact ⟨2, by omega, by decide⟩
    · exact ⟨0, by omega, by decide⟩
    · exact ⟨0, by omega, by decide⟩
  obtain ⟨t, ht, et⟩ := hs
  rw [et, nI_add]
  unfold mnI
  by_cases h : g + t < 9
  · rw [if_pos ((ltr9 (by omega)).mpr h)]; exact ⟨g + t, by omega, by omega, rfl⟩
  · rw [if_neg (fun h' => h ((ltr9 (by omega)).mp h'))]; exact ⟨9, by omega, by omega, rfl⟩
theorem sC1_VR {c : Nat → Int32} {P W dd w p : Nat} (h : VR c P W dd) (hw : w < W) (hp : p < P) : VR (sC1 c w p) P W dd := by
  have hP := h.2.2.2.1
  have hW := h.2.2.2.2.1
  obtain ⟨g, g1, g2, g3⟩ := (h.2.2.2.2.2.2.2 w hw).2.2.1
  obtain ⟨k, k1, k2, k3⟩ := (h.2.2.2.2.2.2.1 p hp).1
  unfold sC1
  split
  · refine VR_set h (by omega) ?_
    unfold okv; rw [if_neg (by omega), if_neg (by omega), if_neg (by omega), if_neg (by omega), if_neg (by omega), if_neg (by omega), if_pos (by omega), g3, k3]
    exact heavy g (by omega) k (by omega) g1
  · refine VR_set h (by omega) ?_
    unfold okv; rw [if_neg (by omega), if_neg (by omega), if_neg (by omega), if_neg (by omega), if_neg (by omega), if_neg (by omega), if_neg (by omega)]
    exact Or.inr ⟨p, hp, rfl⟩
theorem sCar_VR {c : Nat → Int32} {P W dd w p : Nat} (h : VR c P W dd) (hw : w < W) (hp : p < P) (hd : dd + 1 ≤ 20000) : VR (sCar c w p) P W (dd + 1) := by
  obtain ⟨q, q1, q2, q3⟩ := whom_of h hw
  unfold sCar
  rw [q3]
  exact sC3_VR (sC2_VR (sC1_VR h hw hp) hp q1) hp q1 hd
theorem day_c {u : Um} {a P W dd : Nat} {c : Nat → Int32} (hR : RC u a c P W) (hP : P ≤ 6) (hW : W ≤ 8) : fX0_nextDay a u = some (sI u a 4 (c 0 + 1)) ∧ RC (sI u a 4 (c 0 + 1)) a (upd c 0 (c 0 + 1)) P W := by
  refine ⟨?_, RC_day hR hP hW⟩
  unfold fX0_nextDay
  rw [hR.2.2.1]
  rfl
theorem del_82 {u : Um} {a P W w p q : Nat} {c : Nat → Int32} (r : Int32) (hR : RC u a c P W) (hP : P ≤ 6) (hW : W ≤ 8) (hp : p < P) (hq : q < P) : ∃ u', fX0_deliver_j82 a (nI w) (nI p) r (nI q) u = some (r, u') ∧ (∀ k, k ≠ a → k ≠ a + 1 → k ≠ a + 2 → u'.1 k = u.1 k) ∧ u'.2 = u.2 ∧ RC u' a (sC3 c p q) P W := by
  have r1 : RC (sI u (a + 1) (8 * p + 4) (c (21 + q))) a (upd c (27 + p) (c (21 + q))) P W := RC_setT (k := 4) hR hP hW hp (by decide)
  have t6 := tR6 r1 hP hp
  rw [pk_un (show 39 + p ≠ 27 + p by omega)] at t6
  have r2 : RC (sI (sI u (a + 1) (8 * p + 4) (c (21 + q))) (a + 1) (8 * p + 6) (c (39 + p) + 1)) a (upd (upd c (27 + p) (c (21 + q))) (39 + p) (c (39 + p) + 1)) P W := RC_setT (k := 6) r1 hP hW hp (by decide)
  have r3 := day_c (dd := 0) r2 hP hW
  rw [pk_un (show 0 ≠ 39 + p by omega), pk_un (show 0 ≠ 27 + p by omega)] at r3
  refine ⟨sI (sI (sI u (a + 1) (8 * p + 4) (c (21 + q))) (a + 1) (8 * p + 6) (c (39 + p) + 1)) a 4 (c 0 + 1), ?_, fun k h1 h2 h3 => ?_, rfl, r3.2⟩
  · unfold fX0_deliver_j82
    rw [tR3 hR hP hq, bd1s, show fX0_setTrait a (nI p) 4 (c (21 + q)) u = _ from str_at (k := 4) a (c (21 + q)) u (by omega) (by decide), bd1s, t6, bd1s, show fX0_setTrait a (nI p) 6 (c (39 + p) + 1) (sI u (a + 1) (8 * p + 4) (c (21 + q))) = _ from str_at (k := 6) a (c (39 + p) + 1) _ (by omega) (by decide), bd1s, r3.1, bd1s]
  · rw [sI_ne h1, sI_ne h2, sI_ne h2]
theorem del_60 {u : Um} {a P W w p q : Nat} {c : Nat → Int32} (r : Int32) (hR : RC u a c P W) (hP : P ≤ 6) (hW : W ≤ 8) (hp : p < P) (hq : q < P) : ∃ u', fX0_deliver_j60 a (nI w) (nI p) r (nI q) u = some (r, u') ∧ (∀ k, k ≠ a → k ≠ a + 1 → k ≠ a + 2 → u'.1 k = u.1 k) ∧ u'.2 = u.2 ∧ RC u' a (sC3 (sC2 r c p q) p q) P W := by
  unfold fX0_deliver_j60 sC2
  by_cases h2 : r = 2
  · rw [if_pos h2, if_pos h2]
    have r1 : RC (sI u (a + 1) (8 * q + 7) (nI p)) a (upd c (45 + q) (nI p)) P W := RC_setT (k := 7) hR hP hW hq (by decide)
    have r2 : RC (sI (sI u (a + 1) (8 * q + 7) (nI p)) (a + 1) (8 * p + 5) (-4)) a (upd (upd c (45 + q) (nI p)) (33 + p) (-4)) P W := RC_setT (k := 5) r1 hP hW hp (by decide)
    obtain ⟨u', e, f1, f2, f3⟩ := del_82 (w := w) r r2 hP hW hp hq
    refine ⟨u', ?_, fun k h1 h2 h3 => ?_, f2, f3⟩
    · rw [show fX0_setTrait a (nI q) 7 (nI p) u = _ from str_at (k := 7) a (nI p) u (by omega) (by decide), bd1s, show fX0_setTrait a (nI p) 5 (-4) (sI u (a + 1) (8 * q + 7) (nI p)) = _ from str_at (k := 5) a (-4) _ (by omega) (by decide), bd1s, e]
    · rw [f1 k h1 h2 h3, sI_ne h2, sI_ne h2]
  · rw [if_neg h2, if_neg h2]
    exact del_82 r hR hP hW hp hq
theorem sting_c (k : Int32) (u : Um) : fX7_stingOf k u = some (sSt k) := by
  unfold fX7_stingOf sSt
  split <;> try rfl
  split <;> try rfl
  split <;> rfl
theorem sting_m (k : Int32) (u : Um) : fX8_stings k u = some (sSt k) := by
  unfold fX8_stings sSt
  split <;> try rfl
  split <;> try rfl
  split <;> rfl
theorem del_c {u : Um} {a P W dd w p : Nat} {c : Nat → Int32} (hR : RC u a c P W) (hV : VR c P W dd) (hw : w < W) (hp : p < P) : ∃ u', fX0_deliver a (nI w) (nI p) u = some (sCom c w p, u') ∧ (∀ k, k ≠ a → k ≠ a + 1 → k ≠ a + 2 → u'.1 k = u.1 k) ∧ u'.2 = u.2 ∧ RC u' a (sCar c w p) P W := by
  have hP := hV.2.2.2.1
  have hW := hV.2.2.2.2.1
  obtain ⟨q, q1, q2, q3⟩ := whom_of hV hw
  unfold fX0_deliver sCar sC1
  rw [com_c hR hV hw hp (sn_b hV hw hp), bd1s, pR1 hR hW hw, bd1s, q2]
  show ∃ u', (if sCom c w p = 0 then _ else _) = _ ∧ _
  rw [show nN (nI q) = q from nI_clamp (by omega)]
  by_cases h0 : sCom c w p = 0
  · rw [if_pos h0, if_pos h0, pR2 hR hW hw, bd1s, tR0 hR hP hp, bd1s, sting_c, bd1s]
    simp only [nm]
    have r1 : RC (sI u (a + 2) (4 * w + 2) (mnI 9 (c (67 + w) + sSt (c (3 + p))))) a (upd c (67 + w) (mnI 9 (c (67 + w) + sSt (c (3 + p))))) P W := RC_setP (k := 2) hR hP hW hw (by decide)
    obtain ⟨u', e, f1, f2, f3⟩ := del_60 (w := w) (sCom c w p) r1 hP hW hp q1
    refine ⟨u', ?_, fun k h1 h2 h3 => ?_, f2, f3⟩
    · rw [show fX0_setPart a (nI w) 2 (mnI 9 (c (67 + w) + sSt (c (3 + p)))) u = _ from spt_at (k := 2) a _ u (by omega) (by decide), bd1s, e]
    · rw [f1 k h1 h2 h3, sI_ne h3]
  · rw [if_neg h0, if_neg h0]
    have r1 : RC (sI u (a + 2) (4 * w + 3) (nI p)) a (upd c (75 + w) (nI p)) P W := RC_setP (k := 3) hR hP hW hw (by decide)
    obtain ⟨u', e, f1, f2, f3⟩ := del_60 (w := w) (sCom c w p) r1 hP hW hp q1
    refine ⟨u', ?_, fun k h1 h2 h3 => ?_, f2, f3⟩
    · rw [show fX0_setPart a (nI w) 3 (nI p) u = _ from spt_at (k := 3) a _ u (by omega) (by decide), bd1s, e]
    · rw [f1 k h1 h2 h3, sI_ne h3]
theorem b0s {s : Nat} (hs : ln s = 83) : inb 0 (ln s) = true := by rw [hs]; exact b083
theorem car_87 {u : Um} {s p q : Nat} {x r : Int32} (c : Nat → Int32) (hs : ln s = 83) (hp : p < 6) (hq : q < 6) : fX8_carries_j87 s x (nI p) r (nI q) (sIr u s c) = some (r, sIr u s (sC3 c p q)) := by
  unfold fX8_carries_j87 sC3
  simp only [ib21 hs (show 21 + q < 83 by omega), ib27 hs (show 27 + p < 83 by omega), ib39 hs (show 39 + p < 83 by omega), b0s hs, if_true, nm, sI_sIr, sIr_at, ix21 (n := q) (by omega), ix27 (n := p) (by omega), ix39 (n := p) (by omega), cl0]
  rw [pk_un (show 39 + p ≠ 27 + p by omega), pk_un (show 0 ≠ 39 + p by omega), pk_un (show 0 ≠ 27 + p by omega)]
theorem car_66 {u : Um} {s p q : Nat} {x r : Int32} (c : Nat → Int32) (hs : ln s = 83) (hp : p < 6) (hq : q < 6) : fX8_carries_j66 s x (nI p) r (nI q) (sIr u s c) = some (r, sIr u s (sC3 (sC2 r c p q) p q)) := by
  unfold fX8_carries_j66 sC2
  by_cases h : r = 2
  · rw [if_pos h, if_pos h]
    simp only [ib45 hs (show 45 + q < 83 by omega), ib33 hs (show 33 + p < 83 by omega), if_true, nm, sI_sIr, ix45 (n := q) (by omega), ix33 (n := p) (by omega)]
    exact car_87 _ hs hp hq
  · rw [if_neg h, if_neg h]
    exact car_87 _ hs hp hq
theorem mn9 (x : Int32) : mnI 9 x = if x ≤ 9 then x else 9 := by
  unfold mnI
  by_cases h : x < 9
  · rw [if_pos h, if_pos (Int32.le_of_lt h)]
  · rw [if_neg h]
    by_cases h2 : x ≤ 9
    · rw [if_pos h2]
      exact Int32.le_antisymm (Int32.not_lt.mp h) h2
    · rw [if_neg h2]
theorem car_m {u : Um} {s P W dd w p : Nat} (hs : ln s = 83) (hV : VR (u.1 s) P W dd) (hw : w < W) (hp : p < P) : fX8_carries s (nI w) (nI p) u = some (sCom (u.1 s) w p, sIr u s (sCar (u.1 s) w p)) := by
  have hP := hV.2.2.2.1
  have hW := hV.2.2.2.2.1
  obtain ⟨q, q1, q2, q3⟩ := whom_of hV hw
  unfold fX8_carries sCar sC1
  rw [com_m hs hV hw hp, bd1s, if_pos (ib59 hs (by omega)), ix59 (by omega), q2]
  simp only [nm]
  rw [show nN (nI q) = q from nI_clamp (by omega)]
  by_cases h0 : sCom (u.1 s) w p = 0
  · rw [if_pos h0, if_pos h0, if_pos (ib67 hs (by omega)), if_pos (ib3 hs (by omega)), sting_m, bd1s, ix67 (by omega), ix3 (by omega), mn9]
    have j55 : ∀ v : Int32, fX8_carries_j55 s (nI w) (nI p) (sCom (u.1 s) w p) (nI q) v (67 + nI w) u = some (sCom (u.1 s) w p, sIr u s (sC3 (sC2 (sCom (u.1 s) w p) (upd (u.1 s) (67 + w) v) p q) p q)) := by
      intro v
      unfold fX8_carries_j55
      rw [if_pos (ib67 hs (by omega)), ix67 (by omega)]
      exact car_66 _ hs (by omega) (by omega)
    by_cases h9 : u.1 s (67 + w) + sSt (u.1 s (3 + p)) ≤ 9
    · rw [if_pos h9, if_pos h9, j55]
    · rw [if_neg h9, if_neg h9, j55]
  · rw [if_neg h0, if_neg h0, if_pos (ib75 hs (by omega)), ix75 (by omega)]
    exact car_66 _ hs (by omega) (by omega)
theorem s_carry (a b : Int32) : S22 (fX7_carry a b) (fX8_carry a b) := by
  intro u hI
  obtain ⟨P, W, dd, hV, hR, hd, hz⟩ := IvC_get hI.1
  have hP := hV.2.2.2.1
  have hW := hV.2.2.2.2.1
  have e4 : u.1 3 4 = nI dd := hR.2.2.1.trans hV.2.2.1
  have e0 : u.1 122 0 = nI dd := hV.2.2.1
  unfold fX7_carry fX8_carry
  rcases why hV hR a b with ⟨r, h0, h1, h2⟩ | ⟨w, p, hw, hp, rfl, rfl, hm, h1, h2⟩
  · refine ⟨r, u, u, ?_, ?_, hI⟩
    · rw [h1, bd1s, if_neg h0]
    · rw [h2, bd1s, if_neg h0]
  · rw [h1, bd1s, if_pos rfl]
    show ∃ r u1 u2, (if u.1 3 4 < 9999 then _ else _) = _ ∧ _
    rw [e4]
    by_cases h9 : dd = 9999
    · refine ⟨-3, u, u, ?_, ?_, hI⟩
      · rw [if_neg (by rw [ltr9999 (by omega)]; omega)]
      · rw [h2, bd1s, if_pos rfl, if_pos b083, cl0, e0, if_pos (by rw [h9]; rfl)]
    · have hz2 : 2 ≤ P ∧ 1 ≤ W := by omega
      obtain ⟨u1, k1, b3, b4, b5, b122, hgo⟩ := act_go hI ⟨P, W, dd, hz2.1, hz2.2, hd, hV, hR⟩
      obtain ⟨u2, k2, f1, f2, hR2⟩ := del_c (RC_fr hR b3 b4 b5) hV hw hp
      have h122 : u2.1 122 = u.1 122 := (f1 122 (by decide) (by decide) (by decide)).trans b122
      obtain ⟨u3, k3, c3, c4, c5, c122, hgo2⟩ := hgo u2 f1 f2
      have k4 : fX8_carries 122 (nI w) (nI p) u3 = some (sCom (u.1 122) w p, sIr u3 122 (sCar (u.1 122) w p)) := by
        rw [car_m ln122 (by rw [c122]; exact hV) hw hp, c122]
      have k5 : fX8_whyNot (nI w) (nI p) u2 = some 0 := by
        have hm' : sMay (u2.1 122) w p := by rw [h122]; exact hm
        unfold fX8_whyNot
        rw [wr_y (by rw [h122]; exact hV.2.1) hW hw, bd1s, if_neg i10, one_y (by rw [h122]; exact hV.1) hP hp, bd1s, if_neg i10, (may_m ln122 (by rw [h122]; exact hV) hw hp).1 hm']
        rfl
      refine ⟨sCom (u.1 122) w p, u2, sIr u3 122 (sCar (u.1 122) w p), ?_, ?_, ?_⟩
      · rw [if_pos ((ltr9999 (by omega)).mpr (by omega)), k1, bd1s, k2, bd2s]
      · rw [k5, bd1s, if_pos rfl, if_pos b083, cl0, h122, e0, if_neg (by rw [eqr9999 (by omega)]; exact h9), k3, bd1s, k4, bd2s]
      · refine hgo2 _ (fun k' h => sIr_ne h) rfl ?_
        rw [sIr_at]
        refine ⟨P, W, dd + 1, hz2.1, hz2.2, by omega, sCar_VR hV hw hp (by omega), ?_⟩
        exact RC_fr hR2 ((sIr_ne (by decide)).trans c3) ((sIr_ne (by decide)).trans c4) ((sIr_ne (by decide)).trans c5)
