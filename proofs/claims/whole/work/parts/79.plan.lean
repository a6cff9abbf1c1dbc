/-! ===== plan: the reference's three rounds, and the step ===== -/
theorem vd_0 (P W d : Nat) (c : Nat → Int32) : vd P W 0 c d = gaN P W c d := by
  unfold vd
  cases gaN P W c d with
  | none => rfl
  | some t => rfl
theorem nx_of {u0 u : Um} (h : FRm u0 u) : u.1 122 = u0.1 122 := h.1 122 (by decide) (by decide) (by decide)
theorem gap_s {α : Type} {P W l o d : Nat} {c : Nat → Int32} {y : Nat → α} {s : Nat × α} (h9 : d ≠ 99) (h : ¬ (d / 10 < W ∧ d % 10 < P)) : stp o (vd P W l c) y d s = s := stp_n (vd_n (gaN_n h9 (fun h' => h ⟨h'.1, h'.2.1⟩)))
theorem last_out {n : Int32} {a b : Int32} {u : Um} (h : n ≤ 2) : lp (fun s : Int32 × Um => fX8_layLast_b3 n a b s.1 s.2) fuel ((0 : Int32), u) = some (1, (0 : Int32), u) := by
  refine lp_end (body := fun s : Int32 × Um => fX8_layLast_b3 n a b s.1 s.2) (fun _ => ((0 : Int32), u)) (m := 0) (e := 1) (s' := ((0 : Int32), u)) (by decide) (fun k hk => absurd hk (Nat.not_lt_zero k)) ?_ (by decide)
  show fX8_layLast_b3 n a b 0 u = _
  unfold fX8_layLast_b3
  rw [if_neg (show ¬ (99 : Int32) ≤ 0 by decide), if_pos h]
theorem second_out {n a : Int32} {u : Um} (h : n ≤ 1) : lp (fun s : Int32 × Um => fX8_laySecond_b2 n a s.1 s.2) fuel ((0 : Int32), u) = some (1, (0 : Int32), u) := by
  refine lp_end (body := fun s : Int32 × Um => fX8_laySecond_b2 n a s.1 s.2) (fun _ => ((0 : Int32), u)) (m := 0) (e := 1) (s' := ((0 : Int32), u)) (by decide) (fun k hk => absurd hk (Nat.not_lt_zero k)) ?_ (by decide)
  show fX8_laySecond_b2 n a 0 u = _
  unfold fX8_laySecond_b2
  rw [if_neg (show ¬ (99 : Int32) ≤ 0 by decide), if_pos h]
theorem plan_out {n : Int32} {u : Um} (h : n ≤ 0) : lp (fun s : Int32 × Um => fX8_layPlan_b7 n s.1 s.2) fuel ((0 : Int32), u) = some (1, (0 : Int32), u) := by
  refine lp_end (body := fun s : Int32 × Um => fX8_layPlan_b7 n s.1 s.2) (fun _ => ((0 : Int32), u)) (m := 0) (e := 1) (s' := ((0 : Int32), u)) (by decide) (fun k hk => absurd hk (Nat.not_lt_zero k)) ?_ (by decide)
  show fX8_layPlan_b7 n 0 u = _
  unfold fX8_layPlan_b7
  rw [if_neg (show ¬ (99 : Int32) ≤ 0 by decide), if_pos h]
theorem acc_100 {α : Type} (f : Nat → α → α) (a : α) : acc f a 100 = f 99 (acc f a 99) := acc_s f a 99
theorem le99 {cd : Nat} (h : cd < 99) : ¬ (99 : Int32) ≤ nI cd := nI_ge (b := 99) h (by decide)
theorem last_m {u : Um} {P W dd l a b ta tb : Nat} {s : St4} {c1 c2 : Nat → Int32} (hV : VR (u.1 122) P W dd) (hdd : dd ≤ 9999) (hP1 : 1 ≤ P) (hW1 : 1 ≤ W) (hl : l ≤ 1) (ha : okd P W a) (hb : okd P W b) (hta : gaN P W (u.1 122) a = some ta) (hc1 : nR (u.1 122) a = c1) (htb : gaN P W c1 b = some tb) (hc2 : nR c1 b = c2) (hS : STm u s) : ∃ u', fX8_layLast (nI (l + 2)) (nI a) (nI b) u = some u' ∧ FRm u u' ∧ STm u' (if s.1 < ta + tb + vl P W l c2 + 1 then (ta + tb + vl P W l c2 + 1, a, b, pl P W l c2 0) else s) := by
  have hP := hV.2.2.2.1
  have hW := hV.2.2.2.2.1
  have h1a := (gaN_or hta).1
  have h1b := (gaN_or htb).1
  subst hc1
  subst hc2
  unfold fX8_layLast
  rcases (show l = 0 ∨ l = 1 by omega) with rfl | rfl
  · rw [show nI (0 + 2) = (2 : Int32) from rfl, last_out (by decide), bd3s]
    obtain ⟨u', e1, f1, f2⟩ := pl_2 (u := u) (p3 := 99) hV hdd ha hb hta
    rw [e1, bd2s, htb]
    obtain ⟨v, e2, g1, g2⟩ := take_m (u := u') (s := s) (o := ta) (a := a) (b := b) (d := 99) (g := some tb) (STm_124 hS f1) (fun t h => by injection h; omega)
    rw [show fX8_take ((some tb).elim (-1) fun t => nI (ta + t)) (nI a) (nI b) 99 u' = some v from e2, bd1s]
    exact ⟨v, rfl, FRm_t (FRm_124 f1 f2) g1, g2⟩
  · have step : ∀ (d : Nat) (w : Um) (q : St4), okd P W d → FRm u w → STm w q → ∃ w1 w2 r, fX8_planned 3 (nI a) (nI b) (nI d) w = some (r, w1) ∧ fX8_take r (nI a) (nI b) (nI d) w1 = some w2 ∧ FRm w w2 ∧ STm w2 (stp (ta + tb) (vd P W 0 (nR (nR (u.1 122) a) b)) (fun d => (a, b, d)) d q) := by
      intro d w q hd hF hq
      have e122 := nx_of hF
      obtain ⟨w1, e1, f1, f2⟩ := pl_3 (u := w) (a := a) (b := b) (d := d) (ta := ta) (tb := tb) (by rw [e122]; exact hV) hdd ha hb hd (by rw [e122]; exact hta) (by rw [e122]; exact htb)
      rw [e122] at e1
      obtain ⟨w2, e2, g1, g2⟩ := take_m (u := w1) (s := q) (o := ta + tb) (a := a) (b := b) (d := d) (g := gaN P W (nR (nR (u.1 122) a) b) d) (STm_124 hq f1) (fun t h => by have := (gaN_or h).1; omega)
      refine ⟨w1, w2, _, e1, e2, FRm_t (FRm_124 f1 f2) g1, ?_⟩
      unfold stp
      rw [vd_0]
      exact g2
    obtain ⟨u1, e1, f1, f2⟩ := lp_codes (β := fun s : Int32 × Um => fX8_layLast_b3 (nI (1 + 2)) (nI a) (nI b) s.1 s.2) (P := P) (W := W) (f := stp (ta + tb) (vd P W 0 (nR (nR (u.1 122) a) b)) (fun d => (a, b, d))) (u0 := u) (s0 := s) hP hW hP1 hW1 (fun d s h9 h => gap_s h9 h) (fun w => by
      show fX8_layLast_b3 (nI (1 + 2)) (nI a) (nI b) (nI 99) w = _
      unfold fX8_layLast_b3
      rw [if_pos (show (99 : Int32) ≤ nI 99 by decide)]) (fun cd w q h9 hw hp hF hq => by
      show ∃ u', fX8_layLast_b3 (nI (1 + 2)) (nI a) (nI b) (nI cd) w = _ ∧ _
      obtain ⟨w1, w2, r, k1, k2, k3, k4⟩ := step cd w q (Or.inr ⟨h9, hw, hp⟩) hF hq
      have e122 : w2.1 122 = u.1 122 := nx_of (FRm_t hF k3)
      refine ⟨w2, ?_, k3, k4⟩
      unfold fX8_layLast_b3
      rw [if_neg (le99 h9), if_neg (show ¬ nI (1 + 2) ≤ (2 : Int32) by decide), k1, bd2s, k2, bd1s, next_m (by rw [e122]; exact hV.1) (by rw [e122]; exact hV.2.1) hP hW hw hp, bd1s]) hS
    obtain ⟨w1, w2, r, k1, k2, k3, k4⟩ := step 99 u1 _ (Or.inl rfl) f1 f2
    rw [e1, bd3s, show fX8_planned (nI (1 + 2)) (nI a) (nI b) 99 u1 = some (r, w1) from k1, bd2s, show fX8_take r (nI a) (nI b) 99 w1 = some w2 from k2, bd1s]
    refine ⟨w2, rfl, FRm_t f1 k3, ?_⟩
    have e := tk100 P W 0 (ta + tb) (nR (nR (u.1 122) a) b) (fun d => (a, b, d)) s
    rw [acc_100] at e
    rw [e] at k4
    exact k4
theorem last_1 {u : Um} {P W dd a ta : Nat} {s : St4} (hV : VR (u.1 122) P W dd) (ha : okd P W a) (hta : gaN P W (u.1 122) a = some ta) (hS : STm u s) : ∃ u', fX8_layLast 1 (nI a) 99 u = some u' ∧ FRm u u' ∧ STm u' (if s.1 < ta + 1 then (ta + 1, a, 99, 99) else s) := by
  have h1a := (gaN_or hta).1
  unfold fX8_layLast
  rw [last_out (by decide), bd3s]
  obtain ⟨u', e1, f1, f2⟩ := pl_1 (u := u) (a := a) (p2 := 99) (p3 := 99) hV ha
  rw [e1, bd2s, hta]
  obtain ⟨v, e2, g1, g2⟩ := take_m (u := u') (s := s) (o := 0) (a := a) (b := 99) (d := 99) (g := some ta) (STm_124 hS f1) (fun t h => by injection h; omega)
  have e3 : fX8_take ((some ta).elim (-1) nI) (nI a) 99 99 u' = some v := by
    rw [← e2]
    show fX8_take (nI ta) (nI a) 99 99 u' = fX8_take (nI (0 + ta)) (nI a) (nI 99) (nI 99) u'
    rw [Nat.zero_add]
    rfl
  rw [e3, bd1s]
  refine ⟨v, rfl, FRm_t (FRm_124 f1 f2) g1, ?_⟩
  have : STm v (if s.1 < 0 + ta + 1 then (0 + ta + 1, a, 99, 99) else s) := g2
  rw [Nat.zero_add] at this
  exact this
theorem second_m {u : Um} {P W dd l a ta : Nat} {s : St4} {c1 : Nat → Int32} (hV : VR (u.1 122) P W dd) (hdd : dd ≤ 9999) (hP1 : 1 ≤ P) (hW1 : 1 ≤ W) (hl : l ≤ 2) (ha : okd P W a) (hta : gaN P W (u.1 122) a = some ta) (hc1 : nR (u.1 122) a = c1) (hS : STm u s) : ∃ u', fX8_laySecond (nI (l + 1)) (nI a) u = some u' ∧ FRm u u' ∧ STm u' (if s.1 < ta + vl P W l c1 + 1 then (ta + vl P W l c1 + 1, a, pl P W l c1 0, pl P W l c1 1) else s) := by
  have hP := hV.2.2.2.1
  have hW := hV.2.2.2.2.1
  have h1a := (gaN_or hta).1
  subst hc1
  unfold fX8_laySecond
  cases l with
  | zero =>
    rw [show nI (0 + 1) = (1 : Int32) from rfl, second_out (by decide), bd3s]
    obtain ⟨v, e2, g1, g2⟩ := last_1 hV ha hta hS
    rw [e2, bd1s]
    exact ⟨v, rfl, g1, g2⟩
  | succ l =>
    have hl1 : l ≤ 1 := by omega
    have step : ∀ (b : Nat) (w : Um) (q : St4) (tb : Nat), okd P W b → FRm u w → STm w q → gaN P W (nR (u.1 122) a) b = some tb → ∃ w2, fX8_layLast (nI (l + 2)) (nI a) (nI b) w = some w2 ∧ FRm w w2 ∧ STm w2 (stp ta (vd P W l (nR (u.1 122) a)) (fun b => (a, b, pl P W l (nR (nR (u.1 122) a) b) 0)) b q) := by
      intro b w q tb hb hF hq htb
      have e122 := nx_of hF
      obtain ⟨w2, e1, f1, f2⟩ := last_m (u := w) (l := l) (a := a) (b := b) (ta := ta) (tb := tb) (s := q) (c1 := nR (u.1 122) a) (c2 := nR (nR (u.1 122) a) b) (by rw [e122]; exact hV) hdd hP1 hW1 hl1 ha hb (by rw [e122]; exact hta) (by rw [e122]) htb rfl hq
      refine ⟨w2, e1, f1, ?_⟩
      rw [stp_y (vd_y htb), ← Nat.add_assoc]
      exact f2
    obtain ⟨u1, e1, f1, f2⟩ := lp_codes (β := fun s : Int32 × Um => fX8_laySecond_b2 (nI (l + 2)) (nI a) s.1 s.2) (P := P) (W := W) (f := stp ta (vd P W l (nR (u.1 122) a)) (fun b => (a, b, pl P W l (nR (nR (u.1 122) a) b) 0))) (u0 := u) (s0 := s) hP hW hP1 hW1 (fun d s h9 h => gap_s h9 h) (fun w => by
      show fX8_laySecond_b2 (nI (l + 2)) (nI a) (nI 99) w = _
      unfold fX8_laySecond_b2
      rw [if_pos (show (99 : Int32) ≤ nI 99 by decide)]) (fun cd w q h9 hw hp hF hq => by
      show ∃ u', fX8_laySecond_b2 (nI (l + 2)) (nI a) (nI cd) w = _ ∧ _
      have e122 := nx_of hF
      have hok : okd P W cd := Or.inr ⟨h9, hw, hp⟩
      obtain ⟨w1, k1, k2, k3⟩ := pl_2 (u := w) (a := a) (b := cd) (ta := ta) (p3 := 99) (by rw [e122]; exact hV) hdd ha hok (by rw [e122]; exact hta)
      rw [e122] at k1
      have hF1 : FRm w w1 := FRm_124 k2 k3
      have nx : ∀ w2 : Um, FRm u w2 → fX8_laySecond_j32 (nI (l + 2)) (nI a) (nI cd) w2 = some (0, nI (nxC P W cd), w2) := by
        intro w2 h2
        have e2 := nx_of h2
        unfold fX8_laySecond_j32
        rw [next_m (by rw [e2]; exact hV.1) (by rw [e2]; exact hV.2.1) hP hW hw hp, bd1s]
      unfold fX8_laySecond_b2
      rw [if_neg (le99 h9), if_neg (show ¬ nI (l + 2) ≤ (1 : Int32) from nI_ge (a := 1) (by omega) (by omega)), k1, bd2s]
      cases hg : gaN P W (nR (u.1 122) a) cd with
      | none =>
        rw [if_pos (show ((none : Option Nat).elim (-1) (fun t => nI (ta + t)) : Int32) < 0 by show (-1 : Int32) < 0; decide), nx w1 (FRm_t hF hF1), stp_n (vd_n hg)]
        exact ⟨w1, rfl, hF1, STm_124 hq k2⟩
      | some tb =>
        have h1b := (gaN_or hg).1
        obtain ⟨w2, m1, m2, m3⟩ := step cd w1 q tb hok (FRm_t hF hF1) (STm_124 hq k2) hg
        rw [if_neg (show ¬ ((some tb).elim (-1) (fun t => nI (ta + t)) : Int32) < 0 from nI_pos (n := ta + tb) (by omega)), m1, bd1s, nx w2 (FRm_t hF (FRm_t hF1 m2))]
        exact ⟨w2, rfl, FRm_t hF1 m2, m3⟩) hS
    obtain ⟨w2, k2, k3, k4⟩ := step 99 u1 _ 0 (Or.inl rfl) f1 f2 (gaN_99 _ _ _)
    rw [show l + 1 + 1 = l + 2 from rfl, e1, bd3s, show fX8_layLast (nI (l + 2)) (nI a) 99 u1 = some w2 from k2, bd1s]
    refine ⟨w2, rfl, FRm_t f1 k3, ?_⟩
    have e := tk100 P W l ta (nR (u.1 122) a) (fun b => (a, b, pl P W l (nR (nR (u.1 122) a) b) 0)) s
    rw [acc_100] at e
    rw [e] at k4
    rw [pl_s, ← pl_0]
    exact k4
theorem layPlan_m {u : Um} {P W dd n : Nat} (hV : VR (u.1 122) P W dd) (hdd : dd ≤ 9999) (hP1 : 1 ≤ P) (hW1 : 1 ≤ W) (hn : n ≤ 3) : ∃ u', fX8_layPlan (nI n) u = some u' ∧ FRm u u' ∧ STm u' (vl P W n (u.1 122) + 1, pl P W n (u.1 122) 0, pl P W n (u.1 122) 1, pl P W n (u.1 122) 2) := by
  have hP := hV.2.2.2.1
  have hW := hV.2.2.2.2.1
  have hF0 : FRm u (sI u 117 17 (-1)) := ⟨fun k h1 _ _ => sI_ne h1, rfl, fun i hi => sI_ot hi⟩
  have hS0 : STm (sI u 117 17 (-1)) (0, 0, 0, 0) := ⟨Nat.zero_le _, by rw [sI_eq]; show (-1 : Int32) = nI 0 + (-1); decide, fun h => absurd h (Nat.lt_irrefl 0)⟩
  unfold fX8_layPlan
  simp only [nm]
  cases n with
  | zero =>
    rw [show nI 0 = (0 : Int32) from rfl, plan_out (by decide), bd3s]
    unfold fX8_laySecond
    rw [second_out (by decide), bd3s]
    unfold fX8_layLast
    rw [last_out (by decide), bd3s]
    obtain ⟨u', e1, f1, f2⟩ := pl_z 99 99 99 (sI u 117 17 (-1))
    rw [e1, bd2s]
    obtain ⟨v, e2, g1, g2⟩ := take_m (u := u') (s := (0, 0, 0, 0)) (o := 0) (a := 99) (b := 99) (d := 99) (g := some 0) (STm_124 hS0 f1) (fun t h => by injection h; omega)
    rw [show fX8_take (nI 0) 99 99 99 u' = some v from e2, bd1s, bd1s, bd1s]
    exact ⟨v, rfl, FRm_t hF0 (FRm_t (FRm_124 f1 f2) g1), g2⟩
  | succ l =>
    have hl1 : l ≤ 2 := by omega
    have step : ∀ (a : Nat) (w : Um) (q : St4) (ta : Nat), okd P W a → FRm (sI u 117 17 (-1)) w → STm w q → gaN P W (u.1 122) a = some ta → ∃ w2, fX8_laySecond (nI (l + 1)) (nI a) w = some w2 ∧ FRm w w2 ∧ STm w2 (stp 0 (vd P W l (u.1 122)) (fun a => (a, pl P W l (nR (u.1 122) a) 0, pl P W l (nR (u.1 122) a) 1)) a q) := by
      intro a w q ta ha hF hq hta
      have e122 := nx_of (FRm_t hF0 hF)
      obtain ⟨w2, e1, f1, f2⟩ := second_m (u := w) (l := l) (a := a) (ta := ta) (s := q) (c1 := nR (u.1 122) a) (by rw [e122]; exact hV) hdd hP1 hW1 hl1 ha (by rw [e122]; exact hta) (by rw [e122]) hq
      refine ⟨w2, e1, f1, ?_⟩
      rw [stp_y (vd_y hta), Nat.zero_add]
      exact f2
    obtain ⟨u1, e1, f1, f2⟩ := lp_codes (β := fun s : Int32 × Um => fX8_layPlan_b7 (nI (l + 1)) s.1 s.2) (P := P) (W := W) (f := stp 0 (vd P W l (u.1 122)) (fun a => (a, pl P W l (nR (u.1 122) a) 0, pl P W l (nR (u.1 122) a) 1))) (u0 := sI u 117 17 (-1)) (s0 := (0, 0, 0, 0)) hP hW hP1 hW1 (fun d s h9 h => gap_s h9 h) (fun w => by
      show fX8_layPlan_b7 (nI (l + 1)) (nI 99) w = _
      unfold fX8_layPlan_b7
      rw [if_pos (show (99 : Int32) ≤ nI 99 by decide)]) (fun cd w q h9 hw hp hF hq => by
      show ∃ u', fX8_layPlan_b7 (nI (l + 1)) (nI cd) w = _ ∧ _
      have e122 := nx_of (FRm_t hF0 hF)
      have hok : okd P W cd := Or.inr ⟨h9, hw, hp⟩
      obtain ⟨w1, k1, k2, k3⟩ := pl_1 (u := w) (a := cd) (p2 := 99) (p3 := 99) (by rw [e122]; exact hV) hok
      rw [e122] at k1
      have hF1 : FRm w w1 := FRm_124 k2 k3
      have nx : ∀ w2 : Um, FRm (sI u 117 17 (-1)) w2 → fX8_layPlan_j36 (nI (l + 1)) (nI cd) w2 = some (0, nI (nxC P W cd), w2) := by
        intro w2 h2
        have e2 := nx_of (FRm_t hF0 h2)
        unfold fX8_layPlan_j36
        rw [next_m (by rw [e2]; exact hV.1) (by rw [e2]; exact hV.2.1) hP hW hw hp, bd1s]
      unfold fX8_layPlan_b7
      rw [if_neg (le99 h9), if_neg (show ¬ nI (l + 1) ≤ (0 : Int32) from nI_nle (by omega) (by omega)), k1, bd2s]
      cases hg : gaN P W (u.1 122) cd with
      | none =>
        rw [if_pos (show ((none : Option Nat).elim (-1) nI : Int32) < 0 by show (-1 : Int32) < 0; decide), nx w1 (FRm_t hF hF1), stp_n (vd_n hg)]
        exact ⟨w1, rfl, hF1, STm_124 hq k2⟩
      | some ta =>
        have h1b := (gaN_or hg).1
        obtain ⟨w2, m1, m2, m3⟩ := step cd w1 q ta hok (FRm_t hF hF1) (STm_124 hq k2) hg
        rw [if_neg (show ¬ ((some ta).elim (-1) nI : Int32) < 0 from nI_pos (n := ta) (by omega)), m1, bd1s, nx w2 (FRm_t hF (FRm_t hF1 m2))]
        exact ⟨w2, rfl, FRm_t hF1 m2, m3⟩) hS0
    obtain ⟨w2, k2, k3, k4⟩ := step 99 u1 _ 0 (Or.inl rfl) f1 f2 (gaN_99 _ _ _)
    rw [e1, bd3s, show fX8_laySecond (nI (l + 1)) 99 u1 = some w2 from k2, bd1s]
    refine ⟨w2, rfl, FRm_t hF0 (FRm_t f1 k3), ?_⟩
    have e := tk100 P W l 0 (u.1 122) (fun a => (a, pl P W l (nR (u.1 122) a) 0, pl P W l (nR (u.1 122) a) 1)) (0, 0, 0, 0)
    rw [acc_100] at e
    rw [e, if_pos (show 0 < 0 + vl P W (l + 1) (u.1 122) + 1 by omega), Nat.zero_add] at k4
    rw [pl_s, pl_s, ← pl_0]
    exact k4
theorem is_m1 {x : Int32} (h : (-1 : Int32) ≤ x) (h0 : x < 0) : x = -1 := by
  have h1 := Int32.le_iff_toInt_le.mp h
  have h2 := Int32.lt_iff_toInt_lt.mp h0
  rw [show (-1 : Int32).toInt = -1 from by decide] at h1
  rw [show (0 : Int32).toInt = 0 from by decide] at h2
  refine Int32.toInt_inj.mp ?_
  rw [show (-1 : Int32).toInt = -1 from by decide]
  omega
theorem s_plan (a b : Int32) : S22 (fX7_plan a b) (fX8_plan a b) := by
  intro u hI
  unfold fX7_plan fX8_plan
  rcases ix_of a (n := 4) (by decide) with ha | ⟨n, hn, rfl⟩
  · refine ⟨-1, u, u, ?_, ?_, hI⟩
    · by_cases h0 : a < 0
      · rw [if_pos h0]
      · rw [if_neg h0, if_pos (show (3 : Int32) < a from (last_lt (P := 4) (by decide)).mpr (ha.resolve_left h0))]
    · rw [in_n (hi := 3) (ha.imp id (fun h => (last_lt (P := 4) (by decide)).mpr h)), bd1s, if_pos rfl]
  have l3 : ¬ (3 : Int32) < nI n := nI_nlt (b := n) (a := 3) (by omega) (by decide)
  have hin : ∀ v : Um, fX8_in (nI n) 0 3 v = some 1 := fun v => in_y (nI_pos (by omega)) l3
  rw [if_neg (nI_pos (n := n) (by omega)), if_neg l3]
  by_cases hb : ¬ (-1 : Int32) ≤ b
  · refine ⟨-1, u, u, ?_, ?_, hI⟩
    · rw [if_neg hb]
    · rw [hin, bd1s, if_neg i10, if_neg hb]
  have hb := Classical.not_not.mp hb
  rw [if_pos hb]
  rcases stand_or hI.1 with ⟨h1, h2, -⟩ | ⟨h1, h2, hC⟩
  · refine ⟨-2, u, u, ?_, ?_, hI⟩
    · rw [h1, bd1s, if_pos rfl]
    · rw [hin, bd1s, if_neg i10, if_pos hb, h2, bd1s, if_pos rfl]
  obtain ⟨P, W, dd, hP2, hW1, hd, hV, hR⟩ := hC
  rw [h1, bd1s, if_neg i10]
  have ref : ∀ v : Um, v.1 122 = u.1 122 → Inv v → ∃ v', fX8_layPlan (nI n) v = some v' ∧ Inv v' ∧ STm v' (vl P W n (u.1 122) + 1, pl P W n (u.1 122) 0, pl P W n (u.1 122) 1, pl P W n (u.1 122) 2) := by
    intro v e122 hIv
    obtain ⟨v', e1, f1, f2⟩ := layPlan_m (u := v) (n := n) (by rw [e122]; exact hV) hd (by omega) hW1 (by omega)
    rw [e122] at f2
    exact ⟨v', e1, Inv_fr hIv (fun k hk => f1.1 k (by omega) (by omega) (by omega)) (f1.2.2 3 (by decide)) (f1.2.2 12 (by decide)) f1.2.1, f2⟩
  by_cases hlt : ¬ b < nI n
  · obtain ⟨v, e1, i1, -⟩ := ref u rfl hI
    have hle : nI n ≤ b := Int32.not_lt.mp hlt
    have hne : ¬ b = -1 := fun h => by
      rw [h] at hle
      exact absurd (Int32.le_trans (nI_pos' (n := n) (by omega)) hle) (by decide)
    refine ⟨-4, u, v, ?_, ?_, i1⟩
    · rw [if_neg hlt]
    · rw [hin, bd1s, if_neg i10, if_pos hb, h2, bd1s, if_neg i10, e1, bd1s, if_neg hne, if_pos hle]
  have hlt := Classical.not_not.mp hlt
  rw [if_pos hlt]
  obtain ⟨u5, e5, f5, g5⟩ := bf_L (n := n) (by omega) 3 0 P W dd (u.1 122) u hR hV (by omega) (by omega) (by omega)
  have q122 : u5.1 122 = u.1 122 := f5.1 122 (by omega)
  have hI5 : Inv u5 := Inv_fr hI (fun k hk => f5.1 k (by omega)) (by rw [f5.1 117 (by omega)]) (by rw [f5.1 117 (by omega)]) f5.2.1
  obtain ⟨v, e1, i1, s1, s2, s3⟩ := ref u5 q122 hI5
  have s3 := s3 (Nat.succ_pos _)
  dsimp only at s2 s3
  rw [pk_m1] at s2
  rw [show fX4_bestFrom_L2 3 0 (nI n) u = some (nI (vl P W n (u.1 122)), u5) from e5, bd2s]
  by_cases hm : b = -1
  · refine ⟨nI (vl P W n (u.1 122)), u5, v, ?_, ?_, i1⟩
    · rw [if_pos hm]
    · rw [hin, bd1s, if_neg i10, if_pos hb, there_fr q122, h2, bd1s, if_neg i10, e1, bd1s, if_pos hm, s2]
  · have hb0 : ¬ b < 0 := fun h => hm (is_m1 hb h)
    obtain ⟨k, hk, rfl⟩ : ∃ k : Nat, k < n ∧ b = nI k := by
      rcases ix_of b (n := n) (by omega) with h | h
      · rcases h with h | h
        · exact absurd h hb0
        · exact absurd hlt (Int32.not_lt.mpr h)
      · exact h
    have hk3 : k < 3 := by omega
    have g := g5 k hk
    rw [Nat.mul_zero, Nat.zero_add] at g
    have hv : v.1 131 k = nI (pl P W n (u.1 122) k) := by
      rcases (show k = 0 ∨ k = 1 ∨ k = 2 by omega) with rfl | rfl | rfl
      · exact s3.1
      · exact s3.2.1
      · exact s3.2.2
    refine ⟨nI (pl P W n (u.1 122) k), u5, v, ?_, ?_, i1⟩
    · rw [if_neg hm]
      unfold fX4_step
      rw [if_neg hb0, if_pos (show nI k < (3 : Int32) from nI_lt (b := 3) hk3 (by decide)), if_pos (inbN (show k < 12 by omega) (by decide)), nI_clamp (by omega), g, bd1s]
    · rw [hin, bd1s, if_neg i10, if_pos hb, there_fr q122, h2, bd1s, if_neg i10, e1, bd1s, if_neg hm, if_neg (Int32.not_le.mpr hlt), if_pos (inbN hk3 (by decide)), nI_clamp (by omega), hv]
