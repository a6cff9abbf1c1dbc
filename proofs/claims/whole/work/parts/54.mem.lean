/-! ===== copies, acts kept and noted ===== -/
theorem sI_ne {u : Um} {k i j : Nat} {v : Int32} (h : j ≠ k) : (sI u k i v).1 j = u.1 j := by simp [sI, sIr, h]
theorem sI_eq {u : Um} {k i : Nat} {v : Int32} : (sI u k i v).1 k i = v := by simp [sI, sIr, upd]
theorem sI_ot {u : Um} {k i j : Nat} {v : Int32} (h : j ≠ i) : (sI u k i v).1 k j = u.1 k j := by simp [sI, sIr, upd, h]
theorem sI_2 {u : Um} {k i : Nat} {v : Int32} : (sI u k i v).2 = u.2 := rfl
theorem irmN {a d : Nat} (ha : a < 2 ^ 31) (h0 : 0 < d) (hd : d < 2 ^ 31) : irm (nI a) (nI d) = nI (a % d) := pk_rem ha h0 hd
set_option maxHeartbeats 1000000 in
theorem copy_spec {a b : Nat} (hab : a + 2 < b ∨ b + 2 < a) (u : Um) : ∃ u', fX0_copyFrom a b u = some u' ∧ (∀ k, k ≠ a → k ≠ a + 1 → k ≠ a + 2 → u'.1 k = u.1 k) ∧ u'.2 = u.2 ∧ u'.1 a 2 = u.1 b 2 ∧ u'.1 a 3 = u.1 b 3 ∧ u'.1 a 4 = u.1 b 4 ∧ (∀ i, i < 48 → u'.1 (a + 1) i = u.1 (b + 1) i) ∧ (∀ i, i < 32 → u'.1 (a + 2) i = u.1 (b + 2) i) := by
  unfold fX0_copyFrom
  rw [if_pos (by decide)]
  simp only [nm]
  rw [if_pos (by decide)]
  have e0 : (0 : Int32).toNatClampNeg = 0 := by decide
  have e48 : (48 : Int32).toNatClampNeg = 48 := by decide
  have e32 : (32 : Int32).toNatClampNeg = 32 := by decide
  have n1 : b ≠ a := by omega
  have n2 : b ≠ a + 1 := by omega
  have n3 : b ≠ a + 2 := by omega
  have n4 : b + 2 ≠ a + 1 := by omega
  have m1 : a ≠ a + 1 := by omega
  have m2 : a ≠ a + 2 := by omega
  have m3 : a + 1 ≠ a + 2 := by omega
  have m4 : a + 1 ≠ a := by omega
  have m5 : a + 2 ≠ a := by omega
  have m6 : a + 2 ≠ a + 1 := by omega
  refine ⟨_, rfl, fun k h1 h2 h3 => ?_, rfl, ?_, ?_, ?_, fun i hi => ?_, fun i hi => ?_⟩
  · simp [sI, sIr, h1, h2, h3]
  · simp [sI, sIr, upd, n1, n2, n3, m1, m2]
  · simp [sI, sIr, upd, n1, n2, n3, m1, m2]
  · simp [sI, sIr, upd, n1, n2, n3, m1, m2]
  · simp [sI, sIr, upd, e0, e48, va_cpy, m3, m4, hi]
  · simp [sI, sIr, upd, e0, e32, va_cpy, m5, m6, n4, hi]
theorem RC_copy {u u' : Um} {a b P W : Nat} {c : Nat → Int32} (h : RC u b c P W) (hP : P ≤ 6) (hW : W ≤ 8) (h2 : u'.1 a 2 = u.1 b 2) (h3 : u'.1 a 3 = u.1 b 3) (h4 : u'.1 a 4 = u.1 b 4) (h5 : ∀ i, i < 48 → u'.1 (a + 1) i = u.1 (b + 1) i) (h6 : ∀ i, i < 32 → u'.1 (a + 2) i = u.1 (b + 2) i) : RC u' a c P W :=
  ⟨h2.trans h.1, h3.trans h.2.1, h4.trans h.2.2.1, fun p k hp hk => (h5 _ (by omega)).trans (h.2.2.2.1 p k hp hk), fun w k hw hk => (h6 _ (by omega)).trans (h.2.2.2.2 w k hw hk)⟩
theorem VR_congr {c c' : Nat → Int32} {P W dd : Nat} (h : VR c P W dd) (e : ∀ i, i < 83 → c' i = c i) : VR c' P W dd := by
  obtain ⟨h1, h2, h3, h4, h5, h6, h7, h8⟩ := h
  refine ⟨(e 1 (by decide)).trans h1, (e 2 (by decide)).trans h2, (e 0 (by decide)).trans h3, h4, h5, h6, fun p hp => ?_, fun w hw => ?_⟩
  · have := h7 p hp
    unfold PV at this ⊢
    rw [e (3 + p) (by omega), e (9 + p) (by omega), e (15 + p) (by omega), e (21 + p) (by omega), e (27 + p) (by omega), e (33 + p) (by omega), e (39 + p) (by omega), e (45 + p) (by omega)]
    exact this
  · have := h8 w hw
    unfold WV at this ⊢
    rw [e (51 + w) (by omega), e (59 + w) (by omega), e (67 + w) (by omega), e (75 + w) (by omega)]
    exact this
theorem RC_congr {u : Um} {a P W : Nat} {c c' : Nat → Int32} (h : RC u a c P W) (hP : P ≤ 6) (hW : W ≤ 8) (e : ∀ i, i < 83 → c' i = c i) : RC u a c' P W :=
  ⟨h.1.trans (e 1 (by decide)).symm, h.2.1.trans (e 2 (by decide)).symm, h.2.2.1.trans (e 0 (by decide)).symm, fun p k hp hk => (h.2.2.2.1 p k hp hk).trans (e _ (by omega)).symm, fun w k hw hk => (h.2.2.2.2 w k hw hk).trans (e _ (by omega)).symm⟩
theorem RC_fr {u u' : Um} {a P W : Nat} {c : Nat → Int32} (h : RC u a c P W) (e0 : u'.1 a = u.1 a) (e1 : u'.1 (a + 1) = u.1 (a + 1)) (e2 : u'.1 (a + 2) = u.1 (a + 2)) : RC u' a c P W := by
  unfold RC
  rw [e0, e1, e2]
  exact h
theorem CP_fr {u u' : Um} {a : Nat} {c c' : Nat → Int32} (h : CP u a c) (e0 : u'.1 a = u.1 a) (e1 : u'.1 (a + 1) = u.1 (a + 1)) (e2 : u'.1 (a + 2) = u.1 (a + 2)) (e : ∀ i, i < 83 → c' i = c i) : CP u' a c' := by
  obtain ⟨P, W, dd, h1, h2, h3, hV, hR⟩ := h
  exact ⟨P, W, dd, h1, h2, h3, VR_congr hV e, RC_fr (RC_congr hR hV.2.2.2.1 hV.2.2.2.2.1 e) e0 e1 e2⟩
theorem CP_copy {u u' : Um} {a b : Nat} {c c' : Nat → Int32} (h : CP u b c) (h2 : u'.1 a 2 = u.1 b 2) (h3 : u'.1 a 3 = u.1 b 3) (h4 : u'.1 a 4 = u.1 b 4) (h5 : ∀ i, i < 48 → u'.1 (a + 1) i = u.1 (b + 1) i) (h6 : ∀ i, i < 32 → u'.1 (a + 2) i = u.1 (b + 2) i) (e : ∀ i, i < 83 → c' i = c i) : CP u' a c' := by
  obtain ⟨P, W, dd, g1, g2, g3, hV, hR⟩ := h
  exact ⟨P, W, dd, g1, g2, g3, VR_congr hV e, RC_copy (RC_congr hR hV.2.2.2.1 hV.2.2.2.2.1 e) hV.2.2.2.1 hV.2.2.2.2.1 h2 h3 h4 h5 h6⟩
theorem bring_run {s d i0 j0 n : Nat} (hi : i0 + n ≤ ln s) (hj : j0 + n ≤ ln d) (hls : ln s < 10000) (hld : ln d < 10000) (hsd : s ≠ d ∨ j0 < i0) : ∀ (N k : Nat) (u : Um), k ≤ n → n - k < N → ∃ u', lp (fun q => fX8_bring_b3 s (nI i0) d (nI j0) (nI n) q.1 q.2) N (nI k, u) = some (1, nI n, u') ∧ (∀ r, r ≠ d → u'.1 r = u.1 r) ∧ u'.2 = u.2 ∧ (∀ q, q < j0 + k ∨ j0 + n ≤ q → u'.1 d q = u.1 d q) ∧ (∀ t, k ≤ t → t < n → u'.1 d (j0 + t) = u.1 s (i0 + t))
  | 0, k, u, _, h => by omega
  | N + 1, k, u, hk, h => by
    by_cases hkn : k = n
    · subst hkn
      refine ⟨u, ?_, fun _ _ => rfl, rfl, fun _ _ => rfl, fun t h1 h2 => by omega⟩
      show (fX8_bring_b3 s (nI i0) d (nI j0) (nI k) (nI k) u).bind _ = _
      unfold fX8_bring_b3
      rw [if_pos (nI_le (Nat.le_refl _) (by omega))]
      rfl
    · obtain ⟨u', e1, f1, f2, f3, f4⟩ := bring_run hi hj hls hld hsd N (k + 1) (sI u d (j0 + k) (u.1 s (i0 + k))) (by omega) (by omega)
      refine ⟨u', ?_, fun r hr => (f1 r hr).trans (sI_ne hr), f2, fun q hq => (f3 q (by omega)).trans (sI_ot (by omega)), fun t h1 h2 => ?_⟩
      · show (fX8_bring_b3 s (nI i0) d (nI j0) (nI n) (nI k) u).bind _ = _
        have eb : fX8_bring_b3 s (nI i0) d (nI j0) (nI n) (nI k) u = some (0, nI (k + 1), sI u d (j0 + k) (u.1 s (i0 + k))) := by
          unfold fX8_bring_b3
          rw [if_neg (nI_ge (by omega) (by omega)), nI_add, nI_add, if_pos (inbN (by omega) (by omega)), if_pos (inbN (by omega) (by omega)), nI_clamp (by omega), nI_clamp (by omega)]
          simp only [nm]
          rw [nI_1]
        rw [eb]
        exact e1
      · by_cases ht : t = k
        · subst ht
          rw [f3 (j0 + t) (Or.inl (by omega)), sI_eq]
        · rw [f4 t (by omega) h2]
          by_cases hs : s = d
          · subst hs
            exact sI_ot (by omega)
          · rw [sI_ne hs]
theorem bring_spec {s d i0 j0 n : Nat} {I J N : Int32} (eI : I = nI i0) (eJ : J = nI j0) (eN : N = nI n) (hi : i0 + n ≤ ln s) (hj : j0 + n ≤ ln d) (hls : ln s < 10000) (hld : ln d < 10000) (hsd : s ≠ d ∨ j0 < i0) (hn : n < 4000) (u : Um) : ∃ u', fX8_bring s I d J N u = some u' ∧ (∀ r, r ≠ d → u'.1 r = u.1 r) ∧ u'.2 = u.2 ∧ (∀ q, q < j0 ∨ j0 + n ≤ q → u'.1 d q = u.1 d q) ∧ (∀ t, t < n → u'.1 d (j0 + t) = u.1 s (i0 + t)) := by
  subst eI; subst eJ; subst eN
  obtain ⟨u', e1, f1, f2, f3, f4⟩ := bring_run hi hj hls hld hsd fuel 0 u (Nat.zero_le _) (by rw [fuel_eq]; omega)
  refine ⟨u', ?_, f1, f2, fun q hq => f3 q (by omega), fun t ht => f4 t (Nat.zero_le _) ht⟩
  unfold fX8_bring
  show bd3 (lp (fun q => fX8_bring_b3 s (nI i0) d (nI j0) (nI n) q.1 q.2) fuel (nI 0, u)) _ = _
  rw [e1]
  rfl
theorem ln125 : ln 125 = 166 := by decide +kernel
theorem ln127 : ln 127 = 1992 := by decide +kernel
theorem spl_e {α : Type} {k x : Nat} {A : Option α} {B : Nat → Option α} (h : kd x = k) : spl (some x) k A B = B x := by
  show (if kd x = k then B x else none) = B x
  rw [if_pos h]
theorem keep_spec {u : Um} {n nx : Nat} (hn : n ≤ 24) (hx : nx < 24) (h2 : u.1 9 2 = nI n) (h1 : u.1 9 1 = nI nx) : ∃ u', fX3_keep 3 u = some u' ∧ (∀ k, k ≠ 9 → k ≠ 11 + 3 * nx → k ≠ 11 + 3 * nx + 1 → k ≠ 11 + 3 * nx + 2 → u'.1 k = u.1 k) ∧ u'.2 = u.2 ∧ u'.1 9 1 = nI ((nx + 1) % 24) ∧ u'.1 9 2 = nI (if n < 24 then n + 1 else 24) ∧ u'.1 (11 + 3 * nx) 2 = u.1 3 2 ∧ u'.1 (11 + 3 * nx) 3 = u.1 3 3 ∧ u'.1 (11 + 3 * nx) 4 = u.1 3 4 ∧ (∀ i, i < 48 → u'.1 (11 + 3 * nx + 1) i = u.1 4 i) ∧ (∀ i, i < 32 → u'.1 (11 + 3 * nx + 2) i = u.1 5 i) := by
  obtain ⟨u1, e1, f1, f2, f3, f4, f5, f6, f7⟩ := copy_spec (a := 11 + 3 * nx) (b := 3) (by omega) u
  have hkd : kd (11 + 3 * nx) = 0 := by
    have key : ∀ q, q < 24 → kd (11 + 3 * q) = 0 := by decide +kernel
    exact key nx hx
  have hat : fX3_at (u.1 9 1) u = some (some (11 + 3 * nx)) := by
    unfold fX3_at
    rw [h1, if_neg (nI_pos (by omega)), if_pos ((ltr24 (by omega)).mpr hx), if_pos (inbN hx (by decide)), nI_clamp (by omega)]
  have h9 : u1.1 9 = u.1 9 := f1 9 (by omega) (by omega) (by omega)
  have em : mnI 24 (nI n + 1) = nI (if n < 24 then n + 1 else 24) := by
    unfold mnI
    rw [nI_1]
    by_cases hc : n + 1 < 24
    · rw [if_pos ((ltr24 (by omega)).mpr hc), if_pos (by omega)]
    · rw [if_neg (fun h => hc ((ltr24 (by omega)).mp h))]
      by_cases h24 : n < 24
      · rw [if_pos h24, show n + 1 = 24 by omega]; rfl
      · rw [if_neg h24]; rfl
  have er : irm (nI nx + 1) 24 = nI ((nx + 1) % 24) := by rw [nI_1]; exact irmN (d := 24) (by omega) (by decide) (by decide)
  unfold fX3_keep
  rw [hat, bd1s, spl_e hkd, e1, bd1s]
  simp only [nm]
  refine ⟨_, rfl, fun k k1 k2 k3 k4 => ?_, f2, ?_, ?_, ?_, ?_, ?_, fun i hi => ?_, fun i hi => ?_⟩
  · rw [sI_ne k1, sI_ne k1, f1 k k2 k3 k4]
  · rw [sI_ot (by decide), sI_eq, h9, h1, er]
  · rw [sI_eq, sI_ot (by decide), h9, h2, em]
  · rw [sI_ne (by omega), sI_ne (by omega), f3]
  · rw [sI_ne (by omega), sI_ne (by omega), f4]
  · rw [sI_ne (by omega), sI_ne (by omega), f5]
  · rw [sI_ne (by omega), sI_ne (by omega), f6 i hi]
  · rw [sI_ne (by omega), sI_ne (by omega), f7 i hi]
theorem note_j {v : Um} {n : Nat} (hn : n < 24) (h : v.1 117 12 = nI n) : ∃ v', fX8_note_j36 v = some v' ∧ (∀ k, k ≠ 117 → k ≠ 127 → v'.1 k = v.1 k) ∧ v'.2 = v.2 ∧ (∀ i, i ≠ 12 → v'.1 117 i = v.1 117 i) ∧ v'.1 117 12 = nI (n + 1) ∧ (∀ q, q < 83 * n → v'.1 127 q = v.1 127 q) ∧ (∀ i, i < 83 → v'.1 127 (83 * n + i) = v.1 122 i) := by
  have eJ : (83 * v.1 117 12 : Int32) = nI (83 * n) := by rw [h, show (83 : Int32) = nI 83 from rfl, pk_mul]
  obtain ⟨v1, e1, f1, f2, f3, f4⟩ := bring_spec (s := 122) (d := 127) (i0 := 0) (j0 := 83 * n) (n := 83) (I := 0) (J := 83 * v.1 117 12) (N := 83) rfl eJ rfl (by rw [ln122]; decide) (by rw [ln127]; omega) (by rw [ln122]; decide) (by rw [ln127]; decide) (Or.inl (by decide)) (by decide) v
  unfold fX8_note_j36
  rw [e1, bd1s]
  simp only [nm]
  have h117 := f1 117 (by decide)
  refine ⟨_, rfl, fun k k1 k2 => ?_, f2, fun i hi => ?_, ?_, fun q hq => ?_, fun i hi => ?_⟩
  · rw [sI_ne k1, f1 k k2]
  · rw [sI_ot hi, h117]
  · rw [sI_eq, h117, h, nI_1]
  · rw [sI_ne (by decide), f3 q (Or.inl hq)]
  · rw [sI_ne (by decide), f4 i hi, Nat.zero_add]
theorem note_spec {v : Um} {n : Nat} (hn : n ≤ 24) (h : v.1 117 12 = nI n) : ∃ v', fX8_note v = some v' ∧ (∀ k, k ≠ 117 → k ≠ 127 → v'.1 k = v.1 k) ∧ v'.2 = v.2 ∧ (∀ i, i ≠ 12 → v'.1 117 i = v.1 117 i) ∧ v'.1 117 12 = nI (if n < 24 then n + 1 else 24) ∧ (n < 24 → (∀ q, q < 83 * n → v'.1 127 q = v.1 127 q) ∧ (∀ i, i < 83 → v'.1 127 (83 * n + i) = v.1 122 i)) ∧ (n = 24 → (∀ q, q < 1909 → v'.1 127 q = v.1 127 (83 + q)) ∧ (∀ i, i < 83 → v'.1 127 (1909 + i) = v.1 122 i)) := by
  unfold fX8_note
  by_cases h24 : n = 24
  · subst h24
    obtain ⟨v1, e1, f1, f2, f3, f4⟩ := bring_spec (s := 127) (d := 127) (i0 := 83) (j0 := 0) (n := 1909) (I := 83) (J := 0) (N := 1909) rfl rfl rfl (by rw [ln127]; decide) (by rw [ln127]; decide) (by rw [ln127]; decide) (by rw [ln127]; decide) (Or.inr (by decide)) (by decide) v
    have h117 := f1 117 (by decide)
    have hm : (sI v1 117 12 (v1.1 117 12 - 1)).1 117 12 = nI 23 := by rw [sI_eq, h117, h]; decide
    obtain ⟨v', e2, g1, g2, g3, g4, g5, g6⟩ := note_j (v := sI v1 117 12 (v1.1 117 12 - 1)) (n := 23) (by decide) hm
    rw [if_pos (show v.1 117 12 = 24 from h), e1, bd1s]
    simp only [nm]
    refine ⟨v', e2, fun k k1 k2 => ?_, g2.trans f2, fun i hi => ?_, g4, fun h => absurd h (by decide), fun _ => ⟨fun q hq => ?_, fun i hi => ?_⟩⟩
    · rw [g1 k k1 k2, sI_ne k1, f1 k k2]
    · rw [g3 i hi, sI_ot hi, h117]
    · rw [g5 q (by omega), sI_ne (by decide), ← Nat.zero_add q, f4 q hq, Nat.zero_add]
    · rw [show 1909 + i = 83 * 23 + i by omega, g6 i hi, sI_ne (by decide), f1 122 (by decide)]
  · rw [if_neg (by rw [h]; exact fun e => h24 ((eqr24 (by omega)).mp e))]
    obtain ⟨v', e2, g1, g2, g3, g4, g5, g6⟩ := note_j (v := v) (n := n) (by omega) h
    exact ⟨v', e2, g1, g2, g3, by rw [if_pos (show n < 24 by omega)]; exact g4, fun _ => ⟨g5, g6⟩, fun h => absurd h h24⟩
/-- an act is kept by the class and noted by the reference -/
theorem act_IvP {u u1 v v' z : Um} (hI : IvP u) (hC : CP u 3 (u.1 122)) (hk : fX3_keep 3 u = some u1) (hv9 : v.1 9 = u1.1 9) (hvr : ∀ k, 11 ≤ k → k ≤ 82 → v.1 k = u1.1 k) (hv2 : v.1 122 = u1.1 122) (hv7 : v.1 127 = u1.1 127) (hvc : v.1 117 12 = u1.1 117 12) (hn : fX8_note v = some v') (hz9 : z.1 9 = v'.1 9) (hzr : ∀ k, 11 ≤ k → k ≤ 82 → z.1 k = v'.1 k) (hz7 : z.1 127 = v'.1 127) (hzc : z.1 117 12 = v'.1 117 12) : IvP z := by
  obtain ⟨n, nx, hn24, hx, a1, a2, a3, a4⟩ := hI
  obtain ⟨u1', e1, f1, f2, f3, f4, f5, f6, f7, f8, f9⟩ := keep_spec hn24 hx a1 a3
  rw [hk] at e1
  cases e1
  have hvn : v.1 117 12 = nI n := by rw [hvc, f1 117 (by decide) (by omega) (by omega) (by omega)]; exact a2
  obtain ⟨v'', e2, g1, g2, g3, g4, g5, g6⟩ := note_spec hn24 hvn
  rw [hn] at e2
  cases e2
  have z9 : z.1 9 = u1.1 9 := by rw [hz9, g1 9 (by decide) (by decide), hv9]
  have zr : ∀ k, 11 ≤ k → k ≤ 82 → z.1 k = u1.1 k := fun k h1 h2 => by rw [hzr k h1 h2, g1 k (by omega) (by omega), hvr k h1 h2]
  have r122 : ∀ i, v.1 122 i = u.1 122 i := fun i => by rw [hv2, f1 122 (by decide) (by omega) (by omega) (by omega)]
  have r127 : ∀ i, v.1 127 i = u.1 127 i := fun i => by rw [hv7, f1 127 (by decide) (by omega) (by omega) (by omega)]
  have new : ∀ c' : Nat → Int32, (∀ i, i < 83 → c' i = u.1 122 i) → CP z (11 + 3 * nx) c' := by
    intro c' hc'
    refine CP_copy hC ?_ ?_ ?_ (fun i hi => ?_) (fun i hi => ?_) hc'
    · rw [zr _ (by omega) (by omega)]; exact f5
    · rw [zr _ (by omega) (by omega)]; exact f6
    · rw [zr _ (by omega) (by omega)]; exact f7
    · rw [zr _ (by omega) (by omega)]; exact f8 i hi
    · rw [zr _ (by omega) (by omega)]; exact f9 i hi
  have old : ∀ q, q < 24 → q ≠ nx → ∀ c c' : Nat → Int32, CP u (11 + 3 * q) c → (∀ i, i < 83 → c' i = c i) → CP z (11 + 3 * q) c' := by
    intro q hq hne c c' hcp hcc
    refine CP_fr hcp ?_ ?_ ?_ hcc
    · rw [zr _ (by omega) (by omega)]; exact f1 _ (by omega) (by omega) (by omega) (by omega)
    · rw [zr _ (by omega) (by omega)]; exact f1 _ (by omega) (by omega) (by omega) (by omega)
    · rw [zr _ (by omega) (by omega)]; exact f1 _ (by omega) (by omega) (by omega) (by omega)
  refine ⟨if n < 24 then n + 1 else 24, (nx + 1) % 24, by split <;> omega, Nat.mod_lt _ (by decide), by rw [z9]; exact f4, by rw [hzc]; exact g4, by rw [z9]; exact f3, fun j hj => ?_⟩
  by_cases h24 : n < 24
  · rw [if_pos h24] at hj ⊢
    obtain ⟨b1, b2⟩ := g5 h24
    by_cases hjn : j = n
    · subst hjn
      rw [show ((nx + 1) % 24 + 24 - (j + 1) + j) % 24 = nx by omega]
      exact new _ (fun i hi => by rw [hz7, b2 i hi, r122])
    · have hq : ((nx + 1) % 24 + 24 - (n + 1) + j) % 24 = (nx + 24 - n + j) % 24 := by omega
      rw [hq]
      exact old _ (Nat.mod_lt _ (by decide)) (by omega) _ _ (a4 j (by omega)) (fun i hi => by rw [hz7, b1 _ (by omega), r127])
  · have hn24' : n = 24 := by omega
    subst hn24'
    rw [if_neg h24] at hj ⊢
    obtain ⟨b1, b2⟩ := g6 rfl
    by_cases hjn : j = 23
    · subst hjn
      rw [show ((nx + 1) % 24 + 24 - 24 + 23) % 24 = nx by omega]
      exact new _ (fun i hi => by rw [hz7, show 83 * 23 + i = 1909 + i by omega, b2 i hi, r122])
    · have hq : ((nx + 1) % 24 + 24 - 24 + j) % 24 = (nx + 24 - 24 + (j + 1)) % 24 := by omega
      rw [hq]
      exact old _ (Nat.mod_lt _ (by decide)) (by omega) _ _ (a4 (j + 1) (by omega)) (fun i hi => by rw [hz7, b1 _ (by omega), r127, show 83 + (83 * j + i) = 83 * (j + 1) + i by omega])
