/-! ===== sheets ===== -/
theorem sJ_ne {u : Um} {k i j : Nat} {v : Int64} (h : j ≠ k) : (sJ u k i v).2 j = u.2 j := by simp [sJ, sJr, h]
theorem sJ_eq {u : Um} {k i : Nat} {v : Int64} : (sJ u k i v).2 k i = v := by simp [sJ, sJr, vp_updL]
theorem sJ_ot {u : Um} {k i j : Nat} {v : Int64} (h : j ≠ i) : (sJ u k i v).2 k j = u.2 k j := by simp [sJ, sJr, vp_updL, h]
theorem sJ_1 {u : Um} {k i : Nat} {v : Int64} : (sJ u k i v).1 = u.1 := rfl
theorem sh_at {k : Nat} (u : Um) (hk : k < 4) : fX7_sheetAt (nI k) u = some (some (91 + 2 * k)) := by
  unfold fX7_sheetAt
  rw [if_neg (nI_pos (by omega)), if_pos ((ltr4 (by omega)).mpr hk), if_pos (inbN hk (by decide)), nI_clamp (by omega)]
theorem sh_no {x : Int32} (u : Um) (h : x < 0 ∨ nI 4 ≤ x) : fX7_sheetAt x u = some none := by
  unfold fX7_sheetAt
  by_cases h0 : x < 0
  · rw [if_pos h0]
  · rw [if_neg h0, if_neg (show ¬ x < 4 from fun h2 => Int32.not_le.mpr h2 (h.resolve_left h0))]
theorem sh_kd : ∀ k, k < 4 → kd (91 + 2 * k) = 5 := by decide +kernel
theorem sh_ln : ∀ k, k < 4 → ln (91 + 2 * k + 1) = 24 := by decide +kernel
theorem in03_n {x : Int32} (u : Um) (h : x < 0 ∨ nI 4 ≤ x) : fX8_in x 0 3 u = some 0 := in_n (hi := 3) (h.imp id (fun h => (last_lt (P := 4) (by decide)).mpr h))
theorem in03_y {k : Nat} (u : Um) (h : k < 4) : fX8_in (nI k) 0 3 u = some 1 := in_y (nI_pos (by omega)) (by rw [ltl3 (by omega)]; omega)
theorem isS_n {x : Int32} (u : Um) (h : x < 0 ∨ nI 4 ≤ x) : fX8_isSheet x u = some 0 := by unfold fX8_isSheet; rw [in03_n u h]; rfl
theorem isS_y {k : Nat} (u : Um) (h : k < 4) : fX8_isSheet (nI k) u = some 1 := by unfold fX8_isSheet; rw [in03_y u h]; rfl
theorem lane_n {x : Int32} (u : Um) (h : x < 0 ∨ nI 4 ≤ x) : fX7_isLane x u = some 0 := by
  unfold fX7_isLane
  by_cases h0 : x < 0
  · rw [if_pos h0]
  · rw [if_neg h0, if_pos (show (4 : Int32) ≤ x from h.resolve_left h0)]
theorem lane_y {k : Nat} (u : Um) (h : k < 4) : fX7_isLane (nI k) u = some 1 := by
  unfold fX7_isLane
  rw [if_neg (nI_pos (by omega)), if_neg (by rw [lel4 (by omega)]; omega)]
theorem Inv_sheet {u u' : Um} {s : Nat} (hI : Inv u) (all : ∀ k, ¬ (91 ≤ k ∧ k ≤ 98) → k ≠ 118 → k ≠ 119 → u'.1 k = u.1 k) (e1 : ∀ k, 91 ≤ k → k ≤ 98 → k ≠ 91 + 2 * s → u'.1 k = u.1 k) (e2 : ∀ j, j ≠ s → u'.1 118 j = u.1 118 j) (e3 : ∀ j, j ≠ s → u'.1 119 j = u.1 119 j) (e4 : ∀ k, 91 ≤ k → k ≤ 98 → k ≠ 91 + 2 * s + 1 → u'.2 k = u.2 k) (e5 : ∀ i, (i < 24 * s ∨ 24 * s + 24 ≤ i) → u'.2 120 i = u.2 120 i) (hn : (u'.1 (91 + 2 * s) 1 = -1 ∧ u'.1 118 s = -1) ∨ (∃ l z : Nat, l < 4 ∧ z ≤ 24 ∧ u'.1 (91 + 2 * s) 1 = nI l ∧ u'.1 118 s = nI l ∧ u'.1 (91 + 2 * s) 2 = nI z ∧ u'.1 119 s = nI z ∧ ∀ i, i < 24 → u'.2 (92 + 2 * s) i = u'.2 120 (24 * s + i))) : Inv u' := by
  obtain ⟨i1, i2, i3, i4, i5⟩ := hI
  refine ⟨IvC_fr i1 (all _ (by omega) (by omega) (by omega)) (all _ (by omega) (by omega) (by omega)) (all _ (by omega) (by omega) (by omega)) (all _ (by omega) (by omega) (by omega)), IvP_fr i2 (fun j hj => all _ (by omega) (by omega) (by omega)) (by rw [all 117 (by omega) (by omega) (by omega)]), IvM_fr i3 (fun j hj => all _ (by omega) (by omega) (by omega)), IvT_fr i4 (all _ (by omega) (by omega) (by omega)) (all _ (by omega) (by omega) (by omega)) (all _ (by omega) (by omega) (by omega)) (by rw [all 117 (by omega) (by omega) (by omega)]), ?_⟩
  intro t ht
  by_cases hts : t = s
  · subst hts; exact hn
  · rcases i5 t ht with ⟨b1, b2⟩ | ⟨l, z, h1, h2, h3, h4, h5, h6, h7⟩
    · exact Or.inl ⟨by rw [e1 _ (by omega) (by omega) (by omega)]; exact b1, (e2 t hts).trans b2⟩
    · exact Or.inr ⟨l, z, h1, h2, by rw [e1 _ (by omega) (by omega) (by omega)]; exact h3, (e2 t hts).trans h4, by rw [e1 _ (by omega) (by omega) (by omega)]; exact h5, (e3 t hts).trans h6, fun i hi => by rw [e4 _ (by omega) (by omega) (by omega), e5 _ (by omega)]; exact h7 i hi⟩
theorem fill_spec {d : Nat} (hd : ln d < 4000) (v : Int64) (u : Um) : ∃ u', fJ7_fill_d0a16 d v u = some u' ∧ u'.1 = u.1 ∧ (∀ r, r ≠ d → u'.2 r = u.2 r) ∧ ∀ i, i < ln d → u'.2 d i = v := by
  unfold fJ7_fill_d0a16
  obtain ⟨e, s', h, -, h1, h2, h3⟩ := lp_inv (body := fun s : Int32 × Um => fJ7_fill_d0a16_b6 d v (nI (ln d)) s.1 s.2) (fun k s => s.1 = nI k ∧ s.2.1 = u.1 ∧ (∀ r, r ≠ d → s.2.2 r = u.2 r) ∧ ∀ i, i < k → s.2.2 d i = v) (fun e s => e = 1 ∧ s.2.1 = u.1 ∧ (∀ r, r ≠ d → s.2.2 r = u.2 r) ∧ ∀ i, i < ln d → s.2.2 d i = v) (ln d) (by omega) (fun k s hk hs => by
    obtain ⟨x, w⟩ := s
    obtain ⟨h1, h2, h3, h4⟩ := hs
    dsimp only at h1 h2 h3 h4
    subst h1
    show (_ ∧ ∃ s', fJ7_fill_d0a16_b6 d v (nI (ln d)) (nI k) w = _ ∧ _) ∨ (∃ e s', _ ∧ fJ7_fill_d0a16_b6 d v (nI (ln d)) (nI k) w = _ ∧ _)
    unfold fJ7_fill_d0a16_b6
    by_cases hkn : k < ln d
    · rw [if_neg (nI_ge hkn (by omega)), if_pos (inbN hkn (by omega)), nI_clamp (by omega)]
      simp only [nm]
      refine Or.inl ⟨hkn, _, rfl, nI_1 k, h2, fun r hr => by rw [sJ_ne hr]; exact h3 r hr, fun i hi => ?_⟩
      by_cases hik : i = k
      · subst hik; exact sJ_eq
      · show (sJ w d k v).2 d i = v
        rw [sJ_ot hik]; exact h4 i (by omega)
    · rw [if_pos (nI_le (by omega) (by omega))]
      exact Or.inr ⟨1, _, by decide, rfl, rfl, h2, h3, fun i hi => h4 i (by omega)⟩) (s := ((0 : Int32), u)) ⟨rfl, rfl, fun _ _ => rfl, fun i hi => absurd hi (Nat.not_lt_zero i)⟩
  refine ⟨s'.2, ?_, h1, h2, h3⟩
  simp only [nm]
  show bd3 (lp (fun s : Int32 × Um => fJ7_fill_d0a16_b6 d v (nI (ln d)) s.1 s.2) fuel ((0 : Int32), u)) _ = _
  rw [h]
  rfl
theorem lay_spec {s : Nat} (hs : s < 4) (x y : Int32) (u : Um) : ∃ u', fX5_lay (91 + 2 * s) x y u = some u' ∧ (∀ k, k ≠ 91 + 2 * s → u'.1 k = u.1 k) ∧ u'.1 (91 + 2 * s) 1 = x ∧ u'.1 (91 + 2 * s) 2 = y ∧ (∀ r, r ≠ 91 + 2 * s + 1 → u'.2 r = u.2 r) ∧ ∀ i, i < 24 → u'.2 (91 + 2 * s + 1) i = 0 := by
  obtain ⟨u1, e1, f1, f2, f3⟩ := fill_spec (d := 91 + 2 * s + 1) (by rw [sh_ln s hs]; decide) 0 u
  rw [sh_ln s hs] at f3
  unfold fX5_lay
  rw [e1, bd1s]
  simp only [nm]
  refine ⟨_, rfl, fun k hk => by rw [sI_ne hk, sI_ne hk, f1], ?_, sI_eq, f2, f3⟩
  rw [sI_ot (by decide), sI_eq]
theorem ln120 : ln 120 = 96 := by decide +kernel
theorem e24 (s k : Nat) : (24 * nI s + nI k : Int32) = nI (24 * s + k) := by rw [show (24 : Int32) = nI 24 from rfl, pk_mul, nI_add]
theorem zero_m {s : Nat} (hs : s < 4) {x y z : Int32} (u : Um) : ∃ u', lp (fun q : Int32 × Um => fX8_sheet_b48 (nI s) x y q.1 q.2) fuel ((0 : Int32), u) = some (1, nI 24, u') ∧ u'.1 = u.1 ∧ (∀ r, r ≠ 120 → u'.2 r = u.2 r) ∧ (∀ i, i < 24 * s ∨ 24 * s + 24 ≤ i → u'.2 120 i = u.2 120 i) ∧ ∀ i, i < 24 → u'.2 120 (24 * s + i) = 0 := by
  obtain ⟨e, s', h, he, h0, h1, h2, h3, h4⟩ := lp_inv (body := fun q : Int32 × Um => fX8_sheet_b48 (nI s) x y q.1 q.2) (fun k q => q.1 = nI k ∧ q.2.1 = u.1 ∧ (∀ r, r ≠ 120 → q.2.2 r = u.2 r) ∧ (∀ i, i < 24 * s ∨ 24 * s + 24 ≤ i → q.2.2 120 i = u.2 120 i) ∧ ∀ i, i < k → q.2.2 120 (24 * s + i) = 0) (fun e q => e = 1 ∧ q.1 = nI 24 ∧ q.2.1 = u.1 ∧ (∀ r, r ≠ 120 → q.2.2 r = u.2 r) ∧ (∀ i, i < 24 * s ∨ 24 * s + 24 ≤ i → q.2.2 120 i = u.2 120 i) ∧ ∀ i, i < 24 → q.2.2 120 (24 * s + i) = 0) 24 (by omega) (fun k q hk hs' => by
    obtain ⟨x', w⟩ := q
    obtain ⟨h1, h2, h3, h4, h5⟩ := hs'
    dsimp only at h1 h2 h3 h4 h5
    subst h1
    show (_ ∧ ∃ s', fX8_sheet_b48 (nI s) x y (nI k) w = _ ∧ _) ∨ (∃ e s', _ ∧ fX8_sheet_b48 (nI s) x y (nI k) w = _ ∧ _)
    unfold fX8_sheet_b48
    by_cases hkn : k < 24
    · rw [if_neg (by rw [lel24 (by omega)]; omega), e24, if_pos (inbN (by omega) (by decide)), nI_clamp (by omega)]
      simp only [nm]
      refine Or.inl ⟨hkn, _, rfl, nI_1 k, h2, fun r hr => by rw [sJ_ne hr]; exact h3 r hr, fun i hi => ?_, fun i hi => ?_⟩
      · show (sJ w 120 (24 * s + k) 0).2 120 i = _
        rw [sJ_ot (by omega)]; exact h4 i hi
      · show (sJ w 120 (24 * s + k) 0).2 120 (24 * s + i) = 0
        by_cases hik : i = k
        · subst hik; exact sJ_eq
        · rw [sJ_ot (by omega)]; exact h5 i (by omega)
    · have : k = 24 := by omega
      subst this
      rw [if_pos (by decide)]
      exact Or.inr ⟨1, _, by decide, rfl, rfl, rfl, h2, h3, h4, h5⟩) (s := ((0 : Int32), u)) ⟨rfl, rfl, fun _ _ => rfl, fun _ _ => rfl, fun i hi => absurd hi (Nat.not_lt_zero i)⟩
  subst he
  obtain ⟨a1, a2⟩ := s'
  dsimp only at h0 h1 h2 h3 h4
  subst h0
  exact ⟨a2, h, h1, h2, h3, h4⟩
theorem s_sheet (a b c : Int32) : S22 (fX7_sheet a b c) (fX8_sheet a b c) := by
  intro u hI
  unfold fX7_sheet fX8_sheet
  rcases ix_of a (n := 4) (by decide) with ha | ⟨s, hs, rfl⟩
  · refine ⟨-1, u, u, ?_, ?_, hI⟩
    · rw [sh_no u ha]; rfl
    · rw [isS_n u ha]; rfl
  rw [sh_at u hs, bd1s, spl_e (sh_kd s hs)]
  rcases ix_of b (n := 4) (by decide) with hb | ⟨l, hl, rfl⟩
  · refine ⟨-1, u, u, ?_, ?_, hI⟩
    · rw [lane_n u hb]; rfl
    · rw [isS_y u hs, bd1s, if_neg i10, in03_n u hb]; rfl
  rw [lane_y u hl, bd1s, if_neg i10]
  by_cases h24 : c ≤ 24
  · by_cases h0 : 0 ≤ c
    · obtain ⟨z, hz, rfl⟩ : ∃ z : Nat, z ≤ 24 ∧ c = nI z := nI_of2 (M := 24) (by decide) (Int32.not_lt.mpr h0) h24
      rw [if_pos h24, if_pos h0]
      obtain ⟨u1, e1, f1, f2, f3, f4, f5⟩ := lay_spec hs (nI l) (nI z) u
      obtain ⟨u3, e3, g1, g2, g3, g4⟩ := zero_m hs (x := nI l) (y := nI z) (z := 0) (sI (sI u1 118 s (nI l)) 119 s (nI z))
      refine ⟨nI z, u1, u3, ?_, ?_, ?_⟩
      · rw [e1, bd1s]
      · rw [isS_y u1 hs, bd1s, if_neg i10, in03_y u1 hl, bd1s, if_neg i10, if_pos h24, if_pos h0, if_pos (inbN hs (by decide)), nI_clamp (by omega)]
        simp only [nm]
        rw [if_pos (inbN hs (by decide)), e3]
        rfl
      · refine Inv_sheet (s := s) hI (fun k b1 b2 b3 => ?_) (fun k b1 b2 b3 => ?_) (fun j hj => ?_) (fun j hj => ?_) (fun k b1 b2 b3 => ?_) (fun i hi => ?_) (Or.inr ⟨l, z, hl, hz, ?_, ?_, ?_, ?_, fun i hi => ?_⟩)
        · rw [g1, sI_ne b3, sI_ne b2, f1 k (by omega)]
        · rw [g1, sI_ne (by omega), sI_ne (by omega), f1 k b3]
        · rw [g1, sI_ne (by decide), sI_ot hj, f1 118 (by omega)]
        · rw [g1, sI_ot hj, sI_ne (by decide), f1 119 (by omega)]
        · rw [g2 k (by omega), sI_2, sI_2, f4 k b3]
        · rw [g3 i hi, sI_2, sI_2, f4 120 (by omega)]
        · rw [g1, sI_ne (by omega), sI_ne (by omega), f2]
        · rw [g1, sI_ne (by decide), sI_eq]
        · rw [g1, sI_ne (by omega), sI_ne (by omega), f3]
        · rw [g1, sI_eq]
        · rw [g4 i hi, g2 _ (by omega), sI_2, sI_2, show 92 + 2 * s = 91 + 2 * s + 1 by omega, f5 i hi]
    · refine ⟨-14, u, u, ?_, ?_, hI⟩
      · rw [if_pos h24, if_neg h0]
      · rw [isS_y u hs, bd1s, if_neg i10, in03_y u hl, bd1s, if_neg i10, if_pos h24, if_neg h0]
  · refine ⟨-1, u, u, ?_, ?_, hI⟩
    · rw [if_neg h24]
    · rw [isS_y u hs, bd1s, if_neg i10, in03_y u hl, bd1s, if_neg i10, if_neg h24]
theorem neg1_nI {l : Nat} (h : l < 2 ^ 31) : ¬ nI l = (-1 : Int32) := by
  intro e
  have h1 := congrArg Int32.toInt e
  rw [nI_toInt h] at h1
  have : (-1 : Int32).toInt = -1 := by decide
  omega
theorem no_y {u : Um} {a : Nat} (h : u.1 a 1 = -1) : fX5_isNothing a u = some 1 := by unfold fX5_isNothing; rw [h, if_pos rfl]
theorem no_n {u : Um} {a l : Nat} (hl : l < 4) (h : u.1 a 1 = nI l) : fX5_isNothing a u = some 0 := by unfold fX5_isNothing; rw [h, if_neg (neg1_nI (by omega))]
theorem s_drop (a : Int32) : S22 (fX7_drop a) (fX8_drop a) := by
  intro u hI
  unfold fX7_drop fX8_drop
  rcases ix_of a (n := 4) (by decide) with ha | ⟨s, hs, rfl⟩
  · refine ⟨-1, u, u, ?_, ?_, hI⟩
    · rw [sh_no u ha]; rfl
    · rw [isS_n u ha]; rfl
  rw [sh_at u hs, bd1s, spl_e (sh_kd s hs)]
  rcases hI.2.2.2.2 s hs with ⟨b1, b2⟩ | ⟨l, z, h1, h2, h3, h4, h5, h6, h7⟩
  · refine ⟨-11, u, u, ?_, ?_, hI⟩
    · rw [no_y b1]; rfl
    · rw [isS_y u hs, bd1s, if_neg i10, if_pos (inbN hs (by decide)), nI_clamp (by omega), b2, if_neg (by decide)]
  · obtain ⟨u1, e1, f1, f2, f3, f4, f5⟩ := lay_spec hs (-1) 0 u
    refine ⟨nI z, u1, sI u1 118 s (-1), ?_, ?_, ?_⟩
    · rw [no_n h1 h3, bd1s, if_pos rfl]
      unfold fX5_clear
      simp only [nm]
      rw [e1, bd1s, bd2s, h5]
    · rw [isS_y u1 hs, bd1s, if_neg i10, if_pos (inbN hs (by decide)), nI_clamp (by omega), f1 118 (by omega), h4, if_pos (nI_pos' (by omega)), if_pos (inbN hs (by decide))]
      simp only [nm]
      rw [if_pos (inbN hs (by decide)), sI_ne (by decide), f1 119 (by omega), h6]
    · refine Inv_sheet (s := s) hI (fun k b1 b2 b3 => ?_) (fun k b1 b2 b3 => ?_) (fun j hj => ?_) (fun j hj => ?_) (fun k b1 b2 b3 => ?_) (fun i hi => ?_) (Or.inl ⟨?_, sI_eq⟩)
      · rw [sI_ne b2, f1 k (by omega)]
      · rw [sI_ne (by omega), f1 k b3]
      · rw [sI_ot hj, f1 118 (by omega)]
      · rw [sI_ne (by decide), f1 119 (by omega)]
      · rw [sI_2, f4 k b3]
      · rw [sI_2, f4 120 (by omega)]
      · rw [sI_ne (by omega), f2]
/-! whether a row holds items -/
def hol (i n z : Int32) : Prop := ¬ i < 0 ∧ ¬ n < 0 ∧ ¬ z < n ∧ ¬ z - n < i
theorem hol_c {u : Um} {a : Nat} {i n z : Int32} (h : u.1 a 2 = z) : (hol i n z ∧ fX5_holds a i n u = some 1) ∨ (¬ hol i n z ∧ fX5_holds a i n u = some 0) := by
  unfold fX5_holds hol
  rw [h]
  by_cases h1 : i < 0
  · rw [if_pos h1]; exact Or.inr ⟨fun h => h.1 h1, rfl⟩
  rw [if_neg h1]
  by_cases h2 : n < 0
  · rw [if_pos h2]; exact Or.inr ⟨fun h => h.2.1 h2, rfl⟩
  rw [if_neg h2]
  by_cases h3 : z < n
  · rw [if_pos h3]; exact Or.inr ⟨fun h => h.2.2.1 h3, rfl⟩
  rw [if_neg h3]
  by_cases h4 : z - n < i
  · rw [if_pos h4]; exact Or.inr ⟨fun h => h.2.2.2 h4, rfl⟩
  rw [if_neg h4]
  exact Or.inl ⟨⟨h1, h2, h3, h4⟩, rfl⟩
theorem hol_m (u : Um) (i n z : Int32) : (hol i n z → fX8_isPart i n z u = some 1) ∧ (¬ hol i n z → fX8_isPart i n z u = some 0) := by
  unfold fX8_isPart hol
  refine ⟨fun h => ?_, fun h => ?_⟩
  · rw [if_neg h.2.1, if_neg h.1, if_neg h.2.2.1, if_neg h.2.2.2]
  · by_cases h2 : n < 0
    · rw [if_pos h2]
    rw [if_neg h2]
    by_cases h1 : i < 0
    · rw [if_pos h1]
    rw [if_neg h1]
    by_cases h3 : z < n
    · rw [if_pos h3]
    rw [if_neg h3]
    by_cases h4 : z - n < i
    · rw [if_pos h4]
    exact absurd ⟨h1, h2, h3, h4⟩ h
theorem hol_nat {i n : Int32} {z : Nat} (hz : z ≤ 24) (h : hol i n (nI z)) : ∃ a b : Nat, a + b ≤ z ∧ i = nI a ∧ n = nI b := by
  obtain ⟨h1, h2, h3, h4⟩ := h
  obtain ⟨b, hb, rfl⟩ : ∃ b : Nat, b ≤ z ∧ n = nI b := nI_of2 (M := nI z) (nI_toInt (by omega)) h2 (Int32.not_lt.mp h3)
  rw [pk_sub hb] at h4
  obtain ⟨a, ha, rfl⟩ : ∃ a : Nat, a ≤ z - b ∧ i = nI a := nI_of2 (M := nI (z - b)) (nI_toInt (by omega)) h1 (Int32.not_lt.mp h4)
  exact ⟨a, b, by omega, rfl, rfl⟩
/-- what stands at a sheet, as both sides see it -/
theorem row_or {u : Um} (h : IvS u) {s : Nat} (hs : s < 4) (x : Int32) :
    (fX7_refuseRow (some (91 + 2 * s)) x u = some (-1) ∧ fX8_in x 0 3 u = some 0) ∨
    (∃ r : Int32, ¬ r = 0 ∧ fX7_refuseRow (some (91 + 2 * s)) x u = some r ∧ fX8_in x 0 3 u = some 1 ∧ ∀ i n, fX8_badRow (nI s) x i n u = some r) ∨
    (∃ l z : Nat, l < 4 ∧ z ≤ 24 ∧ x = nI l ∧ fX7_refuseRow (some (91 + 2 * s)) x u = some 0 ∧ fX8_in x 0 3 u = some 1 ∧ u.1 (91 + 2 * s) 1 = nI l ∧ u.1 118 s = nI l ∧ u.1 (91 + 2 * s) 2 = nI z ∧ u.1 119 s = nI z ∧ (∀ i, i < 24 → u.2 (92 + 2 * s) i = u.2 120 (24 * s + i)) ∧ ∀ i n, (hol i n (nI z) → fX8_badRow (nI s) x i n u = some 0) ∧ (¬ hol i n (nI z) → fX8_badRow (nI s) x i n u = some (-13))) := by
  unfold fX7_refuseRow
  rw [spl_e (sh_kd s hs)]
  rcases ix_of x (n := 4) (by decide) with hb | ⟨l, hl, rfl⟩
  · exact Or.inl ⟨by rw [lane_n u hb]; rfl, in03_n u hb⟩
  · refine Or.inr ?_
    rw [lane_y u hl, bd1s, if_neg i10, in03_y u hl]
    have hin : inb (nI s) 4 = true := inbN hs (by decide)
    rcases h s hs with ⟨b1, b2⟩ | ⟨l', z, h1, h2, h3, h4, h5, h6, h7⟩
    · refine Or.inl ⟨-11, by decide, by rw [no_y b1]; rfl, rfl, fun i n => ?_⟩
      unfold fX8_badRow
      rw [if_pos hin, nI_clamp (by omega), b2, if_neg (by decide)]
    · by_cases he : nI l' = nI l
      · have hll : l' = l := (nI_eq (by omega) (by omega)).mp he
        subst hll
        refine Or.inr ⟨l', z, hl, h2, rfl, ?_, rfl, h3, h4, h5, h6, h7, fun i n => ⟨fun hh => ?_, fun hh => ?_⟩⟩
        · rw [no_n h1 h3, bd1s, if_pos rfl]
          unfold fX5_lane
          rw [h3, bd1s, if_pos rfl]
        · unfold fX8_badRow
          rw [if_pos hin, nI_clamp (by omega), h4, if_pos (nI_pos' (by omega)), if_pos hin, if_pos rfl, if_pos hin, h6, (hol_m u i n (nI z)).1 hh]
          rfl
        · unfold fX8_badRow
          rw [if_pos hin, nI_clamp (by omega), h4, if_pos (nI_pos' (by omega)), if_pos hin, if_pos rfl, if_pos hin, h6, (hol_m u i n (nI z)).2 hh]
          rfl
      · refine Or.inl ⟨-12, by decide, ?_, rfl, fun i n => ?_⟩
        · rw [no_n h1 h3, bd1s, if_pos rfl]
          unfold fX5_lane
          rw [h3, bd1s, if_neg he]
        · unfold fX8_badRow
          rw [if_pos hin, nI_clamp (by omega), h4, if_pos (nI_pos' (by omega)), if_pos hin, if_neg he]
def cutL (l : Nat) (v : Int64) : Int64 := if nI l = 0 then ((v.toInt32).toInt8.toInt32).toInt64 else if nI l = 1 then ((v.toInt32).toInt16.toInt32).toInt64 else if nI l = 2 then (v.toInt32).toInt64 else v
theorem put_c {u : Um} {a l i : Nat} (v : Int64) (h : u.1 a 1 = nI l) (hi : i < 24) : fX5_put a (nI i) v u = some (sJ u (a + 1) i (cutL l v)) := by
  have hl : fX5_lowestBits a v u = some (cutL l v) := by
    unfold fX5_lowestBits cutL
    rw [h]
    split <;> try rfl
    split <;> try rfl
    split <;> rfl
  unfold fX5_put
  rw [if_neg (nI_pos (by omega)), if_neg (by rw [lel24 (by omega)]; omega), hl, bd1s, if_pos (inbN hi (by decide)), nI_clamp (by omega)]
  rfl
theorem get_c {u : Um} {a i : Nat} (hi : i < 24) : fX5_get a (nI i) u = some (u.2 (a + 1) i) := by
  unfold fX5_get
  rw [if_neg (nI_pos (by omega)), if_pos ((ltr24 (by omega)).mpr hi), if_pos (inbN hi (by decide)), nI_clamp (by omega)]
theorem bad_fr {u u' : Um} {x l i n : Int32} (h : u'.1 = u.1) : fX8_badRow x l i n u' = fX8_badRow x l i n u := by
  unfold fX8_badRow
  rw [h]
  rfl
theorem s_item (a b c : Int32) (v : Int64) : S2L (fX7_item a b c v) (fX8_item a b c v) := by
  intro u hI
  unfold fX7_item fX8_item
  rcases ix_of a (n := 4) (by decide) with ha | ⟨s, hs, rfl⟩
  · refine ⟨-1, u, u, ?_, ?_, hI⟩
    · rw [sh_no u ha]; rfl
    · rw [isS_n u ha]; rfl
  rw [sh_at u hs, bd1s, spl_e (sh_kd s hs)]
  rcases row_or hI.2.2.2.2 hs b with ⟨h1, h2⟩ | ⟨r, h0, h1, h2, h3⟩ | ⟨l, z, hl, hz, rfl, h1, h2, h3, h4, h5, h6, h7, h8⟩
  · refine ⟨-1, u, u, ?_, ?_, hI⟩
    · rw [h1]; rfl
    · rw [isS_y u hs, bd1s, if_neg i10, h2]; rfl
  · refine ⟨r.toInt64, u, u, ?_, ?_, hI⟩
    · rw [h1, bd1s, if_neg h0]
    · rw [isS_y u hs, bd1s, if_neg i10, h2, bd1s, if_neg i10, h3, bd1s, if_neg h0]
  · rw [h1, bd1s, if_pos rfl]
    rcases hol_c (i := c) (n := 1) h5 with ⟨hh, g⟩ | ⟨hh, g⟩
    · obtain ⟨i, n, hin, rfl, en⟩ := hol_nat hz hh
      have n1 : n = 1 := by
        by_cases hb : n ≤ 24
        · exact (eqr1 (by omega)).mp en.symm
        · omega
      subst n1
      have hi : i < 24 := by omega
      refine ⟨cutL l v, sJ u (91 + 2 * s + 1) i (cutL l v), sJ (sJ u (91 + 2 * s + 1) i (cutL l v)) 120 (24 * s + i) (cutL l v), ?_, ?_, ?_⟩
      · rw [g, bd1s, if_neg i10, put_c v h3 hi, bd1s, get_c hi, bd1s, sJ_eq]
      · have j88 : ∀ q : Int64, fX8_item_j88 (nI s) (nI l) (nI i) v q (24 * nI s + nI i) (sJ u (91 + 2 * s + 1) i (cutL l v)) = some (q, sJ (sJ u (91 + 2 * s + 1) i (cutL l v)) 120 (24 * s + i) q) := by
          intro q
          unfold fX8_item_j88
          rw [e24, if_pos (inbN (by omega) (by decide)), nI_clamp (by omega)]
          simp only [nm]
          rw [if_pos (inbN (by omega) (by decide)), sJ_eq]
        rw [isS_y _ hs, bd1s, if_neg i10, show fX8_in (nI l) 0 3 (sJ u (91 + 2 * s + 1) i (cutL l v)) = some 1 from in03_y _ hl, bd1s, if_neg i10, bad_fr (u := u) (u' := sJ u (91 + 2 * s + 1) i (cutL l v)) rfl, (h8 _ _).1 hh, bd1s, if_pos rfl]
        simp only [j88]
        generalize sJ u (91 + 2 * s + 1) i (cutL l v) = uu
        unfold cutL
        split <;> try rfl
        split <;> try rfl
        split <;> rfl
      · refine Inv_sheet (s := s) hI (fun k b1 b2 b3 => rfl) (fun k b1 b2 b3 => rfl) (fun j hj => rfl) (fun j hj => rfl) (fun k b1 b2 b3 => ?_) (fun i' hi' => ?_) (Or.inr ⟨l, z, hl, hz, h3, h4, h5, h6, fun i' hi' => ?_⟩)
        · rw [sJ_ne (by omega), sJ_ne b3]
        · rw [sJ_ot (by omega), sJ_ne (by omega)]
        · rw [show 92 + 2 * s = 91 + 2 * s + 1 by omega, sJ_ne (by omega)]
          by_cases hii : i' = i
          · subst hii; rw [sJ_eq, sJ_eq]
          · rw [sJ_ot hii, sJ_ot (by omega), sJ_ne (by omega), ← h7 i' hi', show 92 + 2 * s = 91 + 2 * s + 1 by omega]
    · refine ⟨-13, u, u, ?_, ?_, hI⟩
      · rw [g, bd1s, if_pos rfl]
      · rw [isS_y u hs, bd1s, if_neg i10, h2, bd1s, if_neg i10, (h8 _ _).2 hh]
        rfl
