/-! ===== plan: the reference's side ===== -/
def okd (P W d : Nat) : Prop := d = 99 ∨ (d < 99 ∧ d / 10 < W ∧ d % 10 < P)
theorem does_m {u : Um} {P W dd d : Nat} {c : Nat → Int32} (h1 : u.1 122 1 = nI P) (hV : VR c P W dd) (e : eq83 (u.1 124) c) (hd : okd P W d) : ∃ u', fX8_does (nI d) u = some ((gaN P W c d).elim (-1) nI, u') ∧ (∀ k, k ≠ 124 → u'.1 k = u.1 k) ∧ u'.2 = u.2 ∧ ∀ t, gaN P W c d = some t → eq83 (u'.1 124) (nR c d) := by
  have hP := hV.2.2.2.1
  have hW := hV.2.2.2.2.1
  unfold fX8_does
  rcases hd with rfl | ⟨hd, hw, hp⟩
  · rw [if_pos (show nI 99 = (99 : Int32) from rfl), if_pos b083, if_pos b083, gaN_99]
    refine ⟨sI u 124 0 (u.1 124 0 + 1), rfl, fun k hk => sI_ne hk, rfl, fun t _ => ?_⟩
    rw [nR_99, sI_row]
    exact upd83 e _ (by rw [e 0 (by decide)])
  · have h9 : d ≠ 99 := by omega
    have hV' : VR (u.1 124) P W dd := VR_congr hV e
    obtain ⟨-, -, -, k4, k5⟩ := spec83 hV hw hp e
    rw [if_neg (ne99 (by omega) h9), (dv10 (d := d) (by omega)).1, (dv10 (d := d) (by omega)).2]
    simp only [nm]
    rw [if_pos b183, cl1, h1, if_neg (nI_ge hp (by omega))]
    by_cases hm : sMay c (d / 10) (d % 10)
    · rw [(may_m ln124 hV' hw hp).1 (k5.mpr hm), bd1s, if_neg i10, car_m ln124 hV' hw hp, bd2s, gaN_y h9 hw hp hm, k4]
      refine ⟨sIr u 124 (sCar (u.1 124) (d / 10) (d % 10)), ?_, fun k hk => sIr_ne hk, rfl, fun t _ => ?_⟩
      · rcases com_3 c (d / 10) (d % 10) with h | h | h <;> rw [h] <;> rfl
      · rw [nR_n h9, sIr_at]
        exact car83 hV hw hp e
    · rw [(may_m ln124 hV' hw hp).2 (fun h => hm (k5.mp h)), bd1s, if_pos rfl, gaN_n h9 (fun h => hm h.2.2)]
      exact ⟨u, rfl, fun _ _ => rfl, rfl, fun t h => absurd h (by simp)⟩
theorem pos0 {t : Nat} (h : t < 100) : (0 : Int32) ≤ nI t := nI_pos' (by omega)
theorem neg1 : ¬ (0 : Int32) ≤ -1 := by decide
theorem pl_z (p1 p2 p3 : Int32) (u : Um) : ∃ u', fX8_planned 0 p1 p2 p3 u = some (nI 0, u') ∧ (∀ k, k ≠ 124 → u'.1 k = u.1 k) ∧ u'.2 = u.2 := by
  obtain ⟨u2, e2, f1, f2, f3⟩ := begin_m u
  refine ⟨u2, ?_, f1, f2⟩
  unfold fX8_planned fX8_planned_j17 fX8_planned_j42 fX8_planned_j68
  rw [e2, bd1s, if_pos (show (0 : Int32) ≤ 0 by decide), if_pos (show (0 : Int32) ≤ 0 by decide), if_pos (show (0 : Int32) ≤ 1 by decide), if_pos (show (0 : Int32) ≤ 0 by decide), if_pos (show (0 : Int32) ≤ 2 by decide), if_pos (show (0 : Int32) ≤ 0 by decide)]
  rfl
theorem pl_1 {u : Um} {P W dd a : Nat} {p2 p3 : Int32} (hV : VR (u.1 122) P W dd) (ha : okd P W a) : ∃ u', fX8_planned 1 (nI a) p2 p3 u = some ((gaN P W (u.1 122) a).elim (-1) nI, u') ∧ (∀ k, k ≠ 124 → u'.1 k = u.1 k) ∧ u'.2 = u.2 := by
  obtain ⟨u2, e2, f1, f2, f3⟩ := begin_m u
  obtain ⟨u3, e3, g1, g2, g3⟩ := does_m (u := u2) (c := u.1 122) (d := a) (by rw [f1 122 (by decide)]; exact hV.1) hV f3 ha
  refine ⟨u3, ?_, fun k hk => (g1 k hk).trans (f1 k hk), g2.trans f2⟩
  unfold fX8_planned fX8_planned_j17 fX8_planned_j42 fX8_planned_j68
  rw [e2, bd1s, if_neg (show ¬ (1 : Int32) ≤ 0 by decide), e3, bd2s]
  cases hg : gaN P W (u.1 122) a with
  | none =>
    show (if (0 : Int32) ≤ -1 then _ else _) = some ((-1 : Int32), u3)
    rw [if_neg neg1, if_neg neg1, if_neg neg1]
  | some t =>
    have ht := (gaN_or hg).1
    show (if (0 : Int32) ≤ nI t then (if (1 : Int32) ≤ 1 then (if (0 : Int32) ≤ 0 then (if (1 : Int32) ≤ 2 then (if (0 : Int32) ≤ 0 then some ((nI t + 0) + 0, u3) else _) else _) else _) else _) else _) = some (nI t, u3)
    rw [if_pos (pos0 (by omega)), if_pos (show (1 : Int32) ≤ 1 by decide), if_pos (show (0 : Int32) ≤ 0 by decide), if_pos (show (1 : Int32) ≤ 2 by decide), if_pos (show (0 : Int32) ≤ 0 by decide), Int32.add_zero, Int32.add_zero]
theorem pl_2 {u : Um} {P W dd a b ta : Nat} {p3 : Int32} (hV : VR (u.1 122) P W dd) (hdd : dd ≤ 9999) (ha : okd P W a) (hb : okd P W b) (hta : gaN P W (u.1 122) a = some ta) : ∃ u', fX8_planned 2 (nI a) (nI b) p3 u = some ((gaN P W (nR (u.1 122) a) b).elim (-1) (fun t => nI (ta + t)), u') ∧ (∀ k, k ≠ 124 → u'.1 k = u.1 k) ∧ u'.2 = u.2 := by
  have h1a := (gaN_or hta).1
  obtain ⟨u2, e2, f1, f2, f3⟩ := begin_m u
  obtain ⟨u3, e3, g1, g2, g3⟩ := does_m (u := u2) (c := u.1 122) (d := a) (by rw [f1 122 (by decide)]; exact hV.1) hV f3 ha
  obtain ⟨u4, e4, k1, k2, k3⟩ := does_m (u := u3) (c := nR (u.1 122) a) (d := b) (by rw [g1 122 (by decide), f1 122 (by decide)]; exact hV.1) (nR_VR hV hta (by omega)) (g3 ta hta) hb
  refine ⟨u4, ?_, fun k hk => (k1 k hk).trans ((g1 k hk).trans (f1 k hk)), k2.trans (g2.trans f2)⟩
  unfold fX8_planned fX8_planned_j17 fX8_planned_j42 fX8_planned_j68
  rw [e2, bd1s, if_neg (show ¬ (2 : Int32) ≤ 0 by decide), e3, bd2s, hta]
  show (if (0 : Int32) ≤ nI ta then (if (2 : Int32) ≤ 1 then _ else _) else _) = _
  rw [if_pos (pos0 (by omega)), if_neg (show ¬ (2 : Int32) ≤ 1 by decide), e4, bd2s]
  cases hg : gaN P W (nR (u.1 122) a) b with
  | none =>
    show (if (0 : Int32) ≤ -1 then _ else _) = some ((-1 : Int32), u4)
    rw [if_neg neg1, if_neg neg1]
  | some t =>
    have ht := (gaN_or hg).1
    show (if (0 : Int32) ≤ nI t then (if (2 : Int32) ≤ 2 then (if (0 : Int32) ≤ 0 then some ((nI ta + nI t) + 0, u4) else _) else _) else _) = some (nI (ta + t), u4)
    rw [if_pos (pos0 (by omega)), if_pos (show (2 : Int32) ≤ 2 by decide), if_pos (show (0 : Int32) ≤ 0 by decide), Int32.add_zero, nI_add]
theorem pl_3 {u : Um} {P W dd a b d ta tb : Nat} (hV : VR (u.1 122) P W dd) (hdd : dd ≤ 9999) (ha : okd P W a) (hb : okd P W b) (hd : okd P W d) (hta : gaN P W (u.1 122) a = some ta) (htb : gaN P W (nR (u.1 122) a) b = some tb) : ∃ u', fX8_planned 3 (nI a) (nI b) (nI d) u = some ((gaN P W (nR (nR (u.1 122) a) b) d).elim (-1) (fun t => nI (ta + tb + t)), u') ∧ (∀ k, k ≠ 124 → u'.1 k = u.1 k) ∧ u'.2 = u.2 := by
  have h1a := (gaN_or hta).1
  have h1b := (gaN_or htb).1
  have hVa := nR_VR hV hta (by omega)
  obtain ⟨u2, e2, f1, f2, f3⟩ := begin_m u
  obtain ⟨u3, e3, g1, g2, g3⟩ := does_m (u := u2) (c := u.1 122) (d := a) (by rw [f1 122 (by decide)]; exact hV.1) hV f3 ha
  obtain ⟨u4, e4, k1, k2, k3⟩ := does_m (u := u3) (c := nR (u.1 122) a) (d := b) (by rw [g1 122 (by decide), f1 122 (by decide)]; exact hV.1) hVa (g3 ta hta) hb
  obtain ⟨u5, e5, m1, m2, m3⟩ := does_m (u := u4) (c := nR (nR (u.1 122) a) b) (d := d) (by rw [k1 122 (by decide), g1 122 (by decide), f1 122 (by decide)]; exact hV.1) (nR_VR hVa htb (by omega)) (k3 tb htb) hd
  refine ⟨u5, ?_, fun k hk => (m1 k hk).trans ((k1 k hk).trans ((g1 k hk).trans (f1 k hk))), m2.trans (k2.trans (g2.trans f2))⟩
  unfold fX8_planned fX8_planned_j17 fX8_planned_j42 fX8_planned_j68
  rw [e2, bd1s, if_neg (show ¬ (3 : Int32) ≤ 0 by decide), e3, bd2s, hta]
  show (if (0 : Int32) ≤ nI ta then (if (3 : Int32) ≤ 1 then _ else _) else _) = _
  rw [if_pos (pos0 (by omega)), if_neg (show ¬ (3 : Int32) ≤ 1 by decide), e4, bd2s, htb]
  show (if (0 : Int32) ≤ nI tb then (if (3 : Int32) ≤ 2 then _ else _) else _) = _
  rw [if_pos (pos0 (by omega)), if_neg (show ¬ (3 : Int32) ≤ 2 by decide), e5, bd2s]
  cases hg : gaN P W (nR (nR (u.1 122) a) b) d with
  | none =>
    show (if (0 : Int32) ≤ -1 then _ else _) = some ((-1 : Int32), u5)
    rw [if_neg neg1]
  | some t =>
    have ht := (gaN_or hg).1
    show (if (0 : Int32) ≤ nI t then some ((nI ta + nI tb) + nI t, u5) else _) = some (nI (ta + tb + t), u5)
    rw [if_pos (pos0 (by omega)), nI_add, nI_add]
abbrev St4 : Type := Nat × Nat × Nat × Nat
def STm (u : Um) (s : St4) : Prop := s.1 ≤ 4 ∧ u.1 117 17 = nI s.1 + (-1) ∧ (0 < s.1 → u.1 131 0 = nI s.2.1 ∧ u.1 131 1 = nI s.2.2.1 ∧ u.1 131 2 = nI s.2.2.2)
def FRm (u u' : Um) : Prop := (∀ k, k ≠ 117 → k ≠ 124 → k ≠ 131 → u'.1 k = u.1 k) ∧ u'.2 = u.2 ∧ ∀ i, i ≠ 17 → u'.1 117 i = u.1 117 i
theorem FRm_r (u : Um) : FRm u u := ⟨fun _ _ _ _ => rfl, rfl, fun _ _ => rfl⟩
theorem FRm_t {u v w : Um} (h : FRm u v) (g : FRm v w) : FRm u w := ⟨fun k a b c => (g.1 k a b c).trans (h.1 k a b c), g.2.1.trans h.2.1, fun i hi => (g.2.2 i hi).trans (h.2.2 i hi)⟩
theorem FRm_124 {u u' : Um} (h : ∀ k, k ≠ 124 → u'.1 k = u.1 k) (h2 : u'.2 = u.2) : FRm u u' := ⟨fun k _ b _ => h k b, h2, fun i _ => by rw [h 117 (by decide)]⟩
theorem STm_124 {u u' : Um} {s : St4} (hS : STm u s) (h : ∀ k, k ≠ 124 → u'.1 k = u.1 k) : STm u' s := by
  unfold STm
  rw [h 117 (by decide), h 131 (by decide)]
  exact hS
theorem m1_m1 : ∀ m, m ≤ 4 → (-1 : Int32) ≤ nI m + (-1) := by decide
theorem take_m {u : Um} {s : St4} {o a b d : Nat} {g : Option Nat} (hS : STm u s) (hb : ∀ t, g = some t → o + t ≤ 3) : ∃ u', fX8_take (g.elim (-1) (fun t => nI (o + t))) (nI a) (nI b) (nI d) u = some u' ∧ FRm u u' ∧ STm u' (g.elim s (fun t => if s.1 < o + t + 1 then (o + t + 1, a, b, d) else s)) := by
  obtain ⟨s1, s2, s3⟩ := hS
  unfold fX8_take
  cases g with
  | none =>
    refine ⟨u, ?_, FRm_r u, s1, s2, s3⟩
    show (if (-1 : Int32) ≤ u.1 117 17 then _ else _) = _
    rw [s2, if_pos (m1_m1 s.1 s1)]
  | some t =>
    have ht := hb t rfl
    show ∃ u', (if nI (o + t) ≤ u.1 117 17 then _ else _) = _ ∧ _ ∧ STm u' (if s.1 < o + t + 1 then (o + t + 1, a, b, d) else s)
    rw [s2]
    by_cases h : o + t < s.1
    · rw [if_pos ((m1_le (by omega) (by omega)).mpr h), if_neg (show ¬ s.1 < o + t + 1 by omega)]
      exact ⟨u, rfl, FRm_r u, s1, s2, s3⟩
    · rw [if_neg (fun h' => h ((m1_le (by omega) (by omega)).mp h')), if_pos (show s.1 < o + t + 1 by omega)]
      simp only [nm]
      rw [if_pos (show inb 0 3 = true by decide), if_pos (show inb 1 3 = true by decide), if_pos (show inb 2 3 = true by decide), cl0, cl1, cl2]
      refine ⟨_, rfl, ⟨fun k h1 h2 h3 => ?_, rfl, fun i hi => ?_⟩, ?_, ?_, fun _ => ⟨?_, ?_, ?_⟩⟩
      · rw [sI_ne h3, sI_ne h3, sI_ne h3, sI_ne h1]
      · rw [sI_ne (by decide), sI_ne (by decide), sI_ne (by decide), sI_ot hi]
      · show o + t + 1 ≤ 4
        omega
      · rw [sI_ne (by decide), sI_ne (by decide), sI_ne (by decide), sI_eq, pk_m1]
        rfl
      · rw [sI_ot (by decide), sI_ot (by decide), sI_eq]
      · rw [sI_ot (by decide), sI_eq]
      · rw [sI_eq]
def nxC (P W cd : Nat) : Nat := if (if P - 1 ≤ cd % 10 then 10 * (cd / 10 + 1) else cd + 1) < 10 * W then (if P - 1 ≤ cd % 10 then 10 * (cd / 10 + 1) else cd + 1) else 99
theorem nxC_spec {P W cd : Nat} (hP : P ≤ 6) (hW : W ≤ 8) (hw : cd / 10 < W) (hp : cd % 10 < P) : cd < nxC P W cd ∧ okd P W (nxC P W cd) ∧ ∀ d, cd < d → d < nxC P W cd → ¬ (d / 10 < W ∧ d % 10 < P) := by
  unfold nxC okd
  by_cases h1 : P - 1 ≤ cd % 10
  · rw [if_pos h1]
    by_cases h2 : 10 * (cd / 10 + 1) < 10 * W
    · rw [if_pos h2]
      exact ⟨by omega, by omega, fun d _ _ => by omega⟩
    · rw [if_neg h2]
      exact ⟨by omega, by omega, fun d _ _ => by omega⟩
  · rw [if_neg h1, if_pos (show cd + 1 < 10 * W by omega)]
    exact ⟨by omega, by omega, fun d _ _ => by omega⟩
theorem next_m {u : Um} {P W cd : Nat} (h1 : u.1 122 1 = nI P) (h2 : u.1 122 2 = nI W) (hP : P ≤ 6) (hW : W ≤ 8) (hw : cd / 10 < W) (hp : cd % 10 < P) : fX8_nextCode (nI cd) u = some (nI (nxC P W cd)) := by
  have j30 : ∀ z, z < 1000 → fX8_nextCode_j30 (nI cd) (nI z) u = some (nI (if z < 10 * W then z else 99)) := by
    intro z hz
    unfold fX8_nextCode_j30
    rw [if_pos b283, cl2, h2, show (10 * nI W : Int32) = nI (10 * W) from pk_mul 10 W]
    by_cases h : z < 10 * W
    · rw [if_pos (nI_lt h (by omega)), if_pos h]
    · rw [if_neg (nI_nlt (by omega) (by omega)), if_neg h]
      rfl
  unfold fX8_nextCode nxC
  rw [if_pos b183, cl1, h1, (dv10 (d := cd) (by omega)).1, (dv10 (d := cd) (by omega)).2, show (nI P - 1 : Int32) = nI (P - 1) from pk_sub (b := 1) (by omega), nI_1, nI_1, show (10 * nI (cd / 10 + 1) : Int32) = nI (10 * (cd / 10 + 1)) from pk_mul 10 _]
  by_cases h : P - 1 ≤ cd % 10
  · rw [if_pos (nI_le h (by omega)), if_pos h, j30 _ (by omega)]
  · rw [if_neg (nI_ge (by omega) (by omega)), if_neg h, j30 _ (by omega)]
theorem lp_codes {β : Int32 × Um → Option (Nat × Int32 × Um)} {P W : Nat} {f : Nat → St4 → St4} {u0 : Um} {s0 : St4} (hP : P ≤ 6) (hW : W ≤ 8) (hP1 : 1 ≤ P) (hW1 : 1 ≤ W) (hgap : ∀ d s, d ≠ 99 → ¬ (d / 10 < W ∧ d % 10 < P) → f d s = s) (hstop : ∀ u, β (nI 99, u) = some (1, nI 99, u)) (hstep : ∀ cd u s, cd < 99 → cd / 10 < W → cd % 10 < P → FRm u0 u → STm u s → ∃ u', β (nI cd, u) = some (0, nI (nxC P W cd), u') ∧ FRm u u' ∧ STm u' (f cd s)) (hS : STm u0 s0) : ∃ u', lp β fuel ((0 : Int32), u0) = some (1, nI 99, u') ∧ FRm u0 u' ∧ STm u' (acc f s0 99) := by
  obtain ⟨N, hN⟩ : ∃ N, N = 99 := ⟨99, rfl⟩
  rw [← hN] at hstop
  rw [← hN]
  obtain ⟨e, q, h, h1, h2, h3, h4⟩ := lp_inv (body := β) (fun k s => ∃ cd, k ≤ cd ∧ s.1 = nI cd ∧ okd P W cd ∧ FRm u0 s.2 ∧ STm s.2 (acc f s0 cd)) (fun e s => e = 1 ∧ s.1 = nI N ∧ FRm u0 s.2 ∧ STm s.2 (acc f s0 N)) N (by omega) (fun k s hk hs => by
    obtain ⟨x, w⟩ := s
    obtain ⟨cd, c1, c2, c3, c4, c5⟩ := hs
    dsimp only at c2 c4 c5
    subst c2
    rcases c3 with c3 | ⟨d1, d2, d3⟩
    · rw [← hN] at c3
      rw [c3] at c5
      exact Or.inr ⟨1, (nI N, w), Nat.one_ne_zero, by rw [c3]; exact hstop w, rfl, rfl, c4, c5⟩
    · obtain ⟨n1, n2, n3⟩ := nxC_spec hP hW d2 d3
      obtain ⟨u', b1, b2, b3⟩ := hstep cd w _ d1 d2 d3 c4 c5
      refine Or.inl ⟨by omega, _, b1, nxC P W cd, by omega, rfl, n2, FRm_t c4 b2, ?_⟩
      have h99 : nxC P W cd ≤ 99 := by
        rcases n2 with h | h
        · omega
        · omega
      have eg := acc_gap (f := f) (a := s0) (n := cd + 1) (nxC P W cd - (cd + 1)) (fun d s g1 g2 => hgap d s (by omega) (n3 d (by omega) (by omega)))
      rw [show cd + 1 + (nxC P W cd - (cd + 1)) = nxC P W cd by omega] at eg
      rw [eg, acc_s]
      exact b3) (s := ((0 : Int32), u0)) ⟨0, Nat.le_refl 0, rfl, Or.inr ⟨by omega, by omega, by omega⟩, FRm_r u0, hS⟩
  obtain ⟨x, w⟩ := q
  dsimp only at h2 h3 h4
  subst h1
  subst h2
  exact ⟨w, h, h3, h4⟩
