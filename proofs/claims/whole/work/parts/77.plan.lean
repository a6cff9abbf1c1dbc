/-! ===== plan: the class's side ===== -/
theorem may_out2 {u : Um} {a P W dd w p : Nat} {c : Nat → Int32} (hR : RC u a c P W) (hV : VR c P W dd) (hw8 : w < 100) (hp6 : p < 100) (h : ¬ (w < W ∧ p < P)) : fX0_mayCarry a (nI w) (nI p) u = some 0 := by
  have hP := hV.2.2.2.1
  have hW := hV.2.2.2.2.1
  unfold fX0_mayCarry
  by_cases hw : w < W
  · have hp : ¬ p < P := fun hp => h ⟨hw, hp⟩
    rw [hasW_y (hR.2.1.trans hV.2.1) hW hw, bd1s, if_neg i10, hasP_n (hR.1.trans hV.1) (Or.inr (nI_le (by omega) (by omega))), bd1s, if_pos rfl]
  · rw [hasW_n (hR.2.1.trans hV.2.1) (Or.inr (nI_le (by omega) (by omega))), bd1s, if_pos rfl]
theorem dv10 {d : Nat} (h : d < 1000) : (nI d / 10 : Int32) = nI (d / 10) ∧ irm (nI d) 10 = nI (d % 10) := ⟨pk_div (d := 10) (by omega) (by decide) (by decide), irmN (d := 10) (by omega) (by decide) (by decide)⟩
theorem ne99 {d : Nat} (h : d < 1000) (h9 : d ≠ 99) : ¬ nI d = (99 : Int32) := fun e => h9 ((nI_eq (b := 99) (by omega) (by decide)).mp e)
theorem gain_c {u : Um} {a P W dd d : Nat} {c : Nat → Int32} (hR : RC u a c P W) (hV : VR c P W dd) (hd : d < 100) : fX4_gainOf a (nI d) u = some ((gaN P W c d).elim (-1) nI) := by
  unfold fX4_gainOf
  by_cases h9 : d = 99
  · subst h9
    rw [if_pos (show nI 99 = (99 : Int32) from rfl), gaN_99]
    rfl
  rw [if_neg (ne99 (by omega) h9), (dv10 (d := d) (by omega)).1, (dv10 (d := d) (by omega)).2]
  by_cases hin : d / 10 < W ∧ d % 10 < P
  · by_cases hm : sMay c (d / 10) (d % 10)
    · rw [(may_c hR hV hin.1 hin.2).1 hm, bd1s, if_neg i10, com_c hR hV hin.1 hin.2 (sn_b hV hin.1 hin.2), bd1s, gaN_y h9 hin.1 hin.2 hm]
      rcases com_3 c (d / 10) (d % 10) with h | h | h <;> rw [h] <;> rfl
    · rw [(may_c hR hV hin.1 hin.2).2 hm, bd1s, if_pos rfl, gaN_n h9 (fun h => hm h.2.2)]
      rfl
  · rw [may_out2 hR hV (by omega) (by omega) hin, bd1s, if_pos rfl, gaN_n h9 (fun h => hin ⟨h.1, h.2.1⟩)]
    rfl
theorem keepOk : ∀ dp, dp < 3 → cpOk (nI (3 * dp + 3)) (nI (3 * dp) + 1) 2 12 12 = true := by decide +kernel
theorem pkeep_c {u : Um} {dp : Nat} {x : Int32} (hdp : dp < 3) : ∃ u', fX4_keep (nI dp) x u = some u' ∧ (∀ k, k ≠ 114 → u'.1 k = u.1 k) ∧ u'.2 = u.2 ∧ (∀ i, i < 3 * dp → u'.1 114 i = u.1 114 i) ∧ u'.1 114 (3 * dp) = x ∧ ∀ i, i < 2 → u'.1 114 (3 * dp + 1 + i) = u.1 114 (3 * dp + 3 + i) := by
  have e1 : (nI dp * 3 : Int32) = nI (3 * dp) := by rw [show (3 : Int32) = nI 3 from rfl, pk_mul, Nat.mul_comm]
  have e2 : (nI (3 * dp) + 3 : Int32) = nI (3 * dp + 3) := nI_add _ 3
  have e3 : (nI (3 * dp + 3) + 3 : Int32) = nI (3 * dp + 6) := nI_add _ 3
  refine ⟨sIr (sI u 114 (3 * dp) x) 114 (va_cpy ((sI u 114 (3 * dp) x).1 114) ((sI u 114 (3 * dp) x).1 114) (3 * dp + 3) (3 * dp + 1) 2), ?_, fun k hk => ?_, rfl, fun i hi => ?_, ?_, fun i hi => ?_⟩
  · unfold fX4_keep
    simp only [nm]
    rw [e1, e2, if_neg (nI_pos (by omega)), e3, if_pos (show nI (3 * dp + 6) ≤ (12 : Int32) from nI_le (b := 12) (by omega) (by decide)), if_pos (inbN (show 3 * dp < 12 by omega) (by decide)), if_pos (keepOk dp hdp), nI_1, nI_clamp (by omega), nI_clamp (by omega), nI_clamp (by omega)]
    rfl
  · rw [sIr_ne hk, sI_ne hk]
  · rw [sIr_at, pk_cpy_out (by omega), sI_ot (by omega)]
  · rw [sIr_at, pk_cpy_out (by omega), sI_eq]
  · rw [sIr_at, pk_cpy_in (by omega) (by omega), show 3 * dp + 3 + (3 * dp + 1 + i - (3 * dp + 1)) = 3 * dp + 3 + i by omega, sI_ot (by omega)]
abbrev BBt : Type := Nat → Int32 → Int32 → Int32 → Um → Option (Int32 × Um)
abbrev BFt : Type := Nat → Int32 → Int32 → Um → Option (Int32 × Um)
noncomputable def pBody (bb : BBt) (p0 : Nat) (p1 : Int32) (p2 : Int32) (s4 : Int32) (s5 : Int32) (u : Um) : Option (Nat × Int32 × Int32 × Um) :=
  if 99 < s5 then
    some (1, s4, s5, u)
  else
    if p2 ≤ s4 then
      some (1, s4, s5, u)
    else
      bd1 (fX4_gainOf p0 s5 u) fun v2 =>
      if v2 < 0 then
        some (0, s4, s5 + 1, u)
      else
        if s4 < ((v2 + p2) - 1) then
          bd2 (bb p0 s5 p1 p2 u) fun v5 u6 =>
          if v2 + v5 ≤ s4 then
            some (0, s4, s5 + 1, u6)
          else
            bd1 (fX4_keep p1 s5 u6) fun u9 =>
            some (0, v2 + v5, s5 + 1, u9)
        else
          some (0, s4, s5 + 1, u)
noncomputable def pBF (bb : BBt) (p0 : Nat) (p1 : Int32) (p2 : Int32) (u : Um) : Option (Int32 × Um) :=
  if p2 < 1 then
    some (0, u)
  else
    if p1 < 0 then
      some (0, u)
    else
      if p1 < 3 then
        bd4 (lp (fun s => pBody bb p0 p1 p2 s.1 s.2.1 s.2.2) fuel (((-1) : Int32), (0 : Int32), u)) fun _ v10 _ u12 =>
        some (v10, u12)
      else
        some (0, u)
noncomputable def pB23 (nx : BFt) (p0 : Nat) (p1 : Int32) (p2 : Int32) (p3 : Int32) (z0 : Option Nat) (u : Um) : Option (Int32 × Um) :=
  spl z0 0
    (if p3 ≤ 1 then
      some (0, u)
    else
      some (0, u))
  (fun x1 =>
    if p3 ≤ 1 then
      some (0, u)
    else
      bd1 (fX0_copyFrom x1 p0 u) fun u4 =>
      if p1 = 99 then
        bd1 (fX0_nextDay x1 u4) fun u12 =>
        bd2 (nx x1 (p2 + 1) (p3 - 1) u12) fun v9 u10 => some (v9, u10)
      else
        bd2 (fX0_deliver x1 (p1 / 10) (irm p1 10) u4) fun _ u7 =>
        bd2 (nx x1 (p2 + 1) (p3 - 1) u7) fun v9 u10 => some (v9, u10))
noncomputable def pBB (nx : BFt) (p0 : Nat) (p1 : Int32) (p2 : Int32) (p3 : Int32) (u : Um) : Option (Int32 × Um) :=
  if p2 < 0 then
    pB23 nx p0 p1 p2 p3 none u
  else
    if p2 < 3 then
      if inb p2 3 = true then
      pB23 nx p0 p1 p2 p3 (some (105 + 3 * p2.toNatClampNeg)) u
      else none
    else
      pB23 nx p0 p1 p2 p3 none u
theorem pBB_0 : fX4_bestBehind_L0 = pBB (fun _ _ _ _ => none) := rfl
theorem pBF_0 : fX4_bestFrom_L0 = pBF fX4_bestBehind_L0 := rfl
theorem pBB_1 : fX4_bestBehind_L1 = pBB fX4_bestFrom_L0 := rfl
theorem pBF_1 : fX4_bestFrom_L1 = pBF fX4_bestBehind_L1 := rfl
theorem pBB_2 : fX4_bestBehind_L2 = pBB fX4_bestFrom_L1 := rfl
theorem pBF_2 : fX4_bestFrom_L2 = pBF fX4_bestBehind_L2 := rfl
def FRc (dp : Nat) (u u' : Um) : Prop := (∀ k, k < 105 + 3 * dp ∨ 114 < k → u'.1 k = u.1 k) ∧ u'.2 = u.2 ∧ ∀ i, i < 3 * dp → u'.1 114 i = u.1 114 i
def BBok (bb : BBt) (l a dp P W : Nat) (c : Nat → Int32) : Prop := ∀ (u : Um) (d t : Nat), d < 100 → gaN P W c d = some t → RC u a c P W → ∃ u', bb a (nI d) (nI dp) (nI (l + 1)) u = some (nI (vl P W l (nR c d)), u') ∧ (∀ k, k < 105 + 3 * dp ∨ 114 < k → u'.1 k = u.1 k) ∧ u'.2 = u.2 ∧ (∀ i, i < 3 * dp + 3 → u'.1 114 i = u.1 114 i) ∧ ∀ i, i < l → u'.1 114 (3 * dp + 3 + i) = nI (pl P W l (nR c d) i)
def BFok (f : BFt) (l : Nat) : Prop := ∀ (a dp P W dd : Nat) (c : Nat → Int32) (u : Um), RC u a c P W → VR c P W dd → dd + l ≤ 20000 → dp + l ≤ 3 → a + 2 < 105 + 3 * dp → ∃ u', f a (nI dp) (nI l) u = some (nI (vl P W l c), u') ∧ FRc dp u u' ∧ ∀ i, i < l → u'.1 114 (3 * dp + i) = nI (pl P W l c i)
def Icl (l dp P W : Nat) (c : Nat → Int32) (u : Um) (k : Nat) (s : Int32 × Int32 × Um) : Prop := s.1 = nI (bst (vd P W l c) k).1 + (-1) ∧ s.2.1 = nI k ∧ FRc dp u s.2.2 ∧ (0 < (bst (vd P W l c) k).1 → s.2.2.1 114 (3 * dp) = nI (bst (vd P W l c) k).2 ∧ ∀ i, i < l → s.2.2.1 114 (3 * dp + 1 + i) = nI (pl P W l (nR c (bst (vd P W l c) k).2) i))
def Qcl (l dp P W : Nat) (c : Nat → Int32) (u : Um) (s : Int32 × Int32 × Um) : Prop := s.1 = nI (vl P W (l + 1) c) ∧ FRc dp u s.2.2 ∧ ∀ i, i < l + 1 → s.2.2.1 114 (3 * dp + i) = nI (pl P W (l + 1) c i)
theorem loop_fin {l dp P W k N : Nat} {c : Nat → Int32} {u : Um} {s : Int32 × Int32 × Um} (hN : N = 100) (e : bst (vd P W l c) N = bst (vd P W l c) k) (h : Icl l dp P W c u k s) : Qcl l dp P W c u s := by
  obtain ⟨h1, h2, h3, h4⟩ := h
  have hpos := bst_pos P W l c
  rw [← hN] at hpos
  rw [← e] at h1 h4
  obtain ⟨m1, m2⟩ := h4 hpos
  refine ⟨?_, h3, fun i hi => ?_⟩
  · rw [h1, m1_s hpos, vl_s, hN]
  · cases i with
    | zero => rw [pl_0, ← hN]; exact m1
    | succ i =>
      rw [show 3 * dp + (i + 1) = 3 * dp + 1 + i by omega, pl_s, ← hN]
      exact m2 i (by omega)
theorem loop_step {bb : BBt} {l a dp P W dd : Nat} {c : Nat → Int32} {u : Um} (hB : BBok bb l a dp P W c) (hV : VR c P W dd) (hR : RC u a c P W) (ha : a + 2 < 105 + 3 * dp) (hl : dp + l < 3) {k N : Nat} {x : Int32} {w : Um} (hN : N = 100) (hk : k ≤ N) (hs : Icl l dp P W c u k (x, nI k, w)) : (k < N ∧ ∃ s', pBody bb a (nI dp) (nI (l + 1)) x (nI k) w = some (0, s') ∧ Icl l dp P W c u (k + 1) s') ∨ (∃ e s', e ≠ 0 ∧ pBody bb a (nI dp) (nI (l + 1)) x (nI k) w = some (e, s') ∧ Qcl l dp P W c u s') := by
  have hvb : ∀ d t, vd P W l c d = some t → t ≤ l + 1 := fun d t h => vd_b h
  have hM : (bst (vd P W l c) k).1 ≤ l + 2 := bst_b hvb k
  obtain ⟨h1, -, h3, h4⟩ := id hs
  dsimp only at h1 h3 h4
  unfold pBody
  by_cases hk1 : k = N
  · have f := loop_fin (l := l) hN (by rw [hk1]) hs
    rw [if_pos (show (99 : Int32) < nI k from nI_lt (a := 99) (by omega) (by omega))]
    exact Or.inr ⟨1, _, Nat.one_ne_zero, rfl, f⟩
  rw [if_neg (show ¬ (99 : Int32) < nI k from nI_nlt (b := k) (a := 99) (by omega) (by omega))]
  by_cases hx : l + 1 < (bst (vd P W l c) k).1
  · have e2 := bst_top hvb hx (N - k)
    rw [show k + (N - k) = N by omega] at e2
    have f := loop_fin (l := l) hN e2 hs
    rw [if_pos (by rw [h1]; exact (m1_le (by omega) (by omega)).mpr hx)]
    exact Or.inr ⟨1, _, Nat.one_ne_zero, rfl, f⟩
  have hRw : RC w a c P W := RC_fr hR (h3.1 a (by omega)) (h3.1 (a + 1) (by omega)) (h3.1 (a + 2) (by omega))
  rw [if_neg (by rw [h1]; exact fun h => hx ((m1_le (by omega) (by omega)).mp h)), gain_c hRw hV (by omega), bd1s, nI_1]
  refine Or.inl ⟨by omega, ?_⟩
  unfold Icl
  rw [bst_s]
  cases hg : gaN P W c k with
  | none =>
    rw [stp_n (vd_n hg)]
    refine ⟨(x, nI (k + 1), w), ?_, h1, rfl, h3, h4⟩
    rw [if_pos (show ((none : Option Nat).elim (-1) nI : Int32) < 0 by decide)]
  | some t =>
    have ht := (gaN_or hg).1
    have hv := vl_b P W l (nR c k)
    have e1 : (nI t + nI (l + 1)) - 1 = nI (t + l) := by rw [nI_add, show t + (l + 1) = t + l + 1 by omega, nI_pred]
    rw [stp_y (vd_y hg)]
    show ∃ s', (if nI t < 0 then _ else if x < (nI t + nI (l + 1)) - 1 then (bd2 (bb a (nI k) (nI dp) (nI (l + 1)) w) fun v5 u6 => if nI t + v5 ≤ x then some (0, x, nI (k + 1), u6) else bd1 (fX4_keep (nI dp) (nI k) u6) fun u9 => some (0, nI t + v5, nI (k + 1), u9)) else _) = _ ∧ _
    rw [if_neg (nI_pos (by omega)), e1]
    by_cases hy : t + l < (bst (vd P W l c) k).1
    · have hlt : ¬ x < nI (t + l) := Int32.not_lt.mpr (by rw [h1]; exact (m1_le (by omega) (by omega)).mpr hy)
      rw [if_neg (show ¬ (bst (vd P W l c) k).1 < 0 + (t + vl P W l (nR c k)) + 1 by omega), if_neg hlt]
      exact ⟨(x, nI (k + 1), w), rfl, h1, rfl, h3, h4⟩
    · have hlt : x < nI (t + l) := Int32.not_le.mp (by rw [h1]; exact fun h => hy ((m1_le (by omega) (by omega)).mp h))
      obtain ⟨u6, b1, b2, b3, b4, b5⟩ := hB w k t (by omega) hg hRw
      rw [if_pos hlt, b1, bd2s, nI_add]
      by_cases hz : t + vl P W l (nR c k) < (bst (vd P W l c) k).1
      · rw [if_neg (show ¬ (bst (vd P W l c) k).1 < 0 + (t + vl P W l (nR c k)) + 1 by omega), if_pos (by rw [h1]; exact (m1_le (by omega) (by omega)).mpr hz)]
        refine ⟨(x, nI (k + 1), u6), rfl, h1, rfl, ⟨fun j hj => (b2 j hj).trans (h3.1 j hj), b3.trans h3.2.1, fun i hi => (b4 i (by omega)).trans (h3.2.2 i hi)⟩, fun h0 => ?_⟩
        obtain ⟨m1, m2⟩ := h4 h0
        exact ⟨(b4 _ (by omega)).trans m1, fun i hi => (b4 _ (by omega)).trans (m2 i hi)⟩
      · obtain ⟨u9, k1, k2, k3, k4, k5, k6⟩ := pkeep_c (u := u6) (dp := dp) (x := nI k) (by omega)
        rw [if_pos (show (bst (vd P W l c) k).1 < 0 + (t + vl P W l (nR c k)) + 1 by omega), if_neg (by rw [h1]; exact fun h => hz ((m1_le (by omega) (by omega)).mp h)), k1, bd1s]
        refine ⟨(nI (t + vl P W l (nR c k)), nI (k + 1), u9), rfl, ?_, rfl, ⟨fun j hj => (k2 j (by omega)).trans ((b2 j hj).trans (h3.1 j hj)), k3.trans (b3.trans h3.2.1), fun i hi => (k4 i hi).trans ((b4 i (by omega)).trans (h3.2.2 i hi))⟩, fun _ => ⟨k5, fun i hi => (k6 i (by omega)).trans (b5 i hi)⟩⟩
        show nI (t + vl P W l (nR c k)) = nI (0 + (t + vl P W l (nR c k)) + 1) + (-1)
        rw [pk_m1, Nat.zero_add]
theorem loop_c {bb : BBt} {l a dp P W dd : Nat} {c : Nat → Int32} {u : Um} (hB : BBok bb l a dp P W c) (hV : VR c P W dd) (hR : RC u a c P W) (ha : a + 2 < 105 + 3 * dp) (hl : dp + l < 3) : ∃ e x u', lp (fun s : Int32 × Int32 × Um => pBody bb a (nI dp) (nI (l + 1)) s.1 s.2.1 s.2.2) fuel (((-1) : Int32), (0 : Int32), u) = some (e, nI (vl P W (l + 1) c), x, u') ∧ FRc dp u u' ∧ ∀ i, i < l + 1 → u'.1 114 (3 * dp + i) = nI (pl P W (l + 1) c i) := by
  obtain ⟨N, hN⟩ : ∃ N, N = 100 := ⟨100, rfl⟩
  obtain ⟨e, q, h, h1, h2, h3⟩ := lp_inv (body := fun s : Int32 × Int32 × Um => pBody bb a (nI dp) (nI (l + 1)) s.1 s.2.1 s.2.2) (Icl l dp P W c u) (fun _ s => Qcl l dp P W c u s) N (by omega) (fun k s hk hs => by
    obtain ⟨x, y, w⟩ := s
    have h2 : y = nI k := hs.2.1
    subst h2
    exact loop_step hB hV hR ha hl hN hk hs) (s := (((-1) : Int32), (0 : Int32), u)) ⟨by show (-1 : Int32) = nI 0 + (-1); decide, rfl, ⟨fun _ _ => rfl, rfl, fun _ _ => rfl⟩, fun h => absurd h (Nat.lt_irrefl 0)⟩
  obtain ⟨x, y, w⟩ := q
  dsimp only at h1 h2 h3
  subst h1
  exact ⟨e, y, w, h, h2, h3⟩
theorem bf_z (bb : BBt) : BFok (pBF bb) 0 := by
  intro a dp P W dd c u hR hV hd hl ha
  refine ⟨u, ?_, ⟨fun _ _ => rfl, rfl, fun _ _ => rfl⟩, fun i hi => absurd hi (Nat.not_lt_zero i)⟩
  unfold pBF
  rw [if_pos (show nI 0 < (1 : Int32) by decide)]
  rfl
theorem bf_s {bb : BBt} {l : Nat} (hB : ∀ (a dp P W dd : Nat) (c : Nat → Int32), VR c P W dd → dd + (l + 1) ≤ 20000 → dp + l < 3 → a + 2 < 105 + 3 * dp → BBok bb l a dp P W c) : BFok (pBF bb) (l + 1) := by
  intro a dp P W dd c u hR hV hd hl ha
  obtain ⟨e, x, u', h, h1, h2⟩ := loop_c (hB a dp P W dd c hV hd (by omega) ha) hV hR ha (by omega)
  refine ⟨u', ?_, h1, h2⟩
  unfold pBF
  rw [if_neg (show ¬ nI (l + 1) < (1 : Int32) from nI_nlt (b := 1) (by omega) (by omega)), if_neg (nI_pos (by omega)), if_pos (show nI dp < (3 : Int32) from nI_lt (b := 3) (by omega) (by decide)), h, bd4s]
theorem kdT : ∀ dp, dp < 3 → kd (105 + 3 * dp) = 0 := by decide +kernel
theorem pBB_e {nx : BFt} {a dp : Nat} {p1 p3 : Int32} {u : Um} (h : dp < 3) : pBB nx a p1 (nI dp) p3 u = if p3 ≤ 1 then some (0, u) else bd1 (fX0_copyFrom (105 + 3 * dp) a u) fun u4 => if p1 = 99 then bd1 (fX0_nextDay (105 + 3 * dp) u4) fun u12 => bd2 (nx (105 + 3 * dp) (nI dp + 1) (p3 - 1) u12) fun v9 u10 => some (v9, u10) else bd2 (fX0_deliver (105 + 3 * dp) (p1 / 10) (irm p1 10) u4) fun _ u7 => bd2 (nx (105 + 3 * dp) (nI dp + 1) (p3 - 1) u7) fun v9 u10 => some (v9, u10) := by
  unfold pBB pB23
  rw [if_neg (nI_pos (by omega)), if_pos (show nI dp < (3 : Int32) from nI_lt (b := 3) h (by decide)), if_pos (inbN h (by decide)), nI_clamp (by omega), spl_e (kdT dp h)]
theorem bb_z (nx : BFt) {a dp P W : Nat} {c : Nat → Int32} (h : dp < 3) : BBok (pBB nx) 0 a dp P W c := by
  intro u d t hd hg hR
  refine ⟨u, ?_, fun _ _ => rfl, rfl, fun _ _ => rfl, fun i hi => absurd hi (Nat.not_lt_zero i)⟩
  rw [pBB_e h, if_pos (show nI (0 + 1) ≤ (1 : Int32) by decide)]
  rfl
theorem bb_s {nx : BFt} {l a dp P W dd : Nat} {c : Nat → Int32} (hF : BFok nx (l + 1)) (hV : VR c P W dd) (hd : dd + (l + 2) ≤ 20000) (h : dp + (l + 1) < 3) (ha : a + 2 < 105 + 3 * dp) : BBok (pBB nx) (l + 1) a dp P W c := by
  intro u d t hd1 hg hR
  have hP := hV.2.2.2.1
  have hW := hV.2.2.2.2.1
  have e1 : nI dp + 1 = nI (dp + 1) := nI_1 dp
  have e2 : nI (l + 1 + 1) - 1 = nI (l + 1) := nI_pred (l + 1)
  have hVn := nR_VR hV hg (by omega)
  obtain ⟨u4, c1, f1, f2, f3, f4, f5, f6, f7⟩ := copy_spec (a := 105 + 3 * dp) (b := a) (Or.inr (by omega)) u
  have hR4 : RC u4 (105 + 3 * dp) c P W := RC_copy hR hP hW f3 f4 f5 f6 f7
  rw [pBB_e (by omega), if_neg (show ¬ nI (l + 1 + 1) ≤ (1 : Int32) from nI_ge (a := 1) (by omega) (by omega)), c1, bd1s, e1, e2]
  have go : ∀ u7 : Um, (∀ k, k ≠ 105 + 3 * dp → k ≠ 105 + 3 * dp + 1 → k ≠ 105 + 3 * dp + 2 → u7.1 k = u4.1 k) → u7.2 = u4.2 → RC u7 (105 + 3 * dp) (nR c d) P W → ∃ u', (bd2 (nx (105 + 3 * dp) (nI (dp + 1)) (nI (l + 1)) u7) fun v9 u10 => some (v9, u10)) = some (nI (vl P W (l + 1) (nR c d)), u') ∧ (∀ k, k < 105 + 3 * dp ∨ 114 < k → u'.1 k = u.1 k) ∧ u'.2 = u.2 ∧ (∀ i, i < 3 * dp + 3 → u'.1 114 i = u.1 114 i) ∧ ∀ i, i < l + 1 → u'.1 114 (3 * dp + 3 + i) = nI (pl P W (l + 1) (nR c d) i) := by
    intro u7 q1 q2 q3
    obtain ⟨u', g1, g2, g3⟩ := hF (105 + 3 * dp) (dp + 1) P W (dd + 1) (nR c d) u7 q3 hVn (by omega) (by omega) (by omega)
    refine ⟨u', by rw [g1, bd2s], fun k hk => ?_, ?_, fun i hi => ?_, fun i hi => ?_⟩
    · rw [g2.1 k (by omega), q1 k (by omega) (by omega) (by omega), f1 k (by omega) (by omega) (by omega)]
    · rw [g2.2.1, q2, f2]
    · rw [g2.2.2 i (by omega), q1 114 (by omega) (by omega) (by omega), f1 114 (by omega) (by omega) (by omega)]
    · rw [show 3 * dp + 3 + i = 3 * (dp + 1) + i by omega]
      exact g3 i hi
  rcases (gaN_or hg).2 with rfl | ⟨h9, hw, hp, hm⟩
  · obtain ⟨d1, d2⟩ := day_c (dd := 0) hR4 hP hW
    rw [if_pos (show nI 99 = (99 : Int32) from rfl), d1, bd1s]
    exact go _ (fun k k1 _ _ => sI_ne k1) rfl (by rw [nR_99]; exact d2)
  · obtain ⟨u7, d1, d2, d3, d4⟩ := del_c hR4 hV hw hp
    rw [if_neg (ne99 (by omega) h9), (dv10 (d := d) (by omega)).1, (dv10 (d := d) (by omega)).2, d1, bd2s]
    exact go u7 d2 d3 (by rw [nR_n h9]; exact d4)
theorem bf_L {n : Nat} (hn : n ≤ 3) : BFok fX4_bestFrom_L2 n := by
  have f01 : BFok fX4_bestFrom_L0 1 := by
    rw [pBF_0, pBB_0]
    exact bf_s (fun a dp P W dd c _ _ h _ => bb_z _ (by omega))
  have f11 : BFok fX4_bestFrom_L1 1 := by
    rw [pBF_1, pBB_1]
    exact bf_s (fun a dp P W dd c _ _ h _ => bb_z _ (by omega))
  have f12 : BFok fX4_bestFrom_L1 2 := by
    rw [pBF_1, pBB_1]
    exact bf_s (fun a dp P W dd c hV hd h ha => bb_s f01 hV (by omega) h ha)
  rw [pBF_2, pBB_2]
  rcases (show n = 0 ∨ n = 1 ∨ n = 2 ∨ n = 3 by omega) with rfl | rfl | rfl | rfl
  · exact bf_z _
  · exact bf_s (fun a dp P W dd c _ _ h _ => bb_z _ (by omega))
  · exact bf_s (fun a dp P W dd c hV hd h ha => bb_s f11 hV (by omega) h ha)
  · exact bf_s (fun a dp P W dd c hV hd h ha => bb_s f12 hV (by omega) h ha)
