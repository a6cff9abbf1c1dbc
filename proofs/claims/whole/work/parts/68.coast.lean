/-! ===== the WRONGS, the DAY, and coast itself ===== -/
theorem sAdd83 {c c' : Nat → Int32} (e : eq83 c' c) (W : Nat) (x y z : Int32) : eq83 (sAdd c' W x y z) (sAdd c W x y z) := upd83 (upd83 (upd83 (upd83 (upd83 e _ rfl) _ rfl) _ rfl) _ rfl) _ rfl
theorem j54n (j1 j2 : Int32) (u : Um) : fX8_isWrongItem_j54 j1 j2 (-1) u = some (0, u) := by
  unfold fX8_isWrongItem_j54
  rw [if_neg (by decide)]
theorem j37n (j1 : Int32) (u : Um) : fX8_isWrongItem_j37 j1 (-1) u = some (0, u) := by
  unfold fX8_isWrongItem_j37
  rw [if_neg (by decide), j54n]
section READ3
variable {T : Nat → Int32} {n : Nat} {u0 : Um}
theorem wrongI (hn : n ≤ 130) (hT : ∀ i, i < n → u0.1 2 i = T i) {u : Um} {pos P W : Nat} {c : Nat → Int32} (h : CSt n u0 u pos) (hR : RC u 6 c P W) (hV : VR c P W 0) (hP2 : 2 ≤ P) (hW : W < 8) :
    (∃ pos' u', fX6_takeWrong 6 u = some (0, u') ∧ CSt n u0 u' pos' ∧ ∀ v0 v, (∀ i, i < n → v0.1 121 i = T i) → MSt n v0 v pos c → ∃ v', fX8_isWrongItem v = some (0, v') ∧ MSt n v0 v' pos' c) ∨
    (∃ pos' u' c', fX6_takeWrong 6 u = some (1, u') ∧ CSt n u0 u' pos' ∧ RC u' 6 c' P (W + 1) ∧ VR c' P (W + 1) 0 ∧ ∀ v0 v, (∀ i, i < n → v0.1 121 i = T i) → MSt n v0 v pos c → ∃ v', fX8_isWrongItem v = some (1, v') ∧ MSt n v0 v' pos' c') := by
  have hP := hV.2.2.2.1
  have ep : (nI P - 1 : Int32) = nI (P - 1) := pk_sub (a := P) (b := 1) (by omega)
  have tp : (nI P - 1 : Int32).toInt = (P - 1 : Nat) := by rw [ep]; exact nI_toInt (by omega)
  have eP : ∀ x : Um, RC x 6 c P W → x.1 6 2 = nI P := fun x hx => hx.1.trans hV.1
  unfold fX6_takeWrong fX0_people
  rw [bd1s, eP u hR]
  have refA : ∀ v0 v, (∀ i, i < n → v0.1 121 i = T i) → MSt n v0 v pos c → fX8_isWrongItem v = bd2 (fX8_figure 0 (nI P - 1) (-1) v) (fun v2 u3 => if 0 ≤ v2 then bd2 (fX8_figure 0 ((u3.1 123 1) - 1) v2 u3) (fun v5 u6 => fX8_isWrongItem_j37 v2 v5 u6) else fX8_isWrongItem_j37 v2 (-1) u3) := by
    intro v0 v hT' hm
    unfold fX8_isWrongItem
    rw [if_pos b183]
    simp only [cl1, b183, if_true]
    rw [hm.2.2.1 1 (by decide), hV.1]
  by_cases f1 : fgOK (pk T n pos - 48) 0 (nI P - 1)
  rotate_left
  · rw [(fig_c hn hT h 0 (nI P - 1)).2 f1, bd2s, if_pos rfl]
    refine Or.inl ⟨pos, _, rfl, h, fun v0 v hT' hm => ⟨_, ?_, hm⟩⟩
    rw [refA v0 v hT' hm, (fig_m hn hT' h.1 hm 0 (nI P - 1) (-1)).2 (fun e => f1 e.1), bd2s, if_neg (by decide), j37n]
  obtain ⟨x, -, x1, ex, lt0⟩ := fg_nat (l := 0) tp (by omega) f1 (by decide)
  have h1 := CSt_adv h lt0
  have hR1 : RC (sI u 1 2 (nI (pos + 1))) 6 c P W := RC_adv hR
  rw [(fig_c hn hT h 0 (nI P - 1)).1 f1, bd2s, ex, if_neg (neg1_nI (by omega)), bd1s, eP _ hR1]
  have refB : ∀ v0 v, (∀ i, i < n → v0.1 121 i = T i) → MSt n v0 v pos c → fX8_isWrongItem v = bd2 (fX8_figure 0 (nI P - 1) (nI x) (sI v 117 5 (nI (pos + 1)))) (fun v5 u6 => fX8_isWrongItem_j37 (nI x) v5 u6) := by
    intro v0 v hT' hm
    rw [refA v0 v hT' hm, (fig_m hn hT' h.1 hm 0 (nI P - 1) (-1)).1 ⟨f1, by rw [ex]; exact neg1_nI (by omega)⟩, bd2s, ex, if_pos (nI_pos' (by omega)), (MSt_adv hm).2.2.1 1 (by decide), hV.1]
  by_cases f2 : fgOK (pk T n (pos + 1) - 48) 0 (nI P - 1) ∧ ¬ pk T n (pos + 1) - 48 = nI x
  rotate_left
  · rw [(oth_c hn hT h1 (nI x) (nI P)).2 f2, bd2s, if_pos rfl]
    refine Or.inl ⟨pos + 1, _, rfl, h1, fun v0 v hT' hm => ⟨_, ?_, MSt_adv hm⟩⟩
    rw [refB v0 v hT' hm, (fig_m hn hT' h1.1 (MSt_adv hm) 0 (nI P - 1) (nI x)).2 f2, bd2s, j37n]
  obtain ⟨y, -, y1, ey, lt1⟩ := fg_nat (l := 0) tp (by omega) f2.1 (by decide)
  have h2 := CSt_adv h1 lt1
  have hR2 := RC_adv (x := nI (pos + 1 + 1)) hR1
  rw [(oth_c hn hT h1 (nI x) (nI P)).1 f2, bd2s, ey, if_neg (neg1_nI (by omega))]
  have refC : ∀ v0 v, (∀ i, i < n → v0.1 121 i = T i) → MSt n v0 v pos c → fX8_isWrongItem v = bd2 (fX8_figure 1 9 (-1) (sI (sI v 117 5 (nI (pos + 1))) 117 5 (nI (pos + 1 + 1)))) (fun v8 u9 => fX8_isWrongItem_j54 (nI x) (nI y) v8 u9) := by
    intro v0 v hT' hm
    rw [refB v0 v hT' hm, (fig_m hn hT' h1.1 (MSt_adv hm) 0 (nI P - 1) (nI x)).1 f2, bd2s, ey]
    unfold fX8_isWrongItem_j37
    rw [if_pos (nI_pos' (by omega))]
  by_cases f3 : fgOK (pk T n (pos + 1 + 1) - 48) 1 9
  rotate_left
  · rw [(fig_c hn hT h2 1 9).2 f3, bd2s, if_pos rfl]
    refine Or.inl ⟨pos + 1 + 1, _, rfl, h2, fun v0 v hT' hm => ⟨_, ?_, MSt_adv (MSt_adv hm)⟩⟩
    rw [refC v0 v hT' hm, (fig_m hn hT' h2.1 (MSt_adv (MSt_adv hm)) 1 9 (-1)).2 (fun e => f3 e.1), bd2s, j54n]
  obtain ⟨z, z1, z9, ez, lt2⟩ := fg_nat (l := 1) i9 (by decide) f3 (by decide)
  have h3 := CSt_adv h2 lt2
  have hR3 := RC_adv (x := nI (pos + 1 + 1 + 1)) hR2
  rw [(fig_c hn hT h2 1 9).1 f3, bd2s, ez, if_neg (neg1_nI (by omega))]
  obtain ⟨u', e1, e2, e3, e4⟩ := add_c (x := nI x) (y := nI y) (z := nI z) hR3 hP hW hV.2.1
  rw [e1, bd1s]
  refine Or.inr ⟨pos + 1 + 1 + 1, u', sAdd c W (nI x) (nI y) (nI z), rfl, ⟨h3.1, by rw [e2 1 (by decide) (by decide)]; exact h3.2.1, by rw [e2 1 (by decide) (by decide)]; exact h3.2.2.1, fun j j1 j6 j7 j8 => by rw [e2 j j6 j8]; exact h3.2.2.2.1 j j1 j6 j7 j8, e3.trans h3.2.2.2.2⟩, e4, add_VR hV hW (by omega) (by omega) z1 z9, fun v0 v hT' hm => ?_⟩
  have hm3 := MSt_adv (MSt_adv (MSt_adv hm))
  obtain ⟨a1, a2, a3, a4, a5, a6⟩ := hm3
  refine ⟨sIr (sI (sI (sI v 117 5 (nI (pos + 1))) 117 5 (nI (pos + 1 + 1))) 117 5 (nI (pos + 1 + 1 + 1))) 123 (sAdd ((sI (sI (sI v 117 5 (nI (pos + 1))) 117 5 (nI (pos + 1 + 1))) 117 5 (nI (pos + 1 + 1 + 1))).1 123) W (nI x) (nI y) (nI z)), ?_, ⟨?_, ?_, ?_, ?_, ?_, ?_⟩⟩
  · rw [refC v0 v hT' hm, (fig_m hn hT' h2.1 (MSt_adv (MSt_adv hm)) 1 9 (-1)).1 ⟨f3, by rw [ez]; exact neg1_nI (by omega)⟩, bd2s, ez]
    unfold fX8_isWrongItem_j54
    rw [if_pos (nI_pos' (by omega)), add_m ln123 hW (by rw [a3 2 (by decide)]; exact hV.2.1), bd2s]
  · rw [sIr_ne (by decide)]; exact a1
  · rw [sIr_ne (by decide)]; exact a2
  · rw [sIr_at]; exact sAdd83 a3 _ _ _ _
  · exact fun j j1 j2 => by rw [sIr_ne j2]; exact a4 j j1 j2
  · rw [sIr_ne (by decide)]; exact a5
  · exact a6
theorem wrongs (hn : n ≤ 130) (hT : ∀ i, i < n → u0.1 2 i = T i) {P : Nat} (hP2 : 2 ≤ P) : ∀ (g W : Nat) (u : Um) (pos : Nat) (c : Nat → Int32), 8 - W = g → W < 8 → CSt n u0 u pos → RC u 6 c P W → VR c P W 0 → ∀ N, 9 < N + W →
    (∃ pos' u' x, bd2 (fX6_takeWrong 6 u) (fun v2 u3 => lp (fun s : Int32 × Int32 × Um => fX6_takeWrongs_b8 6 s.1 s.2.1 s.2.2) N (v2, nI (W + 1), u3)) = some (1, 0, x, u') ∧ CSt n u0 u' pos' ∧ ∀ v0 v M, (∀ i, i < n → v0.1 121 i = T i) → MSt n v0 v pos c → 10 < M + W → ∃ y v' c', lp (fun s : Int32 × Um => fX8_isRead_b105 s.1 s.2) M ((1 : Int32), v) = some (2, y, v') ∧ MSt n v0 v' pos' c') ∨
    (∃ pos' u' c' W' x, 1 ≤ W' ∧ bd2 (fX6_takeWrong 6 u) (fun v2 u3 => lp (fun s : Int32 × Int32 × Um => fX6_takeWrongs_b8 6 s.1 s.2.1 s.2.2) N (v2, nI (W + 1), u3)) = some (1, 1, x, u') ∧ CSt n u0 u' pos' ∧ RC u' 6 c' P W' ∧ VR c' P W' 0 ∧ ∀ v0 v M, (∀ i, i < n → v0.1 121 i = T i) → MSt n v0 v pos c → 10 < M + W → ∃ y v', lp (fun s : Int32 × Um => fX8_isRead_b105 s.1 s.2) M ((1 : Int32), v) = some (1, y, v') ∧ MSt n v0 v' pos' c')
  | 0, W, u, pos, c, hg, hW, _, _, _, N, _ => by omega
  | g + 1, W, u, pos, c, hg, hW, h, hR, hV, N, hN => by
    match N, hN with
    | 0, hN => omega
    | 1, hN => omega
    | N + 2, hN =>
    rcases wrongI hn hT h hR hV hP2 hW with ⟨pos1, u1, e1, hs1, hv⟩ | ⟨pos1, u1, c1, e1, hs1, hR1, hV1, hv⟩
    · refine Or.inl ⟨pos1, u1, nI (W + 1), ?_, hs1, fun v0 v M hT' hm hM => ?_⟩
      · rw [e1, bd2s]
        refine lp_1 (by decide) ?_
        show fX6_takeWrongs_b8 6 0 (nI (W + 1)) u1 = _
        unfold fX6_takeWrongs_b8
        rw [if_pos rfl]
      · obtain ⟨v', e2, hm2⟩ := hv v0 v hT' hm
        cases M with
        | zero => omega
        | succ M =>
          refine ⟨1, v', c, lp_1 (by decide) ?_, hm2⟩
          show fX8_isRead_b105 1 v = _
          unfold fX8_isRead_b105
          rw [if_neg i10, e2, bd2s, if_pos rfl]
    · -- the wrong is read
      have refstop : ∀ (v' : Um) (M : Nat), lp (fun s : Int32 × Um => fX8_isRead_b105 s.1 s.2) (M + 1) ((0 : Int32), v') = some (1, 0, v') := by
        intro v' M
        refine lp_1 (by decide) ?_
        show fX8_isRead_b105 0 v' = _
        unfold fX8_isRead_b105
        rw [if_pos rfl]
      have refhead : ∀ v0 v v', MSt n v0 v' pos1 c1 → fX8_isWrongItem v = some (1, v') → fX8_isRead_b105 1 v = if (8 : Int32) ≤ nI (W + 1) then some (0, 0, v') else bd2 (fX8_isSign 44 v') (fun v30 u31 => if v30 = 0 then some (0, 0, u31) else some (0, 1, u31)) := by
        intro v0 v v' hm' e2
        unfold fX8_isRead_b105 fX8_isRead_j142 fX8_isRead_j143
        rw [if_neg i10, e2, bd2s, if_neg i10, if_pos b283, cl2, hm'.2.2.1 2 (by decide), hV1.2.1]
      by_cases h8 : W + 1 = 8
      · refine Or.inr ⟨pos1, u1, c1, W + 1, nI (W + 1), by omega, ?_, hs1, hR1, hV1, fun v0 v M hT' hm hM => ?_⟩
        · rw [e1, bd2s]
          refine lp_1 (by decide) ?_
          show fX6_takeWrongs_b8 6 1 (nI (W + 1)) u1 = _
          unfold fX6_takeWrongs_b8
          rw [if_neg i10, if_pos (by rw [lel8 (by omega)]; omega)]
        · obtain ⟨v', e2, hm2⟩ := hv v0 v hT' hm
          match M, hM with
          | 0, hM => omega
          | 1, hM => omega
          | M + 2, hM =>
            refine ⟨0, v', ?_, hm2⟩
            rw [lp_0 (s' := ((0 : Int32), v')), refstop]
            show fX8_isRead_b105 1 v = _
            rw [refhead v0 v v' hm2 e2, if_pos (by rw [lel8 (by omega)]; omega)]
      · have n8 : ¬ (8 : Int32) ≤ nI (W + 1) := by rw [lel8 (by omega)]; omega
        by_cases h44 : pk T n pos1 = 44
        · have lt1 : pos1 < n := pkk_lt (T := T) (by rw [h44]; decide)
          have ih := wrongs hn hT hP2 g (W + 1) (sI u1 1 2 (nI (pos1 + 1))) (pos1 + 1) c1 (by omega) (by omega) (CSt_adv hs1 lt1) (RC_adv hR1) hV1 (N + 1) (by omega)
          have hlp : bd2 (fX6_takeWrong 6 u) (fun v2 u3 => lp (fun s : Int32 × Int32 × Um => fX6_takeWrongs_b8 6 s.1 s.2.1 s.2.2) (N + 2) (v2, nI (W + 1), u3)) = bd2 (fX6_takeWrong 6 (sI u1 1 2 (nI (pos1 + 1)))) (fun v2 u3 => lp (fun s : Int32 × Int32 × Um => fX6_takeWrongs_b8 6 s.1 s.2.1 s.2.2) (N + 1) (v2, nI (W + 1 + 1), u3)) := by
            rw [e1, bd2s]
            show (fX6_takeWrongs_b8 6 1 (nI (W + 1)) u1).bind _ = _
            unfold fX6_takeWrongs_b8
            rw [if_neg i10, if_neg n8, (sign_c hn hT hs1 44).1 h44, bd2s, if_neg i10]
            cases hx : fX6_takeWrong 6 (sI u1 1 2 (nI (pos1 + 1))) with
            | none => rfl
            | some q =>
              obtain ⟨q1, q2⟩ := q
              rw [bd2s, bd2s, nI_1]
              rfl
          have refstep : ∀ (v0 v : Um), (∀ i, i < n → v0.1 121 i = T i) → MSt n v0 v pos c → ∃ v', MSt n v0 v' (pos1 + 1) c1 ∧ ∀ M, lp (fun s : Int32 × Um => fX8_isRead_b105 s.1 s.2) (M + 1) ((1 : Int32), v) = lp (fun s : Int32 × Um => fX8_isRead_b105 s.1 s.2) M ((1 : Int32), v') := by
            intro v0 v hT' hm
            obtain ⟨v', e2, hm2⟩ := hv v0 v hT' hm
            refine ⟨_, MSt_adv hm2, fun M => lp_0 ?_⟩
            show fX8_isRead_b105 1 v = _
            rw [refhead v0 v v' hm2 e2, if_neg n8, (sign_m hn hT' hs1.1 hm2 44).1 h44, bd2s, if_neg i10]
          rw [hlp]
          rcases ih with ⟨pos', u', x, a1, a2, a3⟩ | ⟨pos', u', c', W', x, a0, a1, a2, a3, a4, a5⟩
          · refine Or.inl ⟨pos', u', x, a1, a2, fun v0 v M hT' hm hM => ?_⟩
            obtain ⟨v', hm', hl⟩ := refstep v0 v hT' hm
            cases M with
            | zero => omega
            | succ M => rw [hl M]; exact a3 v0 v' M hT' hm' (by omega)
          · refine Or.inr ⟨pos', u', c', W', x, a0, a1, a2, a3, a4, fun v0 v M hT' hm hM => ?_⟩
            obtain ⟨v', hm', hl⟩ := refstep v0 v hT' hm
            cases M with
            | zero => omega
            | succ M => rw [hl M]; exact a5 v0 v' M hT' hm' (by omega)
        · refine Or.inr ⟨pos1, u1, c1, W + 1, nI (W + 1), by omega, ?_, hs1, hR1, hV1, fun v0 v M hT' hm hM => ?_⟩
          · rw [e1, bd2s]
            refine lp_1 (by decide) ?_
            show fX6_takeWrongs_b8 6 1 (nI (W + 1)) u1 = _
            unfold fX6_takeWrongs_b8
            rw [if_neg i10, if_neg n8, (sign_c hn hT hs1 44).2 h44, bd2s, if_pos rfl]
          · obtain ⟨v', e2, hm2⟩ := hv v0 v hT' hm
            match M, hM with
            | 0, hM => omega
            | 1, hM => omega
            | M + 2, hM =>
              refine ⟨0, v', ?_, hm2⟩
              rw [lp_0 (s' := ((0 : Int32), v')), refstop]
              show fX8_isRead_b105 1 v = _
              rw [refhead v0 v v' hm2 e2, if_neg n8, (sign_m hn hT' hs1.1 hm2 44).2 h44, bd2s, if_pos rfl]
theorem clr_m (v : Um) : ∃ v', lp (fun s : Int32 × Um => fX8_isRead_b2 s.1 s.2) fuel ((0 : Int32), v) = some (1, nI 83, v') ∧ (∀ r, r ≠ 123 → v'.1 r = v.1 r) ∧ v'.2 = v.2 ∧ ∀ i, i < 83 → v'.1 123 i = 0 := by
  obtain ⟨e, q, h, he, h0, h1, h2, h3⟩ := lp_inv (body := fun s : Int32 × Um => fX8_isRead_b2 s.1 s.2) (fun k s => s.1 = nI k ∧ (∀ r, r ≠ 123 → s.2.1 r = v.1 r) ∧ s.2.2 = v.2 ∧ ∀ j, j < k → s.2.1 123 j = 0) (fun e s => e = 1 ∧ s.1 = nI 83 ∧ (∀ r, r ≠ 123 → s.2.1 r = v.1 r) ∧ s.2.2 = v.2 ∧ ∀ j, j < 83 → s.2.1 123 j = 0) 83 (by omega) (fun k s hk hs' => by
    obtain ⟨x, w⟩ := s
    obtain ⟨h1, h2, h3, h4⟩ := hs'
    dsimp only at h1 h2 h3 h4
    subst h1
    show (_ ∧ ∃ s', fX8_isRead_b2 (nI k) w = _ ∧ _) ∨ (∃ e s', _ ∧ fX8_isRead_b2 (nI k) w = _ ∧ _)
    unfold fX8_isRead_b2
    by_cases hk10 : k < 83
    · rw [if_neg (show ¬ (83 : Int32) ≤ nI k from nI_ge (b := 83) hk10 (by decide)), if_pos (inbN hk10 (by decide)), nI_clamp (by omega)]
      simp only [nm, nI_1]
      refine Or.inl ⟨hk10, _, rfl, rfl, fun r hr => by rw [sI_ne hr]; exact h2 r hr, h3, fun j hj => ?_⟩
      show (sI w 123 k 0).1 123 j = _
      by_cases hjk : j = k
      · subst hjk; exact sI_eq
      · rw [sI_ot hjk]; exact h4 j (by omega)
    · have : k = 83 := by omega
      subst this
      rw [if_pos (by decide)]
      exact Or.inr ⟨1, _, by decide, rfl, rfl, rfl, h2, h3, h4⟩) (s := ((0 : Int32), v)) ⟨rfl, fun _ _ => rfl, rfl, fun j hj => absurd hj (Nat.not_lt_zero j)⟩
  subst he
  obtain ⟨a1, a2⟩ := q
  dsimp only at h0 h1 h2 h3
  subst h0
  exact ⟨a2, h, h1, h2, h3⟩
end READ3
