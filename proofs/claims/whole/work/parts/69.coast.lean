/-! ===== coast ===== -/
theorem i6t : (6 : Int32).toInt = (6 : Nat) := by decide
theorem i1t : (1 : Int32).toInt = (1 : Nat) := by decide
def c00 (cnt : Nat) : Nat → Int32 := upd (fun _ => 0) 1 (nI cnt)
theorem readInto {n : Nat} {u : Um} (hn : n ≤ 130) (hlen : u.1 1 1 = nI n) :
    (∃ pos u', pos ≤ n ∧ fX6_readInto 6 u = some (nI pos, u') ∧ CSt n u u' pos ∧ ∀ v, (∀ i, i < n → v.1 121 i = u.1 2 i) → v.1 117 3 = nI n → ∃ v' c', fX8_isRead v = some (0, v') ∧ MSt n v v' pos c') ∨
    (∃ u' P W dd c pos, 2 ≤ P ∧ 1 ≤ W ∧ dd ≤ 1 ∧ fX6_readInto 6 u = some (-1, u') ∧ CSt n u u' pos ∧ RC u' 6 c P W ∧ VR c P W dd ∧ ∀ v, (∀ i, i < n → v.1 121 i = u.1 2 i) → v.1 117 3 = nI n → ∃ v', fX8_isRead v = some (1, v') ∧ MSt n v v' pos c) := by
  have hT : ∀ i, i < n → u.1 2 i = u.1 2 i := fun _ _ => rfl
  have s0 : CSt n u (sI (sI (sI (sI u 1 2 0) 6 2 0) 6 3 0) 6 4 0) 0 := ⟨Nat.zero_le _, by rw [sI_ne (by decide), sI_ne (by decide), sI_ne (by decide), sI_ot (by decide)]; exact hlen, by rw [sI_ne (by decide), sI_ne (by decide), sI_ne (by decide), sI_eq]; rfl, fun k k1 k6 k7 k8 => by rw [sI_ne k6, sI_ne k6, sI_ne k6, sI_ne k1], rfl⟩
  have r0 : ∀ c : Nat → Int32, c 2 = 0 → c 0 = 0 → RC (sI (sI (sI (sI u 1 2 0) 6 2 0) 6 3 0) 6 4 0) 6 (upd c 1 (nI 0)) 0 0 := fun c h2 h0 => ⟨by rw [sI_ot (by decide), sI_ot (by decide), sI_eq, pk_us]; rfl, by rw [sI_ot (by decide), sI_eq, pk_un (by decide), h2], by rw [sI_eq, pk_un (by decide), h0], fun p k hp => absurd hp (Nat.not_lt_zero p), fun w k hw => absurd hw (Nat.not_lt_zero w)⟩
  have start : ∀ v : Um, v.1 117 3 = nI n → ∃ v1, MSt n v v1 0 (fun _ => 0) ∧ fX8_isRead v = bd2 (fX8_isSign 114 v1) (fun v9 u10 => if v9 = 0 then some (0, u10) else bd2 (fX8_figure 2 6 (-1) u10) (fun v12 u13 => if 0 ≤ v12 then bd3 (lp (fun s : Int32 × Um => fX8_isRead_b61 v12 s.1 s.2) fuel ((0 : Int32), sI u13 123 1 v12)) (fun e24 v22 u23 => if e24 = 1 then bd3 (lp (fun s : Int32 × Um => fX8_isRead_b105 s.1 s.2) fuel ((1 : Int32), u23)) (fun e34 v32 u33 => if e34 = 1 then bd2 (fX8_isSign 59 u33) (fun v37 u38 => if v37 = 0 then some (0, u38) else bd2 (fX8_figure 0 1 (-1) u38) (fun v40 u41 => if ((sI u41 123 0 v40).1 123 0) < 0 then some (0, sI u41 123 0 v40) else if ((sI u41 123 0 v40).1 117 5) = ((sI u41 123 0 v40).1 117 3) then some (1, sI u41 123 0 v40) else some (0, sI u41 123 0 v40))) else some (0, u33)) else some (0, u23)) else some (0, u13))) := by
    intro v hv
    obtain ⟨w, e1, g1, g2, g3⟩ := clr_m v
    refine ⟨sI w 117 5 0, ⟨by rw [sI_ot (by decide), g1 117 (by decide)]; exact hv, sI_eq, fun i hi => by rw [sI_ne (by decide)]; exact g3 i hi, fun k k1 k2 => by rw [sI_ne k1, g1 k k2], by rw [sI_ot (by decide), g1 117 (by decide)], g2⟩, ?_⟩
    unfold fX8_isRead
    rw [e1, bd3s]
    simp only [nm, b183, b083, if_true, cl0, cl1]
  unfold fX6_readInto
  simp only [nm]
  rw [show fX0_clear 6 (sI u 1 2 0) = some (sI (sI (sI (sI u 1 2 0) 6 2 0) 6 3 0) 6 4 0) from rfl, bd1s]
  generalize hU : sI (sI (sI (sI u 1 2 0) 6 2 0) 6 3 0) 6 4 0 = w0 at s0 r0
  have j75 : ∀ x, fX6_readInto_j75 6 x = some (x.1 1 2, x) := fun x => rfl
  have j76 : ∀ x, fX6_readInto_j76 6 1 x = some (-1, x) := fun x => rfl
  by_cases f1 : pk (u.1 2) n 0 = 114
  rotate_left
  · rw [(sign_c hn hT s0 114).2 f1, bd2s, if_pos rfl, j75, s0.2.2.1]
    refine Or.inl ⟨0, _, Nat.zero_le _, rfl, s0, fun v hT' hv => ?_⟩
    obtain ⟨v1, hm, e⟩ := start v hv
    refine ⟨v1, _, ?_, hm⟩
    rw [e, (sign_m hn hT' (Nat.zero_le _) hm 114).2 f1, bd2s, if_pos rfl]
  have lt0 : 0 < n := pkk_lt (T := u.1 2) (by rw [f1]; decide)
  have s1 := CSt_adv s0 lt0
  rw [(sign_c hn hT s0 114).1 f1, bd2s, if_neg i10]
  unfold fX6_takePeople
  by_cases f2 : fgOK (pk (u.1 2) n (0 + 1) - 48) 2 6
  rotate_left
  · rw [(fig_c hn hT s1 2 6).2 f2, bd2s, if_pos rfl, bd2s, if_pos rfl, j75, s1.2.2.1]
    refine Or.inl ⟨0 + 1, _, s1.1, rfl, s1, fun v hT' hv => ?_⟩
    obtain ⟨v1, hm, e⟩ := start v hv
    refine ⟨_, _, ?_, MSt_adv hm⟩
    rw [e, (sign_m hn hT' (Nat.zero_le _) hm 114).1 f1, bd2s, if_neg i10, (fig_m hn hT' s1.1 (MSt_adv hm) 2 6 (-1)).2 (fun e => f2 e.1), bd2s, if_neg (by decide)]
  obtain ⟨cnt, c2, c6, ec, lt1⟩ := fg_nat (l := 2) i6t (by decide) f2 (by decide)
  have s2 := CSt_adv s1 lt1
  rw [(fig_c hn hT s1 2 6).1 f2, bd2s, ec, if_neg (neg1_nI (by omega))]
  have refA : ∀ v, (∀ i, i < n → v.1 121 i = u.1 2 i) → v.1 117 3 = nI n → ∃ v2, MSt n v v2 (0 + 1 + 1) (c00 cnt) ∧ fX8_isRead v = bd3 (lp (fun s : Int32 × Um => fX8_isRead_b61 (nI cnt) s.1 s.2) fuel (nI 0, v2)) (fun e24 v22 u23 => if e24 = 1 then bd3 (lp (fun s : Int32 × Um => fX8_isRead_b105 s.1 s.2) fuel ((1 : Int32), u23)) (fun e34 v32 u33 => if e34 = 1 then bd2 (fX8_isSign 59 u33) (fun v37 u38 => if v37 = 0 then some (0, u38) else bd2 (fX8_figure 0 1 (-1) u38) (fun v40 u41 => if ((sI u41 123 0 v40).1 123 0) < 0 then some (0, sI u41 123 0 v40) else if ((sI u41 123 0 v40).1 117 5) = ((sI u41 123 0 v40).1 117 3) then some (1, sI u41 123 0 v40) else some (0, sI u41 123 0 v40))) else some (0, u33)) else some (0, u23)) := by
    intro v hT' hv
    obtain ⟨v1, hm, e⟩ := start v hv
    have hm2 := MSt_adv (MSt_adv hm)
    obtain ⟨a1, a2, a3, a4, a5, a6⟩ := hm2
    refine ⟨sI (sI (sI v1 117 5 (nI (0 + 1))) 117 5 (nI (0 + 1 + 1))) 123 1 (nI cnt), ⟨by rw [sI_ne (by decide)]; exact a1, by rw [sI_ne (by decide)]; exact a2, by rw [sI_row]; exact upd83 a3 1 rfl, fun k k1 k2 => by rw [sI_ne k2]; exact a4 k k1 k2, by rw [sI_ne (by decide)]; exact a5, a6⟩, ?_⟩
    rw [e, (sign_m hn hT' (Nat.zero_le _) hm 114).1 f1, bd2s, if_neg i10, (fig_m hn hT' s1.1 (MSt_adv hm) 2 6 (-1)).1 ⟨f2, by rw [ec]; exact neg1_nI (by omega)⟩, bd2s, ec, if_pos (nI_pos' (by omega))]
    rfl
  have k1 : c00 cnt 1 = nI cnt := pk_us
  have k0 : ∀ i, i ≠ 1 → c00 cnt i = 0 := fun i hi => pk_un hi
  have hpe := people hn hT c2 c6 cnt 0 (sI (sI w0 1 2 (nI (0 + 1))) 1 2 (nI (0 + 1 + 1))) (0 + 1 + 1) (c00 cnt) (by omega) (by omega) s2 (RC_adv (RC_adv (r0 _ (k0 2 (by decide)) (k0 0 (by decide))))) k1 (k0 2 (by decide)) (k0 0 (by decide)) (fun q _ _ => k0 _ (by omega)) (fun i hi => by
    rcases hi with ⟨k, p, hk, hp, rfl⟩ | ⟨k, w, hk, hw, rfl⟩
    · exact absurd hp (Nat.not_lt_zero p)
    · exact absurd hw (Nat.not_lt_zero w)) 4999 (by omega)
  have hl : lp (fun s : Int32 × Um => fX6_takePeople_b17 6 (nI cnt) s.1 s.2) fuel ((0 : Int32), sI (sI w0 1 2 (nI (0 + 1))) 1 2 (nI (0 + 1 + 1))) = (fX6_takePeople_j35 6 (nI cnt) (nI 0) (sI (sI w0 1 2 (nI (0 + 1))) 1 2 (nI (0 + 1 + 1)))).bind (fun q => if q.1 = 0 then lp (fun s : Int32 × Um => fX6_takePeople_b17 6 (nI cnt) s.1 s.2) 4999 q.2 else some q) := by
    rw [fuel_eq]
    show (fX6_takePeople_b17 6 (nI cnt) (nI 0) _).bind _ = _
    have e : ∀ x, fX6_takePeople_b17 6 (nI cnt) (nI 0) x = fX6_takePeople_j35 6 (nI cnt) (nI 0) x := by
      intro x
      unfold fX6_takePeople_b17
      rw [if_neg (nI_ge (by omega) (by omega)), if_pos (by decide)]
    rw [e]
  rw [hl]
  rcases hpe with ⟨pos, u1, x, a1, a2, a3⟩ | ⟨pos, u1, c1, a1, a2, a3, a4, a5, a6⟩
  · rw [a1, bd3s, if_neg (by decide), bd2s, if_pos rfl, j75, a2.2.2.1]
    refine Or.inl ⟨pos, u1, a2.1, rfl, a2, fun v hT' hv => ?_⟩
    obtain ⟨v2, hm, e⟩ := refA v hT' hv
    obtain ⟨y, v3, c', b1, b2⟩ := a3 v v2 fuel hT' hm (by rw [fuel_eq]; omega)
    refine ⟨v3, c', ?_, b2⟩
    rw [e, b1, bd3s, if_neg (by decide)]
  rw [a1, bd3s, if_pos rfl, bd2s, if_neg i10]
  by_cases f3 : pk (u.1 2) n pos = 59
  rotate_left
  · rw [(sign_c hn hT a2 59).2 f3, bd2s, if_pos rfl, j75, a2.2.2.1]
    refine Or.inl ⟨pos, u1, a2.1, rfl, a2, fun v hT' hv => ?_⟩
    obtain ⟨v2, hm, e⟩ := refA v hT' hv
    obtain ⟨y, v3, b1, b2⟩ := a6 f3 v v2 fuel hT' hm (by rw [fuel_eq]; omega)
    refine ⟨v3, c1, ?_, b2⟩
    rw [e, b1, bd3s, if_neg (by decide)]
  have lt2 : pos < n := pkk_lt (T := u.1 2) (by rw [f3]; decide)
  have s3 := CSt_adv a2 lt2
  rw [(sign_c hn hT a2 59).1 f3, bd2s, if_neg i10]
  have refB : ∀ v, (∀ i, i < n → v.1 121 i = u.1 2 i) → v.1 117 3 = nI n → ∃ v3, MSt n v v3 (pos + 1) c1 ∧ fX8_isRead v = bd3 (lp (fun s : Int32 × Um => fX8_isRead_b105 s.1 s.2) fuel ((1 : Int32), v3)) (fun e34 v32 u33 => if e34 = 1 then bd2 (fX8_isSign 59 u33) (fun v37 u38 => if v37 = 0 then some (0, u38) else bd2 (fX8_figure 0 1 (-1) u38) (fun v40 u41 => if ((sI u41 123 0 v40).1 123 0) < 0 then some (0, sI u41 123 0 v40) else if ((sI u41 123 0 v40).1 117 5) = ((sI u41 123 0 v40).1 117 3) then some (1, sI u41 123 0 v40) else some (0, sI u41 123 0 v40))) else some (0, u33)) := by
    intro v hT' hv
    obtain ⟨v2, hm, e⟩ := refA v hT' hv
    obtain ⟨y, v3, b1, b2⟩ := a5 f3 v v2 fuel hT' hm (by rw [fuel_eq]; omega)
    refine ⟨v3, b2, ?_⟩
    rw [e, b1, bd3s, if_pos rfl]
  unfold fX6_takeWrongs
  have hwr := wrongs hn hT c2 8 0 (sI u1 1 2 (nI (pos + 1))) (pos + 1) c1 rfl (by decide) s3 (RC_adv a3) a4 fuel (by rw [fuel_eq]; omega)
  have hww : ∀ {α : Type} (K : Nat → Int32 → Int32 → Um → Option α), (bd2 (fX6_takeWrong 6 (sI u1 1 2 (nI (pos + 1)))) fun v2 u3 => bd4 (lp (fun s : Int32 × Int32 × Um => fX6_takeWrongs_b8 6 s.1 s.2.1 s.2.2) fuel (v2, (1 : Int32), u3)) K) = bd4 (bd2 (fX6_takeWrong 6 (sI u1 1 2 (nI (pos + 1)))) (fun v2 u3 => lp (fun s : Int32 × Int32 × Um => fX6_takeWrongs_b8 6 s.1 s.2.1 s.2.2) fuel (v2, nI (0 + 1), u3))) K := by
    intro α K
    cases fX6_takeWrong 6 (sI u1 1 2 (nI (pos + 1))) with
    | none => rfl
    | some q => obtain ⟨q1, q2⟩ := q; rfl
  rw [hww]
  rcases hwr with ⟨pos2, u2, x, b1, b2, b3⟩ | ⟨pos2, u2, c3, W, x, b0, b1, b2, b3, b4, b5⟩
  · rw [b1, bd4s, if_pos (Or.inl rfl), bd2s, if_pos rfl, j75, b2.2.2.1]
    refine Or.inl ⟨pos2, u2, b2.1, rfl, b2, fun v hT' hv => ?_⟩
    obtain ⟨v3, hm, e⟩ := refB v hT' hv
    obtain ⟨y, v4, c', d1, d2⟩ := b3 v v3 fuel hT' hm (by rw [fuel_eq]; omega)
    refine ⟨v4, c', ?_, d2⟩
    rw [e, d1, bd3s, if_neg (by decide)]
  rw [b1, bd4s, if_pos (Or.inr rfl), bd2s, if_neg i10]
  have refC : ∀ v, (∀ i, i < n → v.1 121 i = u.1 2 i) → v.1 117 3 = nI n → ∃ v4, MSt n v v4 pos2 c3 ∧ fX8_isRead v = bd2 (fX8_isSign 59 v4) (fun v37 u38 => if v37 = 0 then some (0, u38) else bd2 (fX8_figure 0 1 (-1) u38) (fun v40 u41 => if ((sI u41 123 0 v40).1 123 0) < 0 then some (0, sI u41 123 0 v40) else if ((sI u41 123 0 v40).1 117 5) = ((sI u41 123 0 v40).1 117 3) then some (1, sI u41 123 0 v40) else some (0, sI u41 123 0 v40))) := by
    intro v hT' hv
    obtain ⟨v3, hm, e⟩ := refB v hT' hv
    obtain ⟨y, v4, d1, d2⟩ := b5 v v3 fuel hT' hm (by rw [fuel_eq]; omega)
    refine ⟨v4, d2, ?_⟩
    rw [e, d1, bd3s, if_pos rfl]
  by_cases f4 : pk (u.1 2) n pos2 = 59
  rotate_left
  · rw [(sign_c hn hT b2 59).2 f4, bd2s, if_pos rfl, j75, b2.2.2.1]
    refine Or.inl ⟨pos2, u2, b2.1, rfl, b2, fun v hT' hv => ?_⟩
    obtain ⟨v4, hm, e⟩ := refC v hT' hv
    refine ⟨v4, c3, ?_, hm⟩
    rw [e, (sign_m hn hT' b2.1 hm 59).2 f4, bd2s, if_pos rfl]
  have lt3 : pos2 < n := pkk_lt (T := u.1 2) (by rw [f4]; decide)
  have s4 := CSt_adv b2 lt3
  rw [(sign_c hn hT b2 59).1 f4, bd2s, if_neg i10]
  unfold fX6_takeDay
  have mday : ∀ (v v4 : Um) (p : Nat) (d : Int32), MSt n v v4 p c3 → MSt n v (sI v4 123 0 d) p (upd c3 0 d) := by
    intro v v4 p d hm
    obtain ⟨a1, a2, a3, a4, a5, a6⟩ := hm
    exact ⟨by rw [sI_ne (by decide)]; exact a1, by rw [sI_ne (by decide)]; exact a2, by rw [sI_row]; exact upd83 a3 0 rfl, fun k k1 k2 => by rw [sI_ne k2]; exact a4 k k1 k2, by rw [sI_ne (by decide)]; exact a5, a6⟩
  by_cases f5 : fgOK (pk (u.1 2) n (pos2 + 1) - 48) 0 1
  rotate_left
  · rw [(fig_c hn hT s4 0 1).2 f5, bd2s, if_pos rfl, bd2s, if_pos rfl, j75, s4.2.2.1]
    refine Or.inl ⟨pos2 + 1, _, s4.1, rfl, s4, fun v hT' hv => ?_⟩
    obtain ⟨v4, hm, e⟩ := refC v hT' hv
    refine ⟨_, _, ?_, mday v _ _ (-1) (MSt_adv hm)⟩
    rw [e, (sign_m hn hT' b2.1 hm 59).1 f4, bd2s, if_neg i10, (fig_m hn hT' s4.1 (MSt_adv hm) 0 1 (-1)).2 (fun e => f5 e.1), bd2s, sI_eq, if_pos (by decide)]
  obtain ⟨dd, -, d1, ed, lt4⟩ := fg_nat (l := 0) i1t (by decide) f5 (by decide)
  have s5 := CSt_adv s4 lt4
  have hR5 := RC_adv (x := nI (pos2 + 1 + 1)) (RC_adv (x := nI (pos2 + 1)) b3)
  have hP := b4.2.2.2.1
  have hW := b4.2.2.2.2.1
  rw [(fig_c hn hT s4 0 1).1 f5, bd2s, ed, if_neg (neg1_nI (by omega))]
  rw [show ∀ x, fX0_setDay 6 (nI dd) x = some (sI x 6 4 (nI dd)) from fun x => rfl, bd1s, bd2s, if_neg i10]
  generalize hUU : sI (sI (sI u2 1 2 (nI (pos2 + 1))) 1 2 (nI (pos2 + 1 + 1))) 6 4 (nI dd) = w5
  have s6 : CSt n u w5 (pos2 + 1 + 1) := by
    rw [← hUU]
    exact ⟨s5.1, by rw [sI_ne (by decide)]; exact s5.2.1, by rw [sI_ne (by decide)]; exact s5.2.2.1, fun k k1 k6 k7 k8 => by rw [sI_ne k6]; exact s5.2.2.2.1 k k1 k6 k7 k8, s5.2.2.2.2⟩
  have hR6 : RC w5 6 (upd c3 0 (nI dd)) cnt W := by rw [← hUU]; exact RC_day hR5 hP hW
  have hV6 : VR (upd c3 0 (nI dd)) cnt W dd := by
    obtain ⟨q1, q2, q3, q4, q5, q6, q7⟩ := VR_iff.mp b4
    refine VR_iff.mpr ⟨by rw [pk_un (by decide)]; exact q1, by rw [pk_un (by decide)]; exact q2, pk_us, q4, q5, by omega, fun i hi => ?_⟩
    have hi0 : i ≠ 0 := by rcases hi with ⟨k, p, hk, hp, rfl⟩ | ⟨k, w, hk, hw, rfl⟩ <;> omega
    rw [pk_un hi0]
    exact okv_day (q7 i hi) (Nat.zero_le _)
  rw [s6.2.1, s6.2.2.1]
  have refD : ∀ v, (∀ i, i < n → v.1 121 i = u.1 2 i) → v.1 117 3 = nI n → ∃ v6, MSt n v v6 (pos2 + 1 + 1) (upd c3 0 (nI dd)) ∧ fX8_isRead v = if nI (pos2 + 1 + 1) = nI n then some (1, v6) else some (0, v6) := by
    intro v hT' hv
    obtain ⟨v4, hm, e⟩ := refC v hT' hv
    have hm6 := mday v _ _ (nI dd) (MSt_adv (MSt_adv hm))
    refine ⟨_, hm6, ?_⟩
    rw [e, (sign_m hn hT' b2.1 hm 59).1 f4, bd2s, if_neg i10, (fig_m hn hT' s4.1 (MSt_adv hm) 0 1 (-1)).1 ⟨f5, by rw [ed]; exact neg1_nI (by omega)⟩, bd2s, ed, hm6.1, hm6.2.1, sI_eq, if_neg (nI_pos (n := dd) (by omega))]
  by_cases hend : nI (pos2 + 1 + 1) = nI n
  · rw [if_pos hend, j76]
    refine Or.inr ⟨w5, cnt, W, dd, upd c3 0 (nI dd), pos2 + 1 + 1, c2, b0, d1, rfl, s6, hR6, hV6, fun v hT' hv => ?_⟩
    obtain ⟨v6, hm, e⟩ := refD v hT' hv
    refine ⟨v6, ?_, hm⟩
    rw [e, if_pos hend]
  · rw [if_neg hend, j75, s6.2.2.1]
    refine Or.inl ⟨pos2 + 1 + 1, w5, s6.1, rfl, s6, fun v hT' hv => ?_⟩
    obtain ⟨v6, hm, e⟩ := refD v hT' hv
    refine ⟨v6, _, ?_, hm⟩
    rw [e, if_neg hend]
theorem s_coast : S22 fX7_coast fX8_coast := by
  intro u hI
  obtain ⟨i1, i2, i3, ⟨n, hn, t1, t2, t3⟩, i5⟩ := id hI
  unfold fX7_coast
  rcases readInto hn t1 with ⟨pos, u1, hpn, e1, hs, hv⟩ | ⟨u1, P, W, dd, c, pos, hP2, hW1, hd1, e1, hs, hR, hV, hv⟩
  · rw [e1, bd2s, show fX6_clear u1 = some (sI u1 1 1 0) from rfl, bd1s, if_neg (neg1_nI (by omega))]
    have fr : ∀ k, k ≠ 1 → k ≠ 6 → k ≠ 7 → k ≠ 8 → (sI u1 1 1 0).1 k = u.1 k := fun k k1 k6 k7 k8 => by rw [sI_ne k1]; exact hs.2.2.2.1 k k1 k6 k7 k8
    obtain ⟨v', c', e2, hm⟩ := hv (sI u1 1 1 0) (fun i hi => by rw [fr 121 (by decide) (by decide) (by decide) (by decide)]; exact (t3 i hi).1.symm) (by rw [fr 117 (by decide) (by decide) (by decide) (by decide)]; exact t2)
    obtain ⟨m1, m2, m3, m4, m5, m6⟩ := hm
    refine ⟨-100 - nI pos, _, sI v' 117 3 0, rfl, ?_, ?_⟩
    · unfold fX8_coast
      rw [e2, bd2s]
      simp only [nm, if_true]
      rw [sI_ot (by decide), m2]
    · have all : ∀ k, k ≠ 1 → k ≠ 6 → k ≠ 7 → k ≠ 8 → k ≠ 117 → k ≠ 123 → (sI v' 117 3 0).1 k = u.1 k := fun k k1 k6 k7 k8 k9 k10 => by rw [sI_ne k9, m4 k k9 k10, fr k k1 k6 k7 k8]
      refine ⟨IvC_fr i1 (all _ (by omega) (by omega) (by omega) (by omega) (by omega) (by omega)) (all _ (by omega) (by omega) (by omega) (by omega) (by omega) (by omega)) (all _ (by omega) (by omega) (by omega) (by omega) (by omega) (by omega)) (all _ (by omega) (by omega) (by omega) (by omega) (by omega) (by omega)), IvP_fr i2 (fun j hj => all _ (by omega) (by omega) (by omega) (by omega) (by omega) (by omega)) (by rw [sI_ot (by decide), m5, fr 117 (by decide) (by decide) (by decide) (by decide)]), IvM_fr i3 (fun j hj => all _ (by omega) (by omega) (by omega) (by omega) (by omega) (by omega)), ⟨0, by decide, ?_, sI_eq, fun i hi => absurd hi (Nat.not_lt_zero i)⟩, IvS_fr i5 (fun j hj => all _ (by omega) (by omega) (by omega) (by omega) (by omega) (by omega)) (by rw [sI_2, m6, sI_2, hs.2.2.2.2])⟩
      rw [sI_ne (by decide), m4 1 (by decide) (by decide), sI_eq]; rfl
  · rw [e1, bd2s, show fX6_clear u1 = some (sI u1 1 1 0) from rfl, bd1s, if_pos rfl]
    obtain ⟨u2, e3, f1, f2, f3, f4, f5, f6, f7⟩ := copy_spec (a := 3) (b := 6) (by omega) (sI u1 1 1 0)
    have hP := hV.2.2.2.1
    have hW := hV.2.2.2.2.1
    have fr : ∀ k, k ≠ 1 → k ≠ 3 → k ≠ 4 → k ≠ 5 → k ≠ 6 → k ≠ 7 → k ≠ 8 → k ≠ 9 → (sI u2 9 2 0).1 k = u.1 k := fun k k1 k3 k4 k5 k6 k7 k8 k9 => by rw [sI_ne k9, f1 k k3 k4 k5, sI_ne k1]; exact hs.2.2.2.1 k k1 k6 k7 k8
    have hR1 : RC (sI u1 1 1 0) 6 c P W := RC_fr hR (sI_ne (by decide)) (sI_ne (by decide)) (sI_ne (by decide))
    have hR2 : RC u2 3 c P W := RC_copy hR1 hP hW f3 f4 f5 f6 f7
    obtain ⟨v', e2, hm⟩ := hv (sI u2 9 2 0) (fun i hi => by rw [fr 121 (by decide) (by decide) (by decide) (by decide) (by decide) (by decide) (by decide) (by decide)]; exact (t3 i hi).1.symm) (by rw [fr 117 (by decide) (by decide) (by decide) (by decide) (by decide) (by decide) (by decide) (by decide)]; exact t2)
    obtain ⟨m1, m2, m3, m4, m5, m6⟩ := hm
    obtain ⟨v3, e4, g1, g2, g3, g4⟩ := bring_spec (s := 123) (d := 122) (i0 := 0) (j0 := 0) (n := 83) (I := 0) (J := 0) (N := 83) rfl rfl rfl (by rw [ln123]; omega) (by rw [ln122]; omega) (by rw [ln123]; omega) (by rw [ln122]; omega) (Or.inl (by decide)) (by decide) (sI v' 117 3 0)
    have row : eq83 (v3.1 122) c := fun i hi => by
      have := g4 i hi
      rw [Nat.zero_add, sI_ne (by decide)] at this
      rw [this]
      exact m3 i hi
    refine ⟨nI W, sI u2 9 2 0, sI v3 117 12 0, ?_, ?_, ?_⟩
    · rw [e3, bd1s]
      unfold fX3_forget fX0_wrongs
      simp only [nm]
      rw [bd1s, bd1s, sI_ne (by decide), hR2.2.1, hV.2.1]
    · unfold fX8_coast
      rw [e2, bd2s]
      simp only [nm]
      rw [if_neg i10, e4, bd1s, if_pos b283, cl2, sI_ne (by decide), row 2 (by decide), hV.2.1]
    · have all : ∀ k, k ≠ 1 → k ≠ 3 → k ≠ 4 → k ≠ 5 → k ≠ 6 → k ≠ 7 → k ≠ 8 → k ≠ 9 → k ≠ 117 → k ≠ 122 → k ≠ 123 → (sI v3 117 12 0).1 k = u.1 k := fun k k1 k3 k4 k5 k6 k7 k8 k9 k10 k11 k12 => by rw [sI_ne k10, g1 k k11, sI_ne k10, m4 k k10 k12, fr k k1 k3 k4 k5 k6 k7 k8 k9]
      have m3' : ∀ k, k = 3 ∨ k = 4 ∨ k = 5 → (sI v3 117 12 0).1 k = u2.1 k := fun k hk => by rw [sI_ne (by omega), g1 k (by omega), sI_ne (by omega), m4 k (by omega) (by omega), sI_ne (by omega)]
      have m9 : (sI v3 117 12 0).1 9 = upd (u.1 9) 2 0 := by rw [sI_ne (by decide), g1 9 (by decide), sI_ne (by decide), m4 9 (by decide) (by decide), sI_row, f1 9 (by decide) (by decide) (by decide), sI_ne (by decide), hs.2.2.2.1 9 (by decide) (by decide) (by decide) (by decide)]
      obtain ⟨nn, nx, hn24, hx, a1, a2, a3, a4⟩ := i2
      have row' : eq83 ((sI v3 117 12 0).1 122) c := by rw [sI_ne (by decide)]; exact row
      refine ⟨Or.inr ⟨P, W, dd, hP2, hW1, by omega, VR_congr hV row', RC_congr (RC_fr hR2 (m3' 3 (by omega)) (m3' 4 (by omega)) (m3' 5 (by omega))) hP hW row'⟩, ⟨0, nx, by decide, hx, by rw [m9]; exact pk_us, sI_eq, by rw [m9, pk_un (by decide)]; exact a3, fun j hj => absurd hj (Nat.not_lt_zero j)⟩, IvM_fr i3 (fun j hj => all _ (by omega) (by omega) (by omega) (by omega) (by omega) (by omega) (by omega) (by omega) (by omega) (by omega) (by omega)), ⟨0, by decide, ?_, ?_, fun i hi => absurd hi (Nat.not_lt_zero i)⟩, IvS_fr i5 (fun j hj => all _ (by omega) (by omega) (by omega) (by omega) (by omega) (by omega) (by omega) (by omega) (by omega) (by omega) (by omega)) (by rw [sI_2, g2, sI_2, m6, sI_2, f2, sI_2, hs.2.2.2.2])⟩
      · rw [sI_ne (by decide), g1 1 (by decide), sI_ne (by decide), m4 1 (by decide) (by decide), sI_ne (by decide), f1 1 (by decide) (by decide) (by decide), sI_eq]; rfl
      · rw [sI_ot (by decide), g1 117 (by decide), sI_eq]; rfl
