/-! ===== a COAST read by both ===== -/
theorem j68n (p j2 j3 j4 : Int32) (u : Um) : fX8_isPerson_j68 p j2 j3 j4 (-1) u = some (0, u) := by
  unfold fX8_isPerson_j68
  rw [if_neg (by decide)]
theorem j49n (p j2 j3 : Int32) (u : Um) : fX8_isPerson_j49 p j2 j3 (-1) u = some (0, u) := by
  unfold fX8_isPerson_j49
  rw [if_neg (by decide), j68n]
theorem i9 : (9 : Int32).toInt = (9 : Nat) := by decide
section READ2
variable {T : Nat → Int32} {n : Nat} {u0 : Um}
theorem person (hn : n ≤ 130) (hT : ∀ i, i < n → u0.1 2 i = T i) {u : Um} {pos p cnt : Nat} {c : Nat → Int32} (h : CSt n u0 u pos) (hR : RC u 6 (upd c 1 (nI p)) p 0) (hp : p < cnt) (hc : cnt ≤ 6) (hc1 : c 1 = nI cnt) (h39 : c (39 + p) = 0) (hok : ∀ i, rel p 0 i → okv cnt 0 i (c i)) :
    (∃ pos' u', fX6_takePerson 6 (nI p) (nI cnt) u = some (0, u') ∧ CSt n u0 u' pos' ∧ ∀ v0 v, (∀ i, i < n → v0.1 121 i = T i) → MSt n v0 v pos c → ∃ v', fX8_isPerson (nI p) v = some (0, v') ∧ MSt n v0 v' pos' c) ∨
    (∃ pos' u' c', fX6_takePerson 6 (nI p) (nI cnt) u = some (1, u') ∧ CSt n u0 u' pos' ∧ RC u' 6 (upd c' 1 (nI (p + 1))) (p + 1) 0 ∧ (∀ i, rel (p + 1) 0 i → okv cnt 0 i (c' i)) ∧ c' 1 = c 1 ∧ c' 2 = c 2 ∧ c' 0 = c 0 ∧ (∀ q, p < q → q < 6 → c' (39 + q) = c (39 + q)) ∧ ∀ v0 v, (∀ i, i < n → v0.1 121 i = T i) → MSt n v0 v pos c → ∃ v', fX8_isPerson (nI p) v = some (1, v') ∧ MSt n v0 v' pos' c') := by
  unfold fX6_takePerson fX6_takeKind
  rw [peek_c hn hT h, bd1s]
  rcases kind_or (pk T n pos) with ⟨k, k1, k5, kne, kc, km⟩ | ⟨kc, km⟩
  rotate_left
  · rw [kc, bd1s, if_pos rfl, bd2s, if_pos rfl]
    refine Or.inl ⟨pos, u, rfl, h, fun v0 v hT' hm => ⟨v, ?_, hm⟩⟩
    unfold fX8_isPerson
    rw [peek_m hn hT' h.1 hm, bd1s, km, bd1s, if_pos rfl]
  have hlt : pos < n := pkk_lt kne
  have hk1 : ¬ nI k = (-1 : Int32) := neg1_nI (by omega)
  have h1 := CSt_adv h hlt
  rw [kc, bd1s, if_neg hk1, h.2.2.1, nI_1]
  simp only [nm]
  rw [bd2s, if_neg hk1]
  have refA : ∀ v0 v, (∀ i, i < n → v0.1 121 i = T i) → MSt n v0 v pos c → fX8_isPerson (nI p) v = bd2 (fX8_figure 0 9 (-1) (sI v 117 5 (nI (pos + 1)))) (fun v7 u8 => if 0 ≤ v7 then bd2 (fX8_figure 0 9 (-1) u8) (fun v10 u11 => fX8_isPerson_j49 (nI p) (nI k) v7 v10 u11) else fX8_isPerson_j49 (nI p) (nI k) v7 (-1) u8) := by
    intro v0 v hT' hm
    unfold fX8_isPerson
    rw [peek_m hn hT' h.1 hm, bd1s, km, bd1s, if_neg (nI_ne0 (by omega) (by omega)), hm.2.1, nI_1]
    rfl
  by_cases f1 : fgOK (pk T n (pos + 1) - 48) 0 9
  rotate_left
  · rw [(fig_c hn hT h1 0 9).2 f1, bd2s, if_pos rfl]
    refine Or.inl ⟨pos + 1, _, rfl, h1, fun v0 v hT' hm => ⟨_, ?_, MSt_adv hm⟩⟩
    rw [refA v0 v hT' hm, (fig_m hn hT' h1.1 (MSt_adv hm) 0 9 (-1)).2 (fun e => f1 e.1), bd2s, if_neg (by decide), j49n]
  obtain ⟨s, -, s9, es, lt1⟩ := fg_nat (l := 0) i9 (by decide) f1 (by decide)
  have h2 := CSt_adv h1 lt1
  rw [(fig_c hn hT h1 0 9).1 f1, bd2s, es, if_neg (neg1_nI (by omega))]
  have refB : ∀ v0 v, (∀ i, i < n → v0.1 121 i = T i) → MSt n v0 v pos c → fX8_isPerson (nI p) v = bd2 (fX8_figure 0 9 (-1) (sI (sI v 117 5 (nI (pos + 1))) 117 5 (nI (pos + 1 + 1)))) (fun v10 u11 => fX8_isPerson_j49 (nI p) (nI k) (nI s) v10 u11) := by
    intro v0 v hT' hm
    rw [refA v0 v hT' hm, (fig_m hn hT' h1.1 (MSt_adv hm) 0 9 (-1)).1 ⟨f1, by rw [es]; exact neg1_nI (by omega)⟩, bd2s, es, if_pos (nI_pos' (by omega))]
  by_cases f2 : fgOK (pk T n (pos + 1 + 1) - 48) 0 9
  rotate_left
  · rw [(fig_c hn hT h2 0 9).2 f2, bd2s, if_pos rfl]
    refine Or.inl ⟨pos + 1 + 1, _, rfl, h2, fun v0 v hT' hm => ⟨_, ?_, MSt_adv (MSt_adv hm)⟩⟩
    rw [refB v0 v hT' hm, (fig_m hn hT' h2.1 (MSt_adv (MSt_adv hm)) 0 9 (-1)).2 (fun e => f2 e.1), bd2s, j49n]
  obtain ⟨hd, -, h9, eh, lt2⟩ := fg_nat (l := 0) i9 (by decide) f2 (by decide)
  have h3 := CSt_adv h2 lt2
  rw [(fig_c hn hT h2 0 9).1 f2, bd2s, eh, if_neg (neg1_nI (by omega))]
  have refC : ∀ v0 v, (∀ i, i < n → v0.1 121 i = T i) → MSt n v0 v pos c → fX8_isPerson (nI p) v = bd2 (fX8_figure 0 9 (-1) (sI (sI (sI v 117 5 (nI (pos + 1))) 117 5 (nI (pos + 1 + 1))) 117 5 (nI (pos + 1 + 1 + 1)))) (fun v13 u14 => fX8_isPerson_j68 (nI p) (nI k) (nI s) (nI hd) v13 u14) := by
    intro v0 v hT' hm
    rw [refB v0 v hT' hm, (fig_m hn hT' h2.1 (MSt_adv (MSt_adv hm)) 0 9 (-1)).1 ⟨f2, by rw [eh]; exact neg1_nI (by omega)⟩, bd2s, eh]
    unfold fX8_isPerson_j49
    rw [if_pos (nI_pos' (by omega))]
  by_cases f3 : fgOK (pk T n (pos + 1 + 1 + 1) - 48) 0 9
  rotate_left
  · rw [(fig_c hn hT h3 0 9).2 f3, bd2s, if_pos rfl]
    refine Or.inl ⟨pos + 1 + 1 + 1, _, rfl, h3, fun v0 v hT' hm => ⟨_, ?_, MSt_adv (MSt_adv (MSt_adv hm))⟩⟩
    rw [refC v0 v hT' hm, (fig_m hn hT' h3.1 (MSt_adv (MSt_adv (MSt_adv hm))) 0 9 (-1)).2 (fun e => f3 e.1), bd2s, j68n]
  obtain ⟨o, -, o9, eo, lt3⟩ := fg_nat (l := 0) i9 (by decide) f3 (by decide)
  have h4 := CSt_adv h3 lt3
  rw [(fig_c hn hT h3 0 9).1 f3, bd2s, eo, if_neg (neg1_nI (by omega))]
  have refD : ∀ v0 v, (∀ i, i < n → v0.1 121 i = T i) → MSt n v0 v pos c → fX8_isPerson (nI p) v = bd2 (fX8_isSign 45 (sI (sI (sI (sI v 117 5 (nI (pos + 1))) 117 5 (nI (pos + 1 + 1))) 117 5 (nI (pos + 1 + 1 + 1))) 117 5 (nI (pos + 1 + 1 + 1 + 1)))) (fun v16 u17 => if v16 = 0 then (if inb 1 83 = true then bd2 (fX8_figure 0 ((u17.1 123 (1 : Int32).toNatClampNeg) - 1) (nI p) u17) (fun v26 u27 => if 0 ≤ v26 then fX8_isPerson_j113 (nI p) (nI k) (nI s) (nI hd) (nI o) v26 u27 else some (0, u27)) else none) else fX8_isPerson_j113 (nI p) (nI k) (nI s) (nI hd) (nI o) (-4) u17) := by
    intro v0 v hT' hm
    rw [refC v0 v hT' hm, (fig_m hn hT' h3.1 (MSt_adv (MSt_adv (MSt_adv hm))) 0 9 (-1)).1 ⟨f3, by rw [eo]; exact neg1_nI (by omega)⟩, bd2s, eo]
    unfold fX8_isPerson_j68
    rw [if_pos (nI_pos' (by omega))]
  have hR4 : RC (sI (sI (sI (sI u 1 2 (nI (pos + 1))) 1 2 (nI (pos + 1 + 1))) 1 2 (nI (pos + 1 + 1 + 1))) 1 2 (nI (pos + 1 + 1 + 1 + 1))) 6 (upd c 1 (nI p)) p 0 := RC_adv (RC_adv (RC_adv (RC_adv hR)))
  have fin : ∀ (w : Int32) (x : Um) (posx : Nat), CSt n u0 x posx → RC x 6 (upd c 1 (nI p)) p 0 → (w = -4 ∨ ∃ q, q < cnt ∧ w = nI q) → ∃ u', fX6_takePerson_j85 6 (nI p) (nI cnt) (nI k) (nI s) (nI hd) (nI o) w x = some (1, u') ∧ CSt n u0 u' posx ∧ RC u' 6 (upd (sPer c p (nI k) (nI s) (nI hd) (nI o) w) 1 (nI (p + 1))) (p + 1) 0 := by
    intro w x posx hx hRx hw
    obtain ⟨u', e1, e2, e3, e4⟩ := per_c (k := nI k) (s := nI s) (h := nI hd) (o := nI o) (w := w) (by omega) hRx h39
    refine ⟨u', ?_, ⟨hx.1, by rw [e2 1 (by decide) (by decide)]; exact hx.2.1, by rw [e2 1 (by decide) (by decide)]; exact hx.2.2.1, fun j j1 j6 j7 j8 => by rw [e2 j j6 j7]; exact hx.2.2.2.1 j j1 j6 j7 j8, e3.trans hx.2.2.2.2⟩, e4⟩
    unfold fX6_takePerson_j85
    rw [if_neg, e1, bd1s]
    rcases hw with rfl | ⟨q, q1, rfl⟩
    · decide
    · exact neg1_nI (by omega)
  have prop : ∀ w : Int32, sPer c p (nI k) (nI s) (nI hd) (nI o) w 1 = c 1 ∧ sPer c p (nI k) (nI s) (nI hd) (nI o) w 2 = c 2 ∧ sPer c p (nI k) (nI s) (nI hd) (nI o) w 0 = c 0 ∧ ∀ q, p < q → q < 6 → sPer c p (nI k) (nI s) (nI hd) (nI o) w (39 + q) = c (39 + q) := by
    intro w
    unfold sPer
    refine ⟨?_, ?_, ?_, fun q h1 h2 => ?_⟩ <;> rw [pk_un (by omega), pk_un (by omega), pk_un (by omega), pk_un (by omega), pk_un (by omega), pk_un (by omega), pk_un (by omega)]
  have mrow : ∀ (w : Int32) (v0 x : Um) (posx : Nat), MSt n v0 x posx c → MSt n v0 (sIr x 123 (sPer (x.1 123) p (nI k) (nI s) (nI hd) (nI o) w)) posx (sPer c p (nI k) (nI s) (nI hd) (nI o) w) := by
    intro w v0 x posx hm
    obtain ⟨a1, a2, a3, a4, a5, a6⟩ := hm
    exact ⟨by rw [sIr_ne (by decide)]; exact a1, by rw [sIr_ne (by decide)]; exact a2, by rw [sIr_at]; exact sPer83 a3 _ _ _ _ _ _, fun j j1 j2 => by rw [sIr_ne j2]; exact a4 j j1 j2, by rw [sIr_ne (by decide)]; exact a5, a6⟩
  by_cases fs : pk T n (pos + 1 + 1 + 1 + 1) = 45
  · have lt4 : pos + 1 + 1 + 1 + 1 < n := pkk_lt (T := T) (by rw [fs]; decide)
    rw [(sign_c hn hT h4 45).1 fs, bd2s, if_neg i10]
    have h5 := CSt_adv h4 lt4
    obtain ⟨u', e1, e2, e3⟩ := fin (-4) _ _ h5 (RC_adv hR4) (Or.inl rfl)
    refine Or.inr ⟨_, u', _, e1, e2, e3, perOK hp hc hok h39 k1 k5 s9 h9 o9 (Or.inl rfl), (prop (-4)).1, (prop (-4)).2.1, (prop (-4)).2.2.1, (prop (-4)).2.2.2, fun v0 v hT' hm => ?_⟩
    have hm4 := MSt_adv (MSt_adv (MSt_adv (MSt_adv hm)))
    refine ⟨_, ?_, mrow (-4) v0 _ _ (MSt_adv hm4)⟩
    rw [refD v0 v hT' hm, (sign_m hn hT' h4.1 hm4 45).1 fs, bd2s, if_neg i10, per_m (by omega)]
  · rw [(sign_c hn hT h4 45).2 fs, bd2s, if_pos rfl]
    have ep : (nI cnt - 1 : Int32) = nI (cnt - 1) := pk_sub (a := cnt) (b := 1) (by omega)
    have refE : ∀ v0 v, (∀ i, i < n → v0.1 121 i = T i) → MSt n v0 v pos c → fX8_isPerson (nI p) v = bd2 (fX8_figure 0 (nI cnt - 1) (nI p) (sI (sI (sI (sI v 117 5 (nI (pos + 1))) 117 5 (nI (pos + 1 + 1))) 117 5 (nI (pos + 1 + 1 + 1))) 117 5 (nI (pos + 1 + 1 + 1 + 1)))) (fun v26 u27 => if 0 ≤ v26 then fX8_isPerson_j113 (nI p) (nI k) (nI s) (nI hd) (nI o) v26 u27 else some (0, u27)) := by
      intro v0 v hT' hm
      have hm4 := MSt_adv (MSt_adv (MSt_adv (MSt_adv hm)))
      rw [refD v0 v hT' hm, (sign_m hn hT' h4.1 hm4 45).2 fs, bd2s, if_pos rfl, if_pos b183, cl1, hm4.2.2.1 1 (by decide), hc1]
    by_cases f5 : fgOK (pk T n (pos + 1 + 1 + 1 + 1) - 48) 0 (nI cnt - 1) ∧ ¬ pk T n (pos + 1 + 1 + 1 + 1) - 48 = nI p
    · obtain ⟨q, -, q1, eq, lt4⟩ := fg_nat (l := 0) (m := cnt - 1) (by rw [ep]; exact nI_toInt (by omega)) (by omega) f5.1 (by decide)
      have h5 := CSt_adv h4 lt4
      have hw : nI q = (-4 : Int32) ∨ ∃ q', q' < cnt ∧ nI q = nI q' := Or.inr ⟨q, by omega, rfl⟩
      rw [(oth_c hn hT h4 (nI p) (nI cnt)).1 f5, bd2s, eq]
      obtain ⟨u', e1, e2, e3⟩ := fin (nI q) _ _ h5 (RC_adv hR4) hw
      refine Or.inr ⟨_, u', _, e1, e2, e3, perOK hp hc hok h39 k1 k5 s9 h9 o9 hw, (prop (nI q)).1, (prop (nI q)).2.1, (prop (nI q)).2.2.1, (prop (nI q)).2.2.2, fun v0 v hT' hm => ?_⟩
      have hm4 := MSt_adv (MSt_adv (MSt_adv (MSt_adv hm)))
      refine ⟨_, ?_, mrow (nI q) v0 _ _ (MSt_adv hm4)⟩
      rw [refE v0 v hT' hm, (fig_m hn hT' h4.1 hm4 0 (nI cnt - 1) (nI p)).1 f5, bd2s, eq, if_pos (nI_pos' (by omega)), per_m (by omega)]
    · rw [(oth_c hn hT h4 (nI p) (nI cnt)).2 f5, bd2s]
      refine Or.inl ⟨_, _, ?_, h4, fun v0 v hT' hm => ⟨_, ?_, MSt_adv (MSt_adv (MSt_adv (MSt_adv hm)))⟩⟩
      · unfold fX6_takePerson_j85
        rw [if_pos rfl]
      · rw [refE v0 v hT' hm, (fig_m hn hT' h4.1 (MSt_adv (MSt_adv (MSt_adv (MSt_adv hm)))) 0 (nI cnt - 1) (nI p)).2 f5, bd2s, if_neg (by decide)]
/-! the PEOPLE one by one -/
theorem people (hn : n ≤ 130) (hT : ∀ i, i < n → u0.1 2 i = T i) {cnt : Nat} (hc2 : 2 ≤ cnt) (hc : cnt ≤ 6) : ∀ (g p : Nat) (u : Um) (pos : Nat) (c : Nat → Int32), cnt - p = g → p < cnt → CSt n u0 u pos → RC u 6 (upd c 1 (nI p)) p 0 → c 1 = nI cnt → c 2 = 0 → c 0 = 0 → (∀ q, p ≤ q → q < 6 → c (39 + q) = 0) → (∀ i, rel p 0 i → okv cnt 0 i (c i)) → ∀ N, cnt < N + p →
    (∃ pos' u' x, (fX6_takePeople_j35 6 (nI cnt) (nI p) u).bind (fun q => if q.1 = 0 then lp (fun s : Int32 × Um => fX6_takePeople_b17 6 (nI cnt) s.1 s.2) N q.2 else some q) = some (2, x, u') ∧ CSt n u0 u' pos' ∧ ∀ v0 v M, (∀ i, i < n → v0.1 121 i = T i) → MSt n v0 v pos c → cnt < M + p → ∃ y v' c', lp (fun s : Int32 × Um => fX8_isRead_b61 (nI cnt) s.1 s.2) M (nI p, v) = some (2, y, v') ∧ MSt n v0 v' pos' c') ∨
    (∃ pos' u' c', (fX6_takePeople_j35 6 (nI cnt) (nI p) u).bind (fun q => if q.1 = 0 then lp (fun s : Int32 × Um => fX6_takePeople_b17 6 (nI cnt) s.1 s.2) N q.2 else some q) = some (1, nI cnt, u') ∧ CSt n u0 u' pos' ∧ RC u' 6 c' cnt 0 ∧ VR c' cnt 0 0 ∧
      (pk T n pos' = 59 → ∀ v0 v M, (∀ i, i < n → v0.1 121 i = T i) → MSt n v0 v pos c → cnt < M + p → ∃ y v', lp (fun s : Int32 × Um => fX8_isRead_b61 (nI cnt) s.1 s.2) M (nI p, v) = some (1, y, v') ∧ MSt n v0 v' (pos' + 1) c') ∧
      (¬ pk T n pos' = 59 → ∀ v0 v M, (∀ i, i < n → v0.1 121 i = T i) → MSt n v0 v pos c → cnt < M + p → ∃ y v', lp (fun s : Int32 × Um => fX8_isRead_b61 (nI cnt) s.1 s.2) M (nI p, v) = some (2, y, v') ∧ MSt n v0 v' pos' c'))
  | 0, p, u, pos, c, hg, hp, _, _, _, _, _, _, _, N, _ => by omega
  | g + 1, p, u, pos, c, hg, hp, h, hR, hc1, hc2', hc0, h39, hok, N, hN => by
    have ep : (nI cnt - 1 : Int32) = nI (cnt - 1) := pk_sub (a := cnt) (b := 1) (by omega)
    unfold fX6_takePeople_j35
    rcases person hn hT h hR hp hc hc1 (h39 p (Nat.le_refl _) (by omega)) hok with ⟨pos1, u1, e1, hs1, hv⟩ | ⟨pos1, u1, c1, e1, hs1, hR1, hok1, d1, d2, d0, d39, hv⟩
    · refine Or.inl ⟨pos1, u1, nI p, ?_, hs1, fun v0 v M hT' hm hM => ?_⟩
      · rw [e1, bd2s, if_pos rfl]; rfl
      · obtain ⟨v', e2, hm2⟩ := hv v0 v hT' hm
        cases M with
        | zero => omega
        | succ M =>
          refine ⟨nI p, v', c, lp_1 (by decide) ?_, hm2⟩
          show fX8_isRead_b61 (nI cnt) (nI p) v = _
          unfold fX8_isRead_b61
          rw [if_neg (nI_ge hp (by omega)), e2, bd2s, if_pos rfl]
    · have cont : ((bd2 (fX6_takePerson 6 (nI p) (nI cnt) u) fun v5 u6 => if v5 = 0 then some ((2 : Nat), nI p, u6) else nm (nI p + 1) fun v7 => some ((0 : Nat), v7, u6)).bind (fun q => if q.1 = 0 then lp (fun s : Int32 × Um => fX6_takePeople_b17 6 (nI cnt) s.1 s.2) N q.2 else some q)) = lp (fun s : Int32 × Um => fX6_takePeople_b17 6 (nI cnt) s.1 s.2) N (nI (p + 1), u1) := by
        rw [e1, bd2s, if_neg i10, nI_1]
        rfl
      rw [cont]
      have refS : ∀ (v0 v v' : Um) (M : Nat), fX8_isPerson (nI p) v = some (1, v') → ∀ z, (if (nI cnt - 1 : Int32) ≤ nI p then (59 : Int32) else 44) = z → fX8_isRead_b61 (nI cnt) (nI p) v = fX8_isRead_j89 (nI cnt) (nI p) z v' := by
        intro v0 v v' M e z hz
        unfold fX8_isRead_b61
        rw [if_neg (nI_ge hp (by omega)), e, bd2s, if_neg i10, ← hz]
        split <;> rfl
      by_cases hlast : p + 1 = cnt
      · -- the last
        subst hlast
        have z59 : (if (nI (p + 1) - 1 : Int32) ≤ nI p then (59 : Int32) else 44) = 59 := by rw [ep, if_pos (nI_le (by omega) (by omega))]
        have hself : upd c1 1 (nI (p + 1)) = c1 := by
          refine funext fun i => ?_
          by_cases hi : i = 1
          · subst hi; rw [pk_us, d1, hc1]
          · rw [pk_un hi]
        rw [hself] at hR1
        refine Or.inr ⟨pos1, u1, c1, ?_, hs1, hR1, VR_iff.mpr ⟨by rw [d1]; exact hc1, by rw [d2, hc2']; rfl, by rw [d0, hc0]; rfl, hc, by decide, by decide, hok1⟩, fun h59 v0 v M hT' hm hM => ?_, fun h59 v0 v M hT' hm hM => ?_⟩
        · cases N with
          | zero => omega
          | succ N =>
            refine lp_1 (by decide) ?_
            show fX6_takePeople_b17 6 (nI (p + 1)) (nI (p + 1)) u1 = _
            unfold fX6_takePeople_b17
            rw [if_pos (nI_le (Nat.le_refl _) (by omega))]
        · obtain ⟨v', e2, hm2⟩ := hv v0 v hT' hm
          match M, hM with
          | 0, hM => omega
          | 1, hM => omega
          | M + 2, hM =>
            refine ⟨nI (p + 1), sI v' 117 5 (nI (pos1 + 1)), ?_, MSt_adv hm2⟩
            rw [lp_0 (s' := (nI (p + 1), sI v' 117 5 (nI (pos1 + 1))))]
            · refine lp_1 (by decide) ?_
              show fX8_isRead_b61 (nI (p + 1)) (nI (p + 1)) _ = _
              unfold fX8_isRead_b61
              rw [if_pos (nI_le (Nat.le_refl _) (by omega))]
            · show fX8_isRead_b61 (nI (p + 1)) (nI p) v = _
              rw [refS v0 v v' 0 e2 59 z59]
              unfold fX8_isRead_j89
              rw [(sign_m hn hT' hs1.1 hm2 59).1 h59, bd2s, if_neg i10, nI_1]
              rfl
        · obtain ⟨v', e2, hm2⟩ := hv v0 v hT' hm
          cases M with
          | zero => omega
          | succ M =>
            refine ⟨nI p, v', lp_1 (by decide) ?_, hm2⟩
            show fX8_isRead_b61 (nI (p + 1)) (nI p) v = _
            rw [refS v0 v v' 0 e2 59 z59]
            unfold fX8_isRead_j89
            rw [(sign_m hn hT' hs1.1 hm2 59).2 h59, bd2s, if_pos rfl]
      · have z44 : (if (nI cnt - 1 : Int32) ≤ nI p then (59 : Int32) else 44) = 44 := by rw [ep, if_neg (nI_ge (by omega) (by omega))]
        cases N with
        | zero => omega
        | succ N =>
          have bodyc : fX6_takePeople_b17 6 (nI cnt) (nI (p + 1)) u1 = bd2 (fX6_takeSign 44 u1) (fun v9 u10 => if v9 = 0 then some (2, nI (p + 1), u10) else fX6_takePeople_j35 6 (nI cnt) (nI (p + 1)) u10) := by
            unfold fX6_takePeople_b17
            rw [if_neg (nI_ge (by omega) (by omega)), if_neg (by rw [ler0 (by omega)]; omega)]
          by_cases h44 : pk T n pos1 = 44
          · have lt1 : pos1 < n := pkk_lt (T := T) (by rw [h44]; decide)
            have ih := people hn hT hc2 hc g (p + 1) (sI u1 1 2 (nI (pos1 + 1))) (pos1 + 1) c1 (by omega) (by omega) (CSt_adv hs1 lt1) (RC_adv hR1) (by rw [d1]; exact hc1) (by rw [d2]; exact hc2') (by rw [d0]; exact hc0) (fun q q1 q2 => by rw [d39 q (by omega) q2]; exact h39 q (by omega) q2) hok1 N (by omega)
            have hlp : lp (fun s : Int32 × Um => fX6_takePeople_b17 6 (nI cnt) s.1 s.2) (N + 1) (nI (p + 1), u1) = (fX6_takePeople_j35 6 (nI cnt) (nI (p + 1)) (sI u1 1 2 (nI (pos1 + 1)))).bind (fun q => if q.1 = 0 then lp (fun s : Int32 × Um => fX6_takePeople_b17 6 (nI cnt) s.1 s.2) N q.2 else some q) := by
              show (fX6_takePeople_b17 6 (nI cnt) (nI (p + 1)) u1).bind _ = _
              rw [bodyc, (sign_c hn hT hs1 44).1 h44, bd2s, if_neg i10]
            have refstep : ∀ (v0 v : Um), (∀ i, i < n → v0.1 121 i = T i) → MSt n v0 v pos c → ∃ v', MSt n v0 v' (pos1 + 1) c1 ∧ ∀ M, lp (fun s : Int32 × Um => fX8_isRead_b61 (nI cnt) s.1 s.2) (M + 1) (nI p, v) = lp (fun s : Int32 × Um => fX8_isRead_b61 (nI cnt) s.1 s.2) M (nI (p + 1), v') := by
              intro v0 v hT' hm
              obtain ⟨v', e2, hm2⟩ := hv v0 v hT' hm
              refine ⟨_, MSt_adv hm2, fun M => lp_0 ?_⟩
              show fX8_isRead_b61 (nI cnt) (nI p) v = _
              rw [refS v0 v v' 0 e2 44 z44]
              unfold fX8_isRead_j89
              rw [(sign_m hn hT' hs1.1 hm2 44).1 h44, bd2s, if_neg i10, nI_1]
              rfl
            rw [hlp]
            rcases ih with ⟨pos', u', x, a1, a2, a3⟩ | ⟨pos', u', c', a1, a2, a3, a4, a5, a6⟩
            · refine Or.inl ⟨pos', u', x, a1, a2, fun v0 v M hT' hm hM => ?_⟩
              obtain ⟨v', hm', hl⟩ := refstep v0 v hT' hm
              cases M with
              | zero => omega
              | succ M => rw [hl M]; exact a3 v0 v' M hT' hm' (by omega)
            · refine Or.inr ⟨pos', u', c', a1, a2, a3, a4, fun h59 v0 v M hT' hm hM => ?_, fun h59 v0 v M hT' hm hM => ?_⟩
              · obtain ⟨v', hm', hl⟩ := refstep v0 v hT' hm
                cases M with
                | zero => omega
                | succ M => rw [hl M]; exact a5 h59 v0 v' M hT' hm' (by omega)
              · obtain ⟨v', hm', hl⟩ := refstep v0 v hT' hm
                cases M with
                | zero => omega
                | succ M => rw [hl M]; exact a6 h59 v0 v' M hT' hm' (by omega)
          · refine Or.inl ⟨pos1, u1, nI (p + 1), ?_, hs1, fun v0 v M hT' hm hM => ?_⟩
            · refine lp_1 (by decide) ?_
              show fX6_takePeople_b17 6 (nI cnt) (nI (p + 1)) u1 = _
              rw [bodyc, (sign_c hn hT hs1 44).2 h44, bd2s, if_pos rfl]
            · obtain ⟨v', e2, hm2⟩ := hv v0 v hT' hm
              cases M with
              | zero => omega
              | succ M =>
                refine ⟨nI p, v', c1, lp_1 (by decide) ?_, hm2⟩
                show fX8_isRead_b61 (nI cnt) (nI p) v = _
                rw [refS v0 v v' 0 e2 44 z44]
                unfold fX8_isRead_j89
                rw [(sign_m hn hT' hs1.1 hm2 44).2 h44, bd2s, if_pos rfl]
end READ2
