/-! ===== copy and log ===== -/
theorem bd3s {α β δ γ : Type} (a : α) (b : β) (d : δ) (k : α → β → δ → Option γ) : bd3 (some (a, b, d)) k = k a b d := rfl
theorem bd4s {α β δ ε γ : Type} (a : α) (b : β) (d : δ) (e : ε) (k : α → β → δ → ε → Option γ) : bd4 (some (a, b, d, e)) k = k a b d e := rfl
theorem nI_eqb {a b : Nat} (ha : a ≤ 24) (e : nI a = nI b) (hb : b ≤ 24) : a = b := (nI_eq (by omega) (by omega)).mp e
theorem cpy_m {s t i j n : Nat} (up : Int32) (hs : s < 4) (ht : t < 4) (hi : i + n ≤ 24) (hj : j + n ≤ 24) (hup : (up = 0 ∧ (s ≠ t ∨ j ≤ i)) ∨ (up = 1 ∧ s = t ∧ i < j)) (u : Um) : ∃ u', lp (fun q : Int32 × Um => fX8_copy_b110 (nI s) (nI i) (nI t) (nI j) (nI n) up q.1 q.2) fuel ((0 : Int32), u) = some (1, nI n, u') ∧ u'.1 = u.1 ∧ (∀ r, r ≠ 120 → u'.2 r = u.2 r) ∧ (∀ q, q < 24 * t + j ∨ 24 * t + j + n ≤ q → u'.2 120 q = u.2 120 q) ∧ ∀ q, q < n → u'.2 120 (24 * t + j + q) = u.2 120 (24 * s + i + q) := by
  have j134 : ∀ (k q : Nat) (w : Um), q < n → fX8_copy_j134 (nI s) (nI i) (nI t) (nI j) (nI n) up (nI k) (nI q) w = some (0, nI (k + 1), sJ w 120 (24 * t + j + q) (w.2 120 (24 * s + i + q))) := by
    intro k q w hq
    unfold fX8_copy_j134
    rw [e24, nI_add, e24, nI_add, if_pos (inbN (by omega) (by decide)), if_pos (inbN (by omega) (by decide)), nI_clamp (by omega), nI_clamp (by omega)]
    simp only [nm, nI_1]
  rcases hup with ⟨hu0, hd⟩ | ⟨hu1, hst, hij⟩
  · obtain ⟨e, q', h, he, h0, h1, h2, h3, h4⟩ := lp_inv (body := fun q : Int32 × Um => fX8_copy_b110 (nI s) (nI i) (nI t) (nI j) (nI n) up q.1 q.2) (fun k q => q.1 = nI k ∧ q.2.1 = u.1 ∧ (∀ r, r ≠ 120 → q.2.2 r = u.2 r) ∧ (∀ x, x < 24 * t + j ∨ 24 * t + j + k ≤ x → q.2.2 120 x = u.2 120 x) ∧ ∀ x, x < k → q.2.2 120 (24 * t + j + x) = u.2 120 (24 * s + i + x)) (fun e q => e = 1 ∧ q.1 = nI n ∧ q.2.1 = u.1 ∧ (∀ r, r ≠ 120 → q.2.2 r = u.2 r) ∧ (∀ x, x < 24 * t + j ∨ 24 * t + j + n ≤ x → q.2.2 120 x = u.2 120 x) ∧ ∀ x, x < n → q.2.2 120 (24 * t + j + x) = u.2 120 (24 * s + i + x)) n (by omega) (fun k q hk hs' => by
      obtain ⟨x', w⟩ := q
      obtain ⟨h1, h2, h3, h4, h5⟩ := hs'
      dsimp only at h1 h2 h3 h4 h5
      subst h1
      show (_ ∧ ∃ s', fX8_copy_b110 (nI s) (nI i) (nI t) (nI j) (nI n) up (nI k) w = _ ∧ _) ∨ (∃ e s', _ ∧ fX8_copy_b110 (nI s) (nI i) (nI t) (nI j) (nI n) up (nI k) w = _ ∧ _)
      unfold fX8_copy_b110
      by_cases hkn : k < n
      · rw [if_neg (nI_ge hkn (by omega)), if_pos hu0, j134 k k w hkn]
        refine Or.inl ⟨hkn, _, rfl, rfl, h2, fun r hr => by rw [sJ_ne hr]; exact h3 r hr, fun x hx => ?_, fun x hx => ?_⟩
        · show (sJ w 120 _ _).2 120 x = _
          rw [sJ_ot (by omega)]; exact h4 x (by omega)
        · show (sJ w 120 _ _).2 120 (24 * t + j + x) = _
          by_cases hxk : x = k
          · subst hxk
            rw [sJ_eq]
            exact h4 _ (by omega)
          · rw [sJ_ot (by omega)]; exact h5 x (by omega)
      · have : k = n := by omega
        subst this
        rw [if_pos (nI_le (Nat.le_refl _) (by omega))]
        exact Or.inr ⟨1, _, by decide, rfl, rfl, rfl, h2, h3, h4, h5⟩) (s := ((0 : Int32), u)) ⟨rfl, rfl, fun _ _ => rfl, fun _ _ => rfl, fun x hx => absurd hx (Nat.not_lt_zero x)⟩
    subst he
    obtain ⟨a1, a2⟩ := q'
    dsimp only at h0 h1 h2 h3 h4
    subst h0
    exact ⟨a2, h, h1, h2, h3, h4⟩
  · subst hst
    obtain ⟨e, q', h, he, h0, h1, h2, h3, h4⟩ := lp_inv (body := fun q : Int32 × Um => fX8_copy_b110 (nI s) (nI i) (nI s) (nI j) (nI n) up q.1 q.2) (fun k q => q.1 = nI k ∧ q.2.1 = u.1 ∧ (∀ r, r ≠ 120 → q.2.2 r = u.2 r) ∧ (∀ x, x < 24 * s + j + n - k ∨ 24 * s + j + n ≤ x → q.2.2 120 x = u.2 120 x) ∧ ∀ x, n - k ≤ x → x < n → q.2.2 120 (24 * s + j + x) = u.2 120 (24 * s + i + x)) (fun e q => e = 1 ∧ q.1 = nI n ∧ q.2.1 = u.1 ∧ (∀ r, r ≠ 120 → q.2.2 r = u.2 r) ∧ (∀ x, x < 24 * s + j ∨ 24 * s + j + n ≤ x → q.2.2 120 x = u.2 120 x) ∧ ∀ x, x < n → q.2.2 120 (24 * s + j + x) = u.2 120 (24 * s + i + x)) n (by omega) (fun k q hk hs' => by
      obtain ⟨x', w⟩ := q
      obtain ⟨h1, h2, h3, h4, h5⟩ := hs'
      dsimp only at h1 h2 h3 h4 h5
      subst h1
      show (_ ∧ ∃ s', fX8_copy_b110 (nI s) (nI i) (nI s) (nI j) (nI n) up (nI k) w = _ ∧ _) ∨ (∃ e s', _ ∧ fX8_copy_b110 (nI s) (nI i) (nI s) (nI j) (nI n) up (nI k) w = _ ∧ _)
      unfold fX8_copy_b110
      by_cases hkn : k < n
      · rw [if_neg (nI_ge hkn (by omega)), if_neg (by rw [hu1]; decide), show (nI n - 1 - nI k : Int32) = nI (n - 1 - k) from by rw [show (nI n - 1 : Int32) = nI (n - 1) from pk_sub (a := n) (b := 1) (by omega), pk_sub (by omega)], j134 k (n - 1 - k) w (by omega)]
        refine Or.inl ⟨hkn, _, rfl, rfl, h2, fun r hr => by rw [sJ_ne hr]; exact h3 r hr, fun x hx => ?_, fun x hx hx2 => ?_⟩
        · show (sJ w 120 _ _).2 120 x = _
          rw [sJ_ot (by omega)]; exact h4 x (by omega)
        · show (sJ w 120 _ _).2 120 (24 * s + j + x) = _
          by_cases hxk : x = n - 1 - k
          · subst hxk
            rw [sJ_eq]
            exact h4 _ (by omega)
          · rw [sJ_ot (by omega)]; exact h5 x (by omega) hx2
      · have : k = n := by omega
        subst this
        rw [if_pos (nI_le (Nat.le_refl _) (by omega))]
        exact Or.inr ⟨1, _, by decide, rfl, rfl, rfl, h2, h3, fun x hx => h4 x (by omega), fun x hx => h5 x (by omega) hx⟩) (s := ((0 : Int32), u)) ⟨rfl, rfl, fun _ _ => rfl, fun _ _ => rfl, fun x hx hx2 => by omega⟩
    subst he
    obtain ⟨a1, a2⟩ := q'
    dsimp only at h0 h1 h2 h3 h4
    subst h0
    exact ⟨a2, h, h1, h2, h3, h4⟩
theorem sJr_ne {u : Um} {k j : Nat} {f : Nat → Int64} (h : j ≠ k) : (sJr u k f).2 j = u.2 j := by simp [sJr, h]
theorem s_copy (a b c d e : Int32) : S22 (fX7_copy a b c d e) (fX8_copy a b c d e) := by
  intro u hI
  unfold fX7_copy fX8_copy
  rcases ix_of a (n := 4) (by decide) with ha | ⟨s, hs, rfl⟩
  · refine ⟨-1, u, u, ?_, ?_, hI⟩
    · rw [sh_no u ha, bd1s]
      show bd1 (fX7_sheetAt c u) _ = _
      rcases ix_of c (n := 4) (by decide) with hc | ⟨t, ht, rfl⟩
      · rw [sh_no u hc]; rfl
      · rw [sh_at u ht, bd1s, spl_e (sh_kd t ht)]
    · rw [isS_n u ha]; rfl
  rw [sh_at u hs, bd1s, spl_e (sh_kd s hs)]
  rcases ix_of c (n := 4) (by decide) with hc | ⟨t, ht, rfl⟩
  · refine ⟨-1, u, u, ?_, ?_, hI⟩
    · rw [sh_no u hc]; rfl
    · rw [isS_y u hs, bd1s, if_neg i10, isS_n u hc]; rfl
  rw [sh_at u ht, bd1s, spl_e (sh_kd t ht)]
  have hsin : inb (nI s) 4 = true := inbN hs (by decide)
  have htin : inb (nI t) 4 = true := inbN ht (by decide)
  rcases hI.2.2.2.2 s hs with ⟨b1, b2⟩ | ⟨l, z, h1, h2, h3, h4, h5, h6, h7⟩
  · refine ⟨-11, u, u, ?_, ?_, hI⟩
    · rw [no_y b1]; rfl
    · rw [isS_y u hs, bd1s, if_neg i10, isS_y u ht, bd1s, if_neg i10, if_pos hsin, nI_clamp (by omega), b2, if_pos (by decide)]
  rw [no_n h1 h3, bd1s, if_pos rfl]
  rcases hI.2.2.2.2 t ht with ⟨b1, b2⟩ | ⟨l', z', g1, g2, g3, g4, g5, g6, g7⟩
  · refine ⟨-11, u, u, ?_, ?_, hI⟩
    · rw [no_y b1]; rfl
    · rw [isS_y u hs, bd1s, if_neg i10, isS_y u ht, bd1s, if_neg i10, if_pos hsin, nI_clamp (n := s) (by omega), nI_clamp (n := t) (by omega), h4, if_neg (nI_pos (by omega)), if_pos htin, b2, if_neg (by decide)]
  rw [no_n g1 g3, bd1s, if_pos rfl]
  have front : ∀ w : Um, w.1 = u.1 → fX8_copy (nI s) b (nI t) d e w = if nI l = nI l' then (bd1 (fX8_isPart b e (nI z) w) fun v6 => if v6 = 0 then some (-13, w) else bd1 (fX8_isPart d e (nI z') w) fun v8 => if v8 = 0 then some (-13, w) else if nI s = nI t then (if d ≤ b then fX8_copy_j104 (nI s) b (nI t) d e w else fX8_copy_j105 (nI s) b (nI t) d e 1 w) else fX8_copy_j104 (nI s) b (nI t) d e w) else some (-12, w) := by
    intro w hw
    unfold fX8_copy
    rw [isS_y w hs, bd1s, if_neg i10, isS_y w ht, bd1s, if_neg i10, if_pos hsin, nI_clamp (n := s) (by omega), nI_clamp (n := t) (by omega), hw, h4, if_neg (nI_pos (by omega)), if_pos htin, g4, if_pos (nI_pos' (by omega)), if_pos hsin, if_pos htin]
    simp only [hsin, htin, if_true, h6, g6]
  show ∃ r u1 u2, _ ∧ fX8_copy (nI s) b (nI t) d e u1 = _ ∧ _
  unfold fX5_lane
  rw [bd1s, bd1s, h3, g3]
  by_cases hl : nI l = nI l'
  · rw [if_pos hl]
    rcases hol_c (i := b) (n := e) h5 with ⟨hh, k1⟩ | ⟨hh, k1⟩
    · rcases hol_c (i := d) (n := e) g5 with ⟨hh2, k2⟩ | ⟨hh2, k2⟩
      · obtain ⟨i, n, hin, rfl, rfl⟩ := hol_nat h2 hh
        obtain ⟨j, n', hjn, rfl, en⟩ := hol_nat g2 hh2
        have hn' : n = n' := by
          have hb : n' ≤ 24 := by omega
          exact nI_eqb (by omega) en hb
        subst hn'
        have hcp : cpOk (nI i) (nI j) (nI n) 24 24 = true := by
          unfold cpOk
          rw [nI_toInt (by omega), nI_toInt (by omega), nI_toInt (by omega)]
          exact decide_eq_true (by omega)
        have htk : fX5_take (91 + 2 * t) (91 + 2 * s) (nI i) (nI j) (nI n) u = some (sJr u (91 + 2 * t + 1) (va_cpy (u.2 (91 + 2 * s + 1)) (u.2 (91 + 2 * t + 1)) i j n)) := by
          unfold fX5_take
          rw [k1, bd1s, if_neg i10, k2, bd1s, if_neg i10, if_pos hcp, nI_clamp (by omega), nI_clamp (by omega), nI_clamp (by omega)]
          rfl
        rw [k1, bd1s, if_neg i10, k2, bd1s, if_neg i10, htk, bd1s]
        have fin : ∀ up : Int32, (up = 0 ∧ (s ≠ t ∨ j ≤ i)) ∨ (up = 1 ∧ s = t ∧ i < j) → ∃ u2, fX8_copy_j105 (nI s) (nI i) (nI t) (nI j) (nI n) up (sJr u (91 + 2 * t + 1) (va_cpy (u.2 (91 + 2 * s + 1)) (u.2 (91 + 2 * t + 1)) i j n)) = some (nI n, u2) ∧ Inv u2 := by
          intro up hup
          obtain ⟨u2, e2, q1, q2, q3, q4⟩ := cpy_m up hs ht (show i + n ≤ 24 by omega) (show j + n ≤ 24 by omega) hup (sJr u (91 + 2 * t + 1) (va_cpy (u.2 (91 + 2 * s + 1)) (u.2 (91 + 2 * t + 1)) i j n))
          refine ⟨u2, ?_, ?_⟩
          · unfold fX8_copy_j105
            rw [e2]
            rfl
          · refine Inv_sheet (s := t) hI (fun k b1 b2 b3 => by rw [q1]; rfl) (fun k b1 b2 b3 => by rw [q1]; rfl) (fun j hj => by rw [q1]; rfl) (fun j hj => by rw [q1]; rfl) (fun k b1 b2 b3 => ?_) (fun x hx => ?_) (Or.inr ⟨l', z', g1, g2, by rw [q1]; exact g3, by rw [q1]; exact g4, by rw [q1]; exact g5, by rw [q1]; exact g6, fun x hx => ?_⟩)
            · rw [q2 k (by omega), sJr_ne b3]
            · rw [q3 x (by omega), sJr_ne (by omega)]
            · rw [q2 _ (by omega), show 92 + 2 * t = 91 + 2 * t + 1 by omega, sJr_at]
              by_cases hin2 : j ≤ x ∧ x < j + n
              · rw [pk_cpy_in hin2.1 hin2.2]
                have := q4 (x - j) (by omega)
                rw [show 24 * t + j + (x - j) = 24 * t + x by omega, sJr_ne (by omega)] at this
                rw [this, show 24 * s + i + (x - j) = 24 * s + (i + (x - j)) by omega, ← h7 _ (by omega), show 92 + 2 * s = 91 + 2 * s + 1 by omega]
              · rw [pk_cpy_out (by omega), q3 _ (by omega), sJr_ne (by omega), ← g7 x hx, show 92 + 2 * t = 91 + 2 * t + 1 by omega]
        by_cases hst : s = t
        · by_cases hji : j ≤ i
          · obtain ⟨u2, e2, hI2⟩ := fin 0 (Or.inl ⟨rfl, Or.inr hji⟩)
            refine ⟨nI n, _, u2, rfl, ?_, hI2⟩
            rw [front (sJr u (91 + 2 * t + 1) (va_cpy (u.2 (91 + 2 * s + 1)) (u.2 (91 + 2 * t + 1)) i j n)) rfl, if_pos hl, (hol_m _ _ _ _).1 hh, bd1s, if_neg i10, (hol_m _ _ _ _).1 hh2, bd1s, if_neg i10, if_pos (by rw [hst]), if_pos (nI_le hji (by omega))]
            exact e2
          · obtain ⟨u2, e2, hI2⟩ := fin 1 (Or.inr ⟨rfl, hst, by omega⟩)
            refine ⟨nI n, _, u2, rfl, ?_, hI2⟩
            rw [front (sJr u (91 + 2 * t + 1) (va_cpy (u.2 (91 + 2 * s + 1)) (u.2 (91 + 2 * t + 1)) i j n)) rfl, if_pos hl, (hol_m _ _ _ _).1 hh, bd1s, if_neg i10, (hol_m _ _ _ _).1 hh2, bd1s, if_neg i10, if_pos (by rw [hst]), if_neg (nI_ge (by omega) (by omega))]
            exact e2
        · obtain ⟨u2, e2, hI2⟩ := fin 0 (Or.inl ⟨rfl, Or.inl hst⟩)
          refine ⟨nI n, _, u2, rfl, ?_, hI2⟩
          rw [front (sJr u (91 + 2 * t + 1) (va_cpy (u.2 (91 + 2 * s + 1)) (u.2 (91 + 2 * t + 1)) i j n)) rfl, if_pos hl, (hol_m _ _ _ _).1 hh, bd1s, if_neg i10, (hol_m _ _ _ _).1 hh2, bd1s, if_neg i10, if_neg (fun h => hst ((nI_eq (by omega) (by omega)).mp h))]
          exact e2
      · refine ⟨-13, u, u, ?_, ?_, hI⟩
        · rw [k1, bd1s, if_neg i10, k2, bd1s, if_pos rfl]
        · rw [front u rfl, if_pos hl, (hol_m _ _ _ _).1 hh, bd1s, if_neg i10, (hol_m _ _ _ _).2 hh2, bd1s, if_pos rfl]
    · refine ⟨-13, u, u, ?_, ?_, hI⟩
      · rw [k1, bd1s, if_pos rfl]
      · rw [front u rfl, if_pos hl, (hol_m _ _ _ _).2 hh, bd1s, if_pos rfl]
  · refine ⟨-12, u, u, ?_, ?_, hI⟩
    · rw [if_neg hl]
    · rw [front u rfl, if_neg hl]
/-! log -/
theorem log_c {u : Um} {P W dd p s l i : Nat} {x y : Int32} (hV : VR (u.1 122) P W dd) (hR : RC u 3 (u.1 122) P W) (hp : p < P) (hs : s < 4) (hl : u.1 (91 + 2 * s) 1 = nI l) (hi : i + W ≤ 24) : ∃ u', lp (fun q : Int32 × Um => fX7_log_b64 (nI p) x y (nI i) (91 + 2 * s) q.1 q.2) fuel ((0 : Int32), u) = some (1, nI W, u') ∧ u'.1 = u.1 ∧ (∀ r, r ≠ 91 + 2 * s + 1 → u'.2 r = u.2 r) ∧ (∀ q, q < i ∨ i + W ≤ q → u'.2 (91 + 2 * s + 1) q = u.2 (91 + 2 * s + 1) q) ∧ ∀ q, q < W → u'.2 (91 + 2 * s + 1) (i + q) = cutL l (sSaid (u.1 122) q p).toInt64 := by
  have hP := hV.2.2.2.1
  have hW := hV.2.2.2.2.1
  obtain ⟨e, q', h, he, h0, h1, h2, h3, h4⟩ := lp_inv (body := fun q : Int32 × Um => fX7_log_b64 (nI p) x y (nI i) (91 + 2 * s) q.1 q.2) (fun k q => q.1 = nI k ∧ q.2.1 = u.1 ∧ (∀ r, r ≠ 91 + 2 * s + 1 → q.2.2 r = u.2 r) ∧ (∀ x, x < i ∨ i + k ≤ x → q.2.2 (91 + 2 * s + 1) x = u.2 (91 + 2 * s + 1) x) ∧ ∀ x, x < k → q.2.2 (91 + 2 * s + 1) (i + x) = cutL l (sSaid (u.1 122) x p).toInt64) (fun e q => e = 1 ∧ q.1 = nI W ∧ q.2.1 = u.1 ∧ (∀ r, r ≠ 91 + 2 * s + 1 → q.2.2 r = u.2 r) ∧ (∀ x, x < i ∨ i + W ≤ x → q.2.2 (91 + 2 * s + 1) x = u.2 (91 + 2 * s + 1) x) ∧ ∀ x, x < W → q.2.2 (91 + 2 * s + 1) (i + x) = cutL l (sSaid (u.1 122) x p).toInt64) W (by omega) (fun k q hk hs' => by
    obtain ⟨x', w⟩ := q
    obtain ⟨h1, h2, h3, h4, h5⟩ := hs'
    dsimp only at h1 h2 h3 h4 h5
    subst h1
    show (_ ∧ ∃ s', fX7_log_b64 (nI p) x y (nI i) (91 + 2 * s) (nI k) w = _ ∧ _) ∨ (∃ e s', _ ∧ fX7_log_b64 (nI p) x y (nI i) (91 + 2 * s) (nI k) w = _ ∧ _)
    unfold fX7_log_b64 fX0_wrongs
    have hRw : RC w 3 (u.1 122) P W := RC_fr hR (by rw [h2]) (by rw [h2]) (by rw [h2])
    rw [bd1s, hRw.2.1, hV.2.1]
    by_cases hkn : k < W
    · rw [if_neg (nI_ge hkn (by omega)), said_c hRw hV hkn hp, bd1s, nI_add, put_c _ (by rw [h2]; exact hl) (show i + k < 24 by omega), bd1s]
      refine Or.inl ⟨hkn, _, rfl, nI_1 k, h2, fun r hr => by rw [sJ_ne hr]; exact h3 r hr, fun x hx => ?_, fun x hx => ?_⟩
      · show (sJ w _ _ _).2 (91 + 2 * s + 1) x = _
        rw [sJ_ot (by omega)]; exact h4 x (by omega)
      · show (sJ w _ _ _).2 (91 + 2 * s + 1) (i + x) = _
        by_cases hxk : x = k
        · subst hxk
          rw [sJ_eq]
        · rw [sJ_ot (by omega)]; exact h5 x (by omega)
    · have : k = W := by omega
      subst this
      rw [if_pos (nI_le (Nat.le_refl _) (by omega))]
      exact Or.inr ⟨1, _, by decide, rfl, rfl, rfl, h2, h3, h4, h5⟩) (s := ((0 : Int32), u)) ⟨rfl, rfl, fun _ _ => rfl, fun _ _ => rfl, fun x hx => absurd hx (Nat.not_lt_zero x)⟩
  subst he
  obtain ⟨a1, a2⟩ := q'
  dsimp only at h0 h1 h2 h3 h4
  subst h0
  exact ⟨a2, h, h1, h2, h3, h4⟩
theorem cut_m (l : Nat) (v : Int64) (u : Um) : fX8_cutTo (nI l) v u = some (cutL l v) := by
  unfold fX8_cutTo cutL
  split <;> try rfl
  split <;> try rfl
  split <;> rfl
theorem log_m {u : Um} {P W dd p s l i : Nat} (hV : VR (u.1 122) P W dd) (hp : p < P) (hs : s < 4) (hi : i + W ≤ 24) : ∃ u', lp (fun q : Int32 × Um => fX8_log_b53 (nI p) (nI s) (nI l) (nI i) q.1 q.2) fuel ((0 : Int32), u) = some (1, nI W, u') ∧ u'.1 = u.1 ∧ (∀ r, r ≠ 120 → u'.2 r = u.2 r) ∧ (∀ q, q < 24 * s + i ∨ 24 * s + i + W ≤ q → u'.2 120 q = u.2 120 q) ∧ ∀ q, q < W → u'.2 120 (24 * s + i + q) = cutL l (sSaid (u.1 122) q p).toInt64 := by
  have hP := hV.2.2.2.1
  have hW := hV.2.2.2.2.1
  obtain ⟨e, q', h, he, h0, h1, h2, h3, h4⟩ := lp_inv (body := fun q : Int32 × Um => fX8_log_b53 (nI p) (nI s) (nI l) (nI i) q.1 q.2) (fun k q => q.1 = nI k ∧ q.2.1 = u.1 ∧ (∀ r, r ≠ 120 → q.2.2 r = u.2 r) ∧ (∀ x, x < 24 * s + i ∨ 24 * s + i + k ≤ x → q.2.2 120 x = u.2 120 x) ∧ ∀ x, x < k → q.2.2 120 (24 * s + i + x) = cutL l (sSaid (u.1 122) x p).toInt64) (fun e q => e = 1 ∧ q.1 = nI W ∧ q.2.1 = u.1 ∧ (∀ r, r ≠ 120 → q.2.2 r = u.2 r) ∧ (∀ x, x < 24 * s + i ∨ 24 * s + i + W ≤ x → q.2.2 120 x = u.2 120 x) ∧ ∀ x, x < W → q.2.2 120 (24 * s + i + x) = cutL l (sSaid (u.1 122) x p).toInt64) W (by omega) (fun k q hk hs' => by
    obtain ⟨x', w⟩ := q
    obtain ⟨h1, h2, h3, h4, h5⟩ := hs'
    dsimp only at h1 h2 h3 h4 h5
    subst h1
    show (_ ∧ ∃ s', fX8_log_b53 (nI p) (nI s) (nI l) (nI i) (nI k) w = _ ∧ _) ∨ (∃ e s', _ ∧ fX8_log_b53 (nI p) (nI s) (nI l) (nI i) (nI k) w = _ ∧ _)
    unfold fX8_log_b53
    have hVw : VR (w.1 122) P W dd := by rw [h2]; exact hV
    rw [if_pos b283, cl2, hVw.2.1]
    by_cases hkn : k < W
    · rw [if_neg (nI_ge hkn (by omega)), said_m ln122 hVw hkn hp, bd1s, cut_m, bd1s, e24, nI_add, if_pos (inbN (by omega) (by decide)), nI_clamp (by omega), h2]
      refine Or.inl ⟨hkn, _, rfl, nI_1 k, h2, fun r hr => by rw [sJ_ne hr]; exact h3 r hr, fun x hx => ?_, fun x hx => ?_⟩
      · show (sJ w _ _ _).2 120 x = _
        rw [sJ_ot (by omega)]; exact h4 x (by omega)
      · show (sJ w _ _ _).2 120 (24 * s + i + x) = _
        by_cases hxk : x = k
        · subst hxk
          rw [sJ_eq]
        · rw [sJ_ot (by omega)]; exact h5 x (by omega)
    · have : k = W := by omega
      subst this
      rw [if_pos (nI_le (Nat.le_refl _) (by omega))]
      exact Or.inr ⟨1, _, by decide, rfl, rfl, rfl, h2, h3, h4, h5⟩) (s := ((0 : Int32), u)) ⟨rfl, rfl, fun _ _ => rfl, fun _ _ => rfl, fun x hx => absurd hx (Nat.not_lt_zero x)⟩
  subst he
  obtain ⟨a1, a2⟩ := q'
  dsimp only at h0 h1 h2 h3 h4
  subst h0
  exact ⟨a2, h, h1, h2, h3, h4⟩
theorem s_log (a b c d : Int32) : S22 (fX7_log a b c d) (fX8_log a b c d) := by
  intro u hI
  obtain ⟨P, W, dd, hV, hR, hd, hz⟩ := IvC_get hI.1
  have hP := hV.2.2.2.1
  have hW := hV.2.2.2.2.1
  unfold fX7_log fX8_log
  rcases ix_of a (n := P) (by omega) with ha | ⟨p, hp, rfl⟩
  · refine ⟨-1, u, u, ?_, ?_, hI⟩
    · rw [hasP_n (hR.1.trans hV.1) ha, bd1s, if_pos rfl]
    · rw [one_n hV.1 hP ha, bd1s, if_pos rfl]
  rw [hasP_y (hR.1.trans hV.1) hP hp, bd1s, if_neg i10]
  rcases ix_of b (n := 4) (by decide) with hb | ⟨s, hs, rfl⟩
  · refine ⟨-1, u, u, ?_, ?_, hI⟩
    · rw [sh_no u hb]; rfl
    · rw [one_y hV.1 hP hp, bd1s, if_neg i10, isS_n u hb]; rfl
  rw [sh_at u hs, bd1s, spl_e (sh_kd s hs)]
  rcases row_or hI.2.2.2.2 hs c with ⟨h1, h2⟩ | ⟨r, h0, h1, h2, h3⟩ | ⟨l, z, hl, hz, rfl, h1, h2, h3, h4, h5, h6, h7, h8⟩
  · refine ⟨-1, u, u, ?_, ?_, hI⟩
    · rw [h1]; rfl
    · rw [one_y hV.1 hP hp, bd1s, if_neg i10, isS_y u hs, bd1s, if_neg i10, h2]; rfl
  · refine ⟨r, u, u, ?_, ?_, hI⟩
    · rw [h1, bd1s, if_neg h0]
    · rw [one_y hV.1 hP hp, bd1s, if_neg i10, isS_y u hs, bd1s, if_neg i10, h2, bd1s, if_neg i10, if_pos b283, h3, bd1s, if_neg h0]
  · rw [h1, bd1s, if_pos rfl]
    unfold fX0_wrongs
    rw [bd1s, hR.2.1, hV.2.1]
    rcases hol_c (i := d) (n := nI W) h5 with ⟨hh, g⟩ | ⟨hh, g⟩
    · obtain ⟨i, n, hin, rfl, en⟩ := hol_nat hz hh
      have hn : W = n := nI_eqb (by omega) en (by omega)
      subst hn
      rw [g, bd1s, if_neg i10]
      obtain ⟨u1, e1, f1, f2, f3, f4⟩ := log_c (x := nI s) (y := nI l) hV hR hp hs h3 (show i + W ≤ 24 by omega)
      obtain ⟨u2, e2, g1, g2, g3, g4⟩ := log_m (l := l) (u := u1) (by rw [f1]; exact hV) hp hs (show i + W ≤ 24 by omega)
      refine ⟨nI W, u1, u2, ?_, ?_, ?_⟩
      · rw [e1, bd3s, bd1s, f1, hR.2.1, hV.2.1]
      · rw [one_y (by rw [f1]; exact hV.1) hP hp, bd1s, if_neg i10, isS_y _ hs, bd1s, if_neg i10, in03_y _ hl, bd1s, if_neg i10, if_pos b283, bad_fr f1, cl2, f1, hV.2.1, (h8 _ _).1 hh, bd1s, if_pos rfl, e2, bd3s, if_pos b283, g1, f1, hV.2.1]
      · refine Inv_sheet (s := s) hI (fun k b1 b2 b3 => by rw [g1, f1]) (fun k b1 b2 b3 => by rw [g1, f1]) (fun j hj => by rw [g1, f1]) (fun j hj => by rw [g1, f1]) (fun k b1 b2 b3 => by rw [g2 k (by omega), f2 k b3]) (fun x hx => by rw [g3 x (by omega), f2 120 (by omega)]) (Or.inr ⟨l, z, hl, hz, by rw [g1, f1]; exact h3, by rw [g1, f1]; exact h4, by rw [g1, f1]; exact h5, by rw [g1, f1]; exact h6, fun x hx => ?_⟩)
        rw [g2 _ (by omega), show 92 + 2 * s = 91 + 2 * s + 1 by omega]
        by_cases hin2 : i ≤ x ∧ x < i + W
        · have k1 := f4 (x - i) (by omega)
          have k2 := g4 (x - i) (by omega)
          rw [show i + (x - i) = x by omega] at k1
          rw [show 24 * s + i + (x - i) = 24 * s + x by omega, f1] at k2
          rw [k1, k2]
        · rw [f3 x (by omega), g3 _ (by omega), f2 120 (by omega), ← h7 x hx, show 92 + 2 * s = 91 + 2 * s + 1 by omega]
    · refine ⟨-13, u, u, ?_, ?_, hI⟩
      · rw [g, bd1s, if_pos rfl]
      · rw [one_y hV.1 hP hp, bd1s, if_neg i10, isS_y u hs, bd1s, if_neg i10, h2, bd1s, if_neg i10, if_pos b283, cl2, hV.2.1, (h8 _ _).2 hh]
        rfl
