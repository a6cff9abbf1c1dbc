/-! ===== MATCH in the reference's memory, and both ===== -/
theorem worth_m {u : Um} {P W dd w p : Nat} (hV : VR (u.1 122) P W dd) (hw : w < W) (hp : p < P) : fX8_worth (nI w) (nI p) u = some (nI (wv 100 (oN (u.1 122) P W w p))) := by
  unfold fX8_worth
  by_cases hm : sMay (u.1 122) w p
  · obtain ⟨o1, o2⟩ := oN_y hw hp hm
    rw [(may_m ln122 hV hw hp).1 hm, bd1s, if_neg i10, com_m ln122 hV hw hp, bd1s, o1]
    unfold fX8_worth_j25
    rcases (show oN (u.1 122) P W w p = 0 ∨ oN (u.1 122) P W w p = 1 ∨ oN (u.1 122) P W w p = 2 by omega) with h | h | h <;> rw [h] <;> rfl
  · rw [(may_m ln122 hV hw hp).2 hm, bd1s, if_pos rfl, oN_n (fun h => hm h.2.2)]
    rfl
def RWm (u : Um) (o : Nat → Nat → Nat) (W w : Nat) : Prop := ∀ set, set < 64 → u.1 128 (64 * w + set) = nI (vK 100 (DD o W (W - w) set))
theorem e64 (w s : Nat) : (64 * nI w + nI s : Int32) = nI (64 * w + s) := by rw [show (64 : Int32) = nI 64 from rfl, pk_mul, nI_add]
theorem dStep_stop {o : Nat → Nat → Nat} {W r set P : Nat} (h : ∀ p, P ≤ p → o (W - (r + 1)) p = 0) : ∀ n, P ≤ n → dStep o W r set n = dStep o W r set P
  | 0, hn => by rw [show P = 0 by omega]
  | n + 1, hn => by
    by_cases e : P = n + 1
    · rw [e]
    · rw [dStep_s, if_neg, dStep_stop h n (by omega)]
      intro hb
      have := (Bool.and_eq_true_iff.mp hb).1
      unfold okc at this
      rw [h n (by omega)] at this
      simp at this
theorem vK100_b (o : Nat → Nat → Nat) (W r set : Nat) (hr : r ≤ 8) : vK 100 (DD o W r set) ≤ 800 := by
  have h := DD_b o W r set
  unfold vK
  omega
theorem b67_m {u : Um} {P W dd w set : Nat} (hV : VR (u.1 122) P W dd) (hw : w < W) (hs : set < 64) (hR : RWm u (oN (u.1 122) P W) W (w + 1)) : lp (fun s : Int32 × Int32 × Um => fX8_layMatch_b67 (nI w) (nI set) s.1 s.2.1 s.2.2) fuel (nI (vK 100 (DD (oN (u.1 122) P W) W (W - (w + 1)) set)), (0 : Int32), u) = some (1, nI (vK 100 (DD (oN (u.1 122) P W) W (W - w) set)), nI P, u) := by
  have hP := hV.2.2.2.1
  have hW := hV.2.2.2.2.1
  generalize ho : oN (u.1 122) P W = o at hR ⊢
  have er : W - w = W - (w + 1) + 1 := by omega
  have ew : W - (W - (w + 1) + 1) = w := by omega
  have hstop : DD o W (W - w) set = dStep o W (W - (w + 1)) set P := by
    rw [er, DD_s]
    refine dStep_stop (fun p hp => ?_) 6 hP
    rw [← ho]
    exact oN_n (fun h => by omega)
  have hbD := dStep_b (set := set) (DD_b o W (W - (w + 1)))
  rw [hstop]
  refine lp_end (body := fun s : Int32 × Int32 × Um => fX8_layMatch_b67 (nI w) (nI set) s.1 s.2.1 s.2.2) (fun p => (nI (vK 100 (dStep o W (W - (w + 1)) set p)), nI p, u)) (m := P) (e := 1) (by omega) (fun p hp => ?_) ?_ (by decide)
  · show fX8_layMatch_b67 (nI w) (nI set) _ (nI p) u = _
    have b1 := hbD p
    have b2 := DD_b o W (W - (w + 1)) (set ||| 2 ^ p)
    have b3 := addp_b (o := o w p) b2.1 b2.2
    unfold fX8_layMatch_b67
    rw [if_pos b183, cl1, hV.1, if_neg (nI_ge hp (by omega)), has_m u (by omega) (by omega), bd1s, worth_m hV hw hp, bd1s, ho, dStep_s, ew]
    have j0 : fX8_layMatch_j98 (nI w) (nI set) (nI (vK 100 (dStep o W (W - (w + 1)) set p))) (nI p) 0 u = some (0, nI (vK 100 (dStep o W (W - (w + 1)) set p)), nI (p + 1), u) := by
      unfold fX8_layMatch_j98 fX8_layMatch_j130 fX8_layMatch_j146
      rw [if_pos rfl, if_pos (nI_pos' (by unfold vK; omega))]
      simp only [nm, nI_1]
    by_cases hm : memB set p = true
    · have hb : set / 2 ^ p % 2 = 1 := of_decide_eq_true hm
      rw [hb, if_neg (show ¬ nI 1 = 0 by decide), j0, if_neg]
      intro h
      have := (Bool.and_eq_true_iff.mp h).1
      unfold okc at this
      rw [hm] at this
      simp at this
    · have hb : set / 2 ^ p % 2 = 0 := by
        have : ¬ set / 2 ^ p % 2 = 1 := fun h => hm (decide_eq_true h)
        omega
      rw [hb, if_pos (show nI 0 = 0 from rfl)]
      by_cases hop : 0 < o w p
      · have hok : okc o w set p = true := by
          unfold okc
          rw [decide_eq_true hop, Bool.eq_false_iff.mpr hm]
          rfl
        have hwv : wv 100 (o w p) = (if o w p = 1 then 100 else 100 - 1) := by
          unfold wv
          rw [if_neg (by omega)]
        have hwb : 99 ≤ wv 100 (o w p) ∧ wv 100 (o w p) ≤ 100 := by
          rw [hwv]
          split <;> omega
        have hv : (nI (wv 100 (o w p)) + u.1 128 (64 * (w + 1) + (set ||| 2 ^ p)) : Int32) = nI (vK 100 (addp (o w p) (DD o W (W - (w + 1)) (set ||| 2 ^ p)))) := by
          rw [hR _ (or_lt hs (by omega)), nI_add, vK_add b2.1 (by decide), hwv]
        have ord := vK_ord b1.1 (by omega) b3.1 (by omega)
        have c1 : vK 100 (addp (o w p) (DD o W (W - (w + 1)) (set ||| 2 ^ p))) ≤ 900 := by unfold vK; omega
        have c2 : vK 100 (dStep o W (W - (w + 1)) set p) ≤ 900 := by unfold vK; omega
        have hlt64 := or_lt hs (show p < 6 by omega)
        unfold fX8_layMatch_j98 fX8_layMatch_j130 fX8_layMatch_j146
        rw [if_neg (nI_ne0 (by omega) (by omega)), nI_1, bit_or (by omega), e64, if_pos (inbN (by omega) (by decide)), nI_clamp (by omega), hv, hok, Bool.true_and]
        simp only [nm, nI_1]
        by_cases hlt : vK 16 (dStep o W (W - (w + 1)) set p) < vK 16 (addp (o w p) (DD o W (W - (w + 1)) (set ||| 2 ^ p)))
        · rw [if_neg (nI_ge (ord.1.mp hlt) (by omega)), if_pos (decide_eq_true hlt)]
        · rw [if_pos (nI_le (Nat.not_lt.mp (fun h => hlt (ord.1.mpr h))) (by omega)), if_neg (fun h => hlt (of_decide_eq_true h))]
      · rw [show o w p = 0 by omega, show wv 100 0 = 0 from rfl, show nI 0 = (0 : Int32) from rfl, j0, if_neg]
        intro h
        have := (Bool.and_eq_true_iff.mp h).1
        unfold okc at this
        rw [show o w p = 0 by omega] at this
        simp at this
  · show fX8_layMatch_b67 (nI w) (nI set) _ (nI P) u = _
    unfold fX8_layMatch_b67
    rw [if_pos b183, cl1, hV.1, if_pos (nI_le (Nat.le_refl _) (by omega))]
theorem row_m {u : Um} {P W dd w : Nat} {c : Nat → Int32} (h122 : u.1 122 = c) (hV : VR c P W dd) (hw : w < W) (hR : RWm u (oN c P W) W (w + 1)) : ∃ u', lp (fun s : Int32 × Um => fX8_layMatch_b43 (nI w) s.1 s.2) fuel ((0 : Int32), u) = some (1, nI 64, u') ∧ (∀ k, k ≠ 128 → u'.1 k = u.1 k) ∧ u'.2 = u.2 ∧ (∀ i, i < 64 * w ∨ 64 * w + 64 ≤ i → u'.1 128 i = u.1 128 i) ∧ RWm u' (oN c P W) W w := by
  have hW := hV.2.2.2.2.1
  obtain ⟨e, q, h, he, h0, h1, h2, h3, h4⟩ := lp_inv (body := fun s : Int32 × Um => fX8_layMatch_b43 (nI w) s.1 s.2) (fun k s => s.1 = nI k ∧ (∀ r, r ≠ 128 → s.2.1 r = u.1 r) ∧ s.2.2 = u.2 ∧ (∀ i, i < 64 * w ∨ 64 * w + 64 ≤ i → s.2.1 128 i = u.1 128 i) ∧ ∀ set, set < k → s.2.1 128 (64 * w + set) = nI (vK 100 (DD (oN c P W) W (W - w) set))) (fun e s => e = 1 ∧ s.1 = nI 64 ∧ (∀ r, r ≠ 128 → s.2.1 r = u.1 r) ∧ s.2.2 = u.2 ∧ (∀ i, i < 64 * w ∨ 64 * w + 64 ≤ i → s.2.1 128 i = u.1 128 i) ∧ RWm s.2 (oN c P W) W w) 64 (by omega) (fun k s hk hs' => by
    obtain ⟨x, v⟩ := s
    obtain ⟨h1, h2, h3, h4, h5⟩ := hs'
    dsimp only at h1 h2 h3 h4 h5
    subst h1
    show (_ ∧ ∃ s', fX8_layMatch_b43 (nI w) (nI k) v = _ ∧ _) ∨ (∃ e s', _ ∧ fX8_layMatch_b43 (nI w) (nI k) v = _ ∧ _)
    unfold fX8_layMatch_b43
    by_cases hk64 : k < 64
    · have hc : v.1 122 = c := (h2 122 (by decide)).trans h122
      have hRv : RWm v (oN c P W) W (w + 1) := fun set hs => by rw [h4 _ (by omega)]; exact hR set hs
      have hb := b67_m (u := v) (P := P) (W := W) (dd := dd) (w := w) (set := k) (by rw [hc]; exact hV) hw hk64 (by rw [hc]; exact hRv)
      rw [hc] at hb
      rw [if_neg (show ¬ (64 : Int32) ≤ nI k from nI_ge (b := 64) hk64 (by decide)), nI_1, e64, e64, if_pos (inbN (by omega) (by decide)), nI_clamp (by omega), nI_clamp (by omega), hRv k hk64]
      simp only [nm]
      rw [hb, bd4s, if_pos (inbN (by omega) (by decide)), nI_1]
      refine Or.inl ⟨hk64, _, rfl, rfl, fun r hr => by rw [sI_ne hr]; exact h2 r hr, h3, fun i hi => ?_, fun set hs => ?_⟩
      · show (sI v 128 _ _).1 128 i = _
        rw [sI_ot (by omega)]; exact h4 i hi
      · show (sI v 128 _ _).1 128 (64 * w + set) = _
        by_cases hsk : set = k
        · subst hsk; exact sI_eq
        · rw [sI_ot (by omega)]; exact h5 set (by omega)
    · have : k = 64 := by omega
      subst this
      rw [if_pos (by decide)]
      exact Or.inr ⟨1, _, by decide, rfl, rfl, rfl, h2, h3, h4, h5⟩) (s := ((0 : Int32), u)) ⟨rfl, fun _ _ => rfl, rfl, fun _ _ => rfl, fun j hj => absurd hj (Nat.not_lt_zero j)⟩
  subst he
  obtain ⟨a1, a2⟩ := q
  dsimp only at h0 h1 h2 h3 h4
  subst h0
  exact ⟨a2, h, h1, h2, h3, h4⟩
theorem rows_m {u : Um} {P W dd : Nat} {c : Nat → Int32} (h122 : u.1 122 = c) (hV : VR c P W dd) (hR : RWm u (oN c P W) W W) : ∃ x u', lp (fun s : Int32 × Um => fX8_layMatch_b37 s.1 s.2) fuel (nI W + (-1), u) = some (1, x, u') ∧ (∀ k, k ≠ 128 → u'.1 k = u.1 k) ∧ u'.2 = u.2 ∧ ∀ w, w ≤ W → RWm u' (oN c P W) W w := by
  have hW := hV.2.2.2.2.1
  obtain ⟨e, q, h, he, h1, h2, h3⟩ := lp_inv (body := fun s : Int32 × Um => fX8_layMatch_b37 s.1 s.2) (fun j s => s.1 = nI (W - j) + (-1) ∧ (∀ r, r ≠ 128 → s.2.1 r = u.1 r) ∧ s.2.2 = u.2 ∧ ∀ w, W - j ≤ w → w ≤ W → RWm s.2 (oN c P W) W w) (fun e s => e = 1 ∧ (∀ r, r ≠ 128 → s.2.1 r = u.1 r) ∧ s.2.2 = u.2 ∧ ∀ w, w ≤ W → RWm s.2 (oN c P W) W w) W (by omega) (fun j s hj hs' => by
    obtain ⟨x, v⟩ := s
    obtain ⟨h1, h2, h3, h4⟩ := hs'
    dsimp only at h1 h2 h3 h4
    subst h1
    show (_ ∧ ∃ s', fX8_layMatch_b37 (nI (W - j) + (-1)) v = _ ∧ _) ∨ (∃ e s', _ ∧ fX8_layMatch_b37 (nI (W - j) + (-1)) v = _ ∧ _)
    unfold fX8_layMatch_b37
    by_cases hjW : j < W
    · rw [m1_s (show 0 < W - j by omega)]
      have hRv : RWm v (oN c P W) W (W - j - 1 + 1) := h4 _ (by omega) (by omega)
      obtain ⟨v', e1, g1, g2, g3, g4⟩ := row_m ((h2 122 (by decide)).trans h122) hV (show W - j - 1 < W by omega) hRv
      rw [if_neg (nI_pos (n := W - j - 1) (by omega)), e1, bd3s]
      simp only [nm]
      refine Or.inl ⟨hjW, _, rfl, ?_, fun r hr => by rw [g1 r hr]; exact h2 r hr, g2.trans h3, fun w hw1 hw2 => ?_⟩
      · show nI (W - j - 1) + (-1) = nI (W - (j + 1)) + (-1)
        rw [show W - (j + 1) = W - j - 1 by omega]
      · show RWm v' (oN c P W) W w
        by_cases hwe : w = W - j - 1
        · subst hwe; exact g4
        · intro set hs
          rw [g3 _ (by omega)]
          exact h4 w (by omega) hw2 set hs
    · have : j = W := by omega
      subst this
      rw [show j - j = 0 by omega, if_pos m1_neg]
      exact Or.inr ⟨1, _, by decide, rfl, rfl, h2, h3, fun w hw => h4 w (by omega) hw⟩) (s := (nI W + (-1), u)) ⟨rfl, fun _ _ => rfl, rfl, fun w h1 h2 => by rw [show w = W by omega]; exact hR⟩
  subst he
  obtain ⟨a1, a2⟩ := q
  exact ⟨a1, a2, h, h1, h2, h3⟩
theorem lay0_m {u : Um} {W : Nat} (hW : W ≤ 8) : ∃ u', lp (fun s : Int32 × Um => fX8_layMatch_b9 (nI W) s.1 s.2) fuel ((0 : Int32), u) = some (1, nI 64, u') ∧ (∀ k, k ≠ 128 → u'.1 k = u.1 k) ∧ u'.2 = u.2 ∧ ∀ set, set < 64 → u'.1 128 (64 * W + set) = 0 := by
  obtain ⟨e, q, h, he, h0, h1, h2, h3⟩ := lp_inv (body := fun s : Int32 × Um => fX8_layMatch_b9 (nI W) s.1 s.2) (fun k s => s.1 = nI k ∧ (∀ r, r ≠ 128 → s.2.1 r = u.1 r) ∧ s.2.2 = u.2 ∧ ∀ set, set < k → s.2.1 128 (64 * W + set) = 0) (fun e s => e = 1 ∧ s.1 = nI 64 ∧ (∀ r, r ≠ 128 → s.2.1 r = u.1 r) ∧ s.2.2 = u.2 ∧ ∀ set, set < 64 → s.2.1 128 (64 * W + set) = 0) 64 (by omega) (fun k s hk hs' => by
    obtain ⟨x, v⟩ := s
    obtain ⟨h1, h2, h3, h4⟩ := hs'
    dsimp only at h1 h2 h3 h4
    subst h1
    show (_ ∧ ∃ s', fX8_layMatch_b9 (nI W) (nI k) v = _ ∧ _) ∨ (∃ e s', _ ∧ fX8_layMatch_b9 (nI W) (nI k) v = _ ∧ _)
    unfold fX8_layMatch_b9
    by_cases hk64 : k < 64
    · rw [if_neg (show ¬ (64 : Int32) ≤ nI k from nI_ge (b := 64) hk64 (by decide)), e64, if_pos (inbN (by omega) (by decide)), nI_clamp (by omega)]
      simp only [nm, nI_1]
      refine Or.inl ⟨hk64, _, rfl, rfl, fun r hr => by rw [sI_ne hr]; exact h2 r hr, h3, fun set hs => ?_⟩
      show (sI v 128 _ _).1 128 (64 * W + set) = _
      by_cases hsk : set = k
      · subst hsk; exact sI_eq
      · rw [sI_ot (by omega)]; exact h4 set (by omega)
    · have : k = 64 := by omega
      subst this
      rw [if_pos (by decide)]
      exact Or.inr ⟨1, _, by decide, rfl, rfl, rfl, h2, h3, h4⟩) (s := ((0 : Int32), u)) ⟨rfl, fun _ _ => rfl, rfl, fun j hj => absurd hj (Nat.not_lt_zero j)⟩
  subst he
  obtain ⟨a1, a2⟩ := q
  dsimp only at h0 h1 h2 h3
  subst h0
  exact ⟨a2, h, h1, h2, h3⟩
theorem lay_m {u : Um} {P W dd : Nat} (hV : VR (u.1 122) P W dd) (hW1 : 1 ≤ W) : ∃ u', fX8_layMatch u = some u' ∧ (∀ k, k ≠ 128 → u'.1 k = u.1 k) ∧ u'.2 = u.2 ∧ ∀ w, w ≤ W → RWm u' (oN (u.1 122) P W) W w := by
  have hW := hV.2.2.2.2.1
  obtain ⟨u1, e1, f1, f2, f3⟩ := lay0_m (u := u) hW
  have hR : RWm u1 (oN (u.1 122) P W) W W := fun set hs => by
    rw [f3 set hs, Nat.sub_self]
    rfl
  obtain ⟨x, u2, e2, g1, g2, g3⟩ := rows_m (f1 122 (by decide)) hV hR
  refine ⟨u2, ?_, fun k hk => by rw [g1 k hk, f1 k hk], g2.trans f2, g3⟩
  unfold fX8_layMatch
  rw [if_pos b283, cl2, hV.2.1]
  simp only [nm]
  rw [e1, bd3s, show (nI W - 1 : Int32) = nI W + (-1) from by rw [m1_s (by omega)]; exact pk_sub (a := W) (b := 1) hW1, e2, bd3s]
/-! who carries, by the reference -/
def wF (cd : Nat → Bool) (P : Nat) : Nat → Int32 := acc (fun k x => if cd (P - 1 - k) = true then nI (P - 1 - k) else x) (-4)
theorem wF_s (cd : Nat → Bool) (P k : Nat) : wF cd P (k + 1) = if cd (P - 1 - k) = true then nI (P - 1 - k) else wF cd P k := rfl
theorem wF_spec (cd : Nat → Bool) (P : Nat) : ∀ k, k ≤ P → (∃ p, P - k ≤ p ∧ p < P ∧ cd p = true ∧ (∀ q, P - k ≤ q → q < p → ¬ cd q = true) ∧ wF cd P k = nI p) ∨ (wF cd P k = -4 ∧ ∀ q, P - k ≤ q → q < P → ¬ cd q = true)
  | 0, _ => Or.inr ⟨rfl, fun q h1 h2 => by omega⟩
  | k + 1, hk => by
    rw [wF_s]
    by_cases hc : cd (P - 1 - k) = true
    · rw [if_pos hc]
      exact Or.inl ⟨P - 1 - k, by omega, by omega, hc, fun q h1 h2 => by omega, rfl⟩
    · rw [if_neg hc]
      rcases wF_spec cd P k (by omega) with ⟨p, p1, p2, p3, p4, p5⟩ | ⟨h1, h2⟩
      · refine Or.inl ⟨p, by omega, p2, p3, fun q q1 q2 => ?_, p5⟩
        by_cases e : q = P - 1 - k
        · subst e; exact hc
        · exact p4 q (by omega) q2
      · refine Or.inr ⟨h1, fun q q1 q2 => ?_⟩
        by_cases e : q = P - 1 - k
        · subst e; exact hc
        · exact h2 q (by omega) q2
def cdR (o : Nat → Nat → Nat) (W r set p : Nat) : Bool := okc o (W - (r + 1)) set p && decide (vK 100 (addp (o (W - (r + 1)) p) (DD o W r (set ||| 2 ^ p))) = vK 100 (DD o W (r + 1) set))
theorem wF_pk {o : Nat → Nat → Nat} {W r set P : Nat} (hr : r < 8) (hP : P ≤ 6) (hz : ∀ p, P ≤ p → o (W - (r + 1)) p = 0) : wF (cdR o W r set) P P = pkC o W r set := by
  have cd_iff : ∀ p, cdR o W r set p = true ↔ (okc o (W - (r + 1)) set p = true ∧ cV o W r set p = vK 16 (DD o W (r + 1) set)) := by
    intro p
    have b1 := DD_b o W r (set ||| 2 ^ p)
    have b2 := addp_b (o := o (W - (r + 1)) p) b1.1 b1.2
    have b3 := DD_b o W (r + 1) set
    have ord := vK_ord b2.1 (by omega) b3.1 (by omega)
    unfold cdR
    rw [Bool.and_eq_true_iff, decide_eq_true_iff]
    exact ⟨fun h => ⟨h.1, ord.2.1.mpr h.2⟩, fun h => ⟨h.1, ord.2.1.mp h.2⟩⟩
  have hokP : ∀ p, okc o (W - (r + 1)) set p = true → p < P := by
    intro p hp
    refine Nat.not_le.mp (fun h => ?_)
    unfold okc at hp
    rw [hz p h] at hp
    simp at hp
  rcases wF_spec (cdR o W r set) P P (Nat.le_refl _) with ⟨p, p1, p2, p3, p4, p5⟩ | ⟨h1, h2⟩
  · rw [p5]
    have hp := (cd_iff p).mp p3
    rcases pkC_spec o W r set with ⟨q, q1, q2, q3, q4, q5⟩ | ⟨h, -, h3⟩
    · rw [q2]
      rcases Nat.lt_trichotomy p q with hlt | he | hlt
      · exact absurd hp.2 (q5 p hlt hp.1)
      · rw [he]
      · exact absurd ((cd_iff q).mpr ⟨q3, q4⟩) (p4 q (by omega) hlt)
    · exact absurd hp.2 (h3 p (by omega) hp.1)
  · rw [h1]
    rcases pkC_spec o W r set with ⟨q, q1, q2, q3, q4, q5⟩ | ⟨h, -, h3⟩
    · exact absurd ((cd_iff q).mpr ⟨q3, q4⟩) (h2 q (by omega) (hokP q q3))
    · exact h.symm
theorem b27_m {u : Um} {P W dd w set : Nat} {p0 : Int32} {c : Nat → Int32} (h122 : u.1 122 = c) (hV : VR c P W dd) (hw : w < W) (hs : set < 64) (hR : ∀ w, w ≤ W → RWm u (oN c P W) W w) : ∃ e x, lp (fun s => fX8_matched_b27 p0 (nI set) (nI w) s.1 s.2 u) fuel ((-4 : Int32), nI P + (-1)) = some (e, pkC (oN c P W) W (W - (w + 1)) set, x) := by
  have hP := hV.2.2.2.1
  have hW := hV.2.2.2.2.1
  have er : W - w = W - (w + 1) + 1 := by omega
  have ew : W - (W - (w + 1) + 1) = w := by omega
  have hVu : VR (u.1 122) P W dd := by rw [h122]; exact hV
  rw [← wF_pk (o := oN c P W) (W := W) (r := W - (w + 1)) (set := set) (P := P) (by omega) hP (fun p hp => oN_n (fun h => by omega))]
  refine ⟨1, nI (P - P) + (-1), ?_⟩
  refine lp_end (body := fun s => fX8_matched_b27 p0 (nI set) (nI w) s.1 s.2 u) (fun k => (wF (cdR (oN c P W) W (W - (w + 1)) set) P k, nI (P - k) + (-1))) (m := P) (e := 1) (by omega) (fun k hk => ?_) ?_ (by decide)
  · show fX8_matched_b27 p0 (nI set) (nI w) _ (nI (P - k) + (-1)) u = _
    have hp : P - 1 - k < P := by omega
    have ek : (nI (P - k) + (-1) : Int32) = nI (P - 1 - k) := by rw [m1_s (by omega), show P - k - 1 = P - 1 - k by omega]
    have hnext : (nI (P - 1 - k) + (-1) : Int32) = nI (P - (k + 1)) + (-1) := by rw [show P - (k + 1) = P - 1 - k by omega]
    rw [ek, wF_s]
    unfold fX8_matched_b27
    rw [if_neg (nI_pos (n := P - 1 - k) (by omega)), has_m u (by omega) (by omega), bd1s, worth_m hVu hw hp, bd1s, h122]
    generalize oN c P W = o at hR ⊢
    generalize hpp : P - 1 - k = p at hp hnext ⊢
    have b2 := DD_b o W (W - (w + 1)) (set ||| 2 ^ p)
    have j0 : fX8_matched_j53 p0 (nI set) (wF (cdR o W (W - (w + 1)) set) P k) (nI w) (nI p) 0 u = some (0, wF (cdR o W (W - (w + 1)) set) P k, nI (P - (k + 1)) + (-1)) := by
      unfold fX8_matched_j53 fX8_matched_j102 fX8_matched_j103
      rw [if_pos (by decide)]
      simp only [nm]
      rw [hnext]
    by_cases hm : memB set p = true
    · have hb : set / 2 ^ p % 2 = 1 := of_decide_eq_true hm
      rw [hb, if_neg (show ¬ nI 1 = 0 by decide), j0, if_neg]
      intro h
      unfold cdR okc at h
      rw [hm] at h
      simp at h
    · have hb : set / 2 ^ p % 2 = 0 := by
        have : ¬ set / 2 ^ p % 2 = 1 := fun h => hm (decide_eq_true h)
        omega
      rw [hb, if_pos (show nI 0 = 0 from rfl)]
      by_cases hop : 0 < o w p
      · have hok : okc o (W - (W - (w + 1) + 1)) set p = true := by
          rw [ew]
          unfold okc
          rw [decide_eq_true hop, Bool.eq_false_iff.mpr hm]
          rfl
        have hwv : wv 100 (o w p) = (if o w p = 1 then 100 else 100 - 1) := by
          unfold wv
          rw [if_neg (by omega)]
        have hwb : 99 ≤ wv 100 (o w p) ∧ wv 100 (o w p) ≤ 100 := by
          rw [hwv]
          split <;> omega
        have hlt64 := or_lt hs (show p < 6 by omega)
        have hv : (nI (wv 100 (o w p)) + u.1 128 (64 * (w + 1) + (set ||| 2 ^ p)) : Int32) = nI (vK 100 (addp (o w p) (DD o W (W - (w + 1)) (set ||| 2 ^ p)))) := by
          rw [hR (w + 1) (by omega) _ hlt64, nI_add, vK_add b2.1 (by decide), hwv]
        have b3 := addp_b (o := o w p) b2.1 b2.2
        have b4 := DD_b o W (W - w) set
        have c1 : vK 100 (addp (o w p) (DD o W (W - (w + 1)) (set ||| 2 ^ p))) ≤ 900 := by unfold vK; omega
        have c2 : vK 100 (DD o W (W - w) set) ≤ 900 := by unfold vK; omega
        unfold fX8_matched_j53 fX8_matched_j102 fX8_matched_j103
        rw [if_neg (by rw [ler0 (by omega)]; omega), nI_1, bit_or (by omega), e64, e64, if_pos (inbN (by omega) (by decide)), if_pos (inbN (by omega) (by decide)), nI_clamp (by omega), nI_clamp (by omega), hv, hR w (by omega) set hs]
        simp only [nm]
        rw [hnext]
        have hcd : cdR o W (W - (w + 1)) set p = decide (vK 100 (addp (o w p) (DD o W (W - (w + 1)) (set ||| 2 ^ p))) = vK 100 (DD o W (W - w) set)) := by
          unfold cdR
          rw [hok, Bool.true_and, ew, ← er]
        rw [hcd]
        by_cases he : vK 100 (addp (o w p) (DD o W (W - (w + 1)) (set ||| 2 ^ p))) = vK 100 (DD o W (W - w) set)
        · rw [if_pos (by rw [he]), if_pos (decide_eq_true he)]
        · rw [if_neg (fun h => he ((nI_eq (by omega) (by omega)).mp h)), if_neg (fun h => he (of_decide_eq_true h))]
      · rw [show o w p = 0 by omega, show wv 100 0 = 0 from rfl, show nI 0 = (0 : Int32) from rfl, j0, if_neg]
        intro h
        unfold cdR okc at h
        rw [ew, show o w p = 0 by omega] at h
        simp at h
  · show fX8_matched_b27 p0 (nI set) (nI w) _ (nI (P - P) + (-1)) u = _
    unfold fX8_matched_b27
    rw [if_pos (by rw [Nat.sub_self]; exact m1_neg)]
def whoP (o : Nat → Nat → Nat) (W : Nat) : Nat → Int32
  | 0 => -4
  | k + 1 => pkC o W (W - (k + 1)) (pS o W k)
theorem matched_m {u : Um} {P W dd wr : Nat} {c : Nat → Int32} (h122 : u.1 122 = c) (hV : VR c P W dd) (hP1 : 1 ≤ P) (hwr : wr < W) (hR : ∀ w, w ≤ W → RWm u (oN c P W) W w) : fX8_matched (nI wr) u = some (pkC (oN c P W) W (W - (wr + 1)) (pS (oN c P W) W wr)) := by
  have hP := hV.2.2.2.1
  have hW := hV.2.2.2.2.1
  unfold fX8_matched
  have hl := lp_end (body := fun s => fX8_matched_b8 (nI wr) s.1 s.2.1 s.2.2 u) (fun k => (nI (pS (oN c P W) W k), whoP (oN c P W) W k, nI k)) (m := wr + 1) (e := 1) (s' := (nI (pS (oN c P W) W (wr + 1)), whoP (oN c P W) W (wr + 1), nI (wr + 1))) (by omega) (fun k hk => ?_) ?_ (by decide)
  · rw [show ((0 : Int32), (-4 : Int32), (0 : Int32)) = (nI (pS (oN c P W) W 0), whoP (oN c P W) W 0, nI 0) from rfl, hl, bd4s]
    rfl
  · show fX8_matched_b8 (nI wr) _ _ (nI k) u = _
    obtain ⟨e, x, h1⟩ := b27_m (p0 := nI wr) h122 hV (show k < W by omega) (pS_lt (oN c P W) W k) hR
    unfold fX8_matched_b8 fX8_matched_j125
    rw [if_neg (nI_nlt (by omega) (by omega)), if_pos b183, cl1, h122, hV.1]
    simp only [nm]
    rw [show (nI P - 1 : Int32) = nI P + (-1) from by rw [m1_s (by omega)]; exact pk_sub (a := P) (b := 1) hP1, h1, bd3s, nI_1]
    show _ = some (0, nI (nxS (pS (oN c P W) W k) (pkC (oN c P W) W (W - (k + 1)) (pS (oN c P W) W k))), pkC (oN c P W) W (W - (k + 1)) (pS (oN c P W) W k), nI (k + 1))
    rcases pkC_in (oN c P W) W (W - (k + 1)) (pS (oN c P W) W k) with hp4 | ⟨p, p6, hpp⟩
    · rw [hp4, if_pos rfl]
      rfl
    · rw [hpp, if_neg (n4_ne (by omega)), bit_or p6]
      unfold nxS
      rw [if_neg (nI_pos (n := p) (by omega)), show nN (nI p) = p from nI_clamp (by omega)]
  · show fX8_matched_b8 (nI wr) _ _ (nI (wr + 1)) u = _
    unfold fX8_matched_b8
    rw [if_pos (nI_lt (by omega) (by omega))]
theorem s_match (a : Int32) : S22 (fX7_match a) (fX8_match a) := by
  intro u hI
  obtain ⟨P0, W0, dd0, hV0, hR0, -, -⟩ := IvC_get hI.1
  have hW08 := hV0.2.2.2.2.1
  rcases stand_or hI.1 with ⟨h1, h2, h3, h4, h5, h6⟩ | ⟨h1, h2, hC⟩
  · -- nothing stands
    by_cases ha : a = -1
    · refine ⟨-2, u, u, ?_, ?_, hI⟩
      · unfold fX7_match fX7_match_j18
        rw [if_pos ha, h1, bd1s, if_pos rfl]
      · unfold fX8_match fX8_match_j22
        rw [if_pos ha, h2, bd1s, if_pos rfl, if_pos ha]
    · have hout : a < 0 ∨ nI 0 ≤ a := by
        by_cases h : a < 0
        · exact Or.inl h
        · exact Or.inr (Int32.not_lt.mp h)
      refine ⟨-1, u, u, ?_, ?_, hI⟩
      · unfold fX7_match
        rw [if_neg ha, hasW_n (W := 0) h5 hout, bd1s, if_pos rfl]
      · unfold fX8_match fX8_match_j22
        rw [if_neg ha, wr_n (W := 0) h6 (by decide) hout, bd1s, if_pos rfl, h2, bd1s, if_pos rfl, bd1s, if_pos rfl, if_neg ha]
  · obtain ⟨P, W, dd, hP2, hW1, hd, hV, hR⟩ := hC
    have hP := hV.2.2.2.1
    have hW := hV.2.2.2.2.1
    obtain ⟨u1, e1, f1, f2, f3, f4⟩ := settle_c hR hV hW1
    have h122 : u1.1 122 = u.1 122 := f1 122 (by omega)
    obtain ⟨u2, e2, g1, g2, g3⟩ := lay_m (u := u1) (by rw [h122]; exact hV) hW1
    rw [h122] at g3
    have h122' : u2.1 122 = u.1 122 := (g1 122 (by decide)).trans h122
    have there1 : fX8_isThere u1 = some 1 := (there_fr h122).trans h2
    have hI2 : Inv u2 := Inv_fr hI (fun k hk => by rw [g1 k (by omega), f1 k (by omega)]) (by rw [g1 117 (by decide), f1 117 (by omega)]) (by rw [g1 117 (by decide), f1 117 (by omega)]) (g2.trans f2)
    by_cases ha : a = -1
    · refine ⟨nI (nC (oN (u.1 122) P W) W W), u1, u2, ?_, ?_, hI2⟩
      · unfold fX7_match fX7_match_j18 fX2_forgiven
        rw [if_pos ha, h1, bd1s, if_neg i10, e1, bd1s, if_pos ha, bd1s, f3]
      · unfold fX8_match fX8_match_j22
        have hb := DD_b (oN (u.1 122) P W) W W 0
        have hn := nC_e (oN (u.1 122) P W) W hW W (Nat.le_refl _)
        have h0 : (DD (oN (u.1 122) P W) W (W - W) (pS (oN (u.1 122) P W) W W)).1 = 0 := by rw [Nat.sub_self]; rfl
        have hval : u2.1 128 0 = nI (vK 100 (DD (oN (u.1 122) P W) W W 0)) := g3 0 (Nat.zero_le _) 0 (by decide)
        rw [if_pos ha, there1, bd1s, if_neg i10, e2, bd1s, if_pos ha, if_pos (by decide), cl0, hval, show (99 : Int32) = nI 99 from rfl, nI_add, show (nI (vK 100 (DD (oN (u.1 122) P W) W W 0) + 99) / 100 : Int32) = nI ((vK 100 (DD (oN (u.1 122) P W) W W 0) + 99) / 100) from pk_div (d := 100) (by unfold vK; omega) (by decide) (by decide)]
        congr 3
        unfold vK
        omega
    · rcases ix_of a (n := W) (by omega) with hout | ⟨w, hw, rfl⟩
      · refine ⟨-1, u, u, ?_, ?_, hI⟩
        · unfold fX7_match
          rw [if_neg ha, hasW_n (hR.2.1.trans hV.2.1) hout, bd1s, if_pos rfl]
        · unfold fX8_match
          rw [if_neg ha, wr_n hV.2.1 hW hout, bd1s, if_pos rfl, h2, bd1s, if_neg i10]
      · refine ⟨pkC (oN (u.1 122) P W) W (W - (w + 1)) (pS (oN (u.1 122) P W) W w), u1, u2, ?_, ?_, hI2⟩
        · unfold fX7_match fX7_match_j18 fX2_carrierOf
          rw [if_neg ha, hasW_y (hR.2.1.trans hV.2.1) hW hw, bd1s, if_neg i10, h1, bd1s, if_neg i10, e1, bd1s, if_neg ha, if_neg (nI_pos (n := w) (by omega)), if_pos ((ltr8 (by omega)).mpr (by omega)), if_pos (inbN (show w < 8 by omega) (by decide)), nI_clamp (by omega), bd1s, f4 w hw]
        · unfold fX8_match fX8_match_j22
          rw [if_neg ha, wr_y (by rw [h122]; exact hV.2.1) hW hw, bd1s, if_neg i10, there1, bd1s, if_neg i10, e2, bd1s, if_neg ha, matched_m h122' hV (by omega) hw g3, bd1s]
