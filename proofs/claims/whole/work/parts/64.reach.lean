/-! ===== reach ===== -/
def ovB (x y : Nat) : Bool := decide (x < 5) != decide (y < 5)
theorem sOv_B : ∀ x, x < 10 → ∀ y, y < 10 → sOv (nI x) (nI y) = ovB x y := by decide +kernel
def rIn (f : Nat) (odd : Bool) (x : Nat) : Nat → Nat := acc (fun k y => if (odd && ovB f (f - 3 + k)) = true then y else y ||| 2 ^ (f - 3 + k)) x
def rNx (m : Nat) (odd : Bool) : Nat := acc (fun f x => if m / 2 ^ f % 2 = 1 then rIn f odd x (min 9 (f + 3) + 1 - (f - 3)) else x) 0 10
def oddB (n : Nat) : Bool := decide (n % 2 = 1)
def rM (f par : Nat) : Nat → Nat
  | 0 => 2 ^ f
  | n + 1 => rNx (rM f par n) (oddB (par + n))
def anyB (m : Nat) (odd : Bool) (j : Nat) : Nat → Bool := acc (fun f b => b || (decide (m / 2 ^ f % 2 = 1) && decide ((if f ≤ j then j - f else f - j) ≤ 3) && (!odd || !ovB f j))) false
theorem rM_lt : ∀ f, f < 10 → ∀ par, par < 2 → ∀ n, n < 7 → rM f par n < 1024 := by decide +kernel
theorem rM_any : ∀ f, f < 10 → ∀ par, par < 2 → ∀ n, n < 6 → ∀ j, j < 10 → (if anyB (rM f par n) (oddB (par + n)) j 10 = true then 1 else 0) = rM f par (n + 1) / 2 ^ j % 2 := by decide +kernel
theorem rM_hit : ∀ f, f < 10 → ∀ par, par < 2 → ∀ t, t < 10 → ∃ n, n < 6 ∧ rM f par n / 2 ^ t % 2 = 1 := by decide +kernel
theorem r_lo : ∀ f, f < 10 → mxI 0 (nI f - 3) = nI (f - 3) ∧ mnI 9 (nI f + 3) = nI (min 9 (f + 3)) := by decide +kernel
theorem odd_I {d : Nat} (hd : d < 2 ^ 31) : irm (nI d) 2 = 0 ↔ oddB d = false := by
  rw [show irm (nI d) 2 = nI (d % 2) from irmN (d := 2) hd (by decide) (by decide), eqr0 (by omega)]
  unfold oddB
  rw [decide_eq_false_iff_not]
  omega
theorem barB (u : Um) {x y d : Nat} (hx : x < 10) (hy : y < 10) (hd : d < 2 ^ 31) : fX7_isBarred (nI x) (nI y) (nI d) u = some (if (oddB d && ovB x y) = true then 1 else 0) := by
  rw [bar_c u (by omega) (by omega), sOv_B x hx y hy]
  have h := odd_I hd
  cases ho : oddB d <;> cases hv : ovB x y
  · rw [if_pos (Or.inr rfl)]; rfl
  · rw [if_pos (Or.inl (h.mpr ho))]; rfl
  · rw [if_pos (Or.inr rfl)]; rfl
  · rw [if_neg]
    · rfl
    · intro h'
      rcases h' with h' | h'
      · rw [h.mp h'] at ho; cases ho
      · cases h'
theorem rIn_c (u : Um) {f d x : Nat} {p0 : Int32} (hf : f < 10) (hd : d < 2 ^ 31) : ∃ e z, lp (fun s => fX7_reachedNext_b40 p0 (nI d) (nI f) (nI (min 9 (f + 3))) s.1 s.2 u) fuel (nI x, nI (f - 3)) = some (e, nI (rIn f (oddB d) x (min 9 (f + 3) + 1 - (f - 3))), z) := by
  have hmin : min 9 (f + 3) ≤ 9 := Nat.min_le_left _ _
  have hlo : f - 3 ≤ min 9 (f + 3) := by omega
  refine ⟨1, nI (f - 3 + (min 9 (f + 3) + 1 - (f - 3))), ?_⟩
  refine lp_end (body := fun s => fX7_reachedNext_b40 p0 (nI d) (nI f) (nI (min 9 (f + 3))) s.1 s.2 u) (fun k => (nI (rIn f (oddB d) x k), nI (f - 3 + k))) (m := min 9 (f + 3) + 1 - (f - 3)) (e := 1) (by omega) (fun k hk => ?_) ?_ (by decide)
  · show fX7_reachedNext_b40 p0 (nI d) (nI f) (nI (min 9 (f + 3))) (nI (rIn f (oddB d) x k)) (nI (f - 3 + k)) u = _
    unfold fX7_reachedNext_b40 fX7_reachedNext_j64
    rw [if_neg (nI_nlt (by omega) (by omega)), barB u hf (by omega) hd, bd1s]
    simp only [nm, nI_1]
    rw [show rIn f (oddB d) x (k + 1) = (if (oddB d && ovB f (f - 3 + k)) = true then rIn f (oddB d) x k else rIn f (oddB d) x k ||| 2 ^ (f - 3 + k)) from rfl]
    by_cases hb : (oddB d && ovB f (f - 3 + k)) = true
    · rw [if_pos hb, if_neg i10, if_pos hb]; rfl
    · rw [if_neg hb, if_pos rfl, if_neg hb, show ((1 : Int32) <<< (nI (f - 3 + k) &&& 31)) = bitI (f - 3 + k) from rfl, bitI_e (by omega), nI_or]; rfl
  · show fX7_reachedNext_b40 p0 (nI d) (nI f) (nI (min 9 (f + 3))) _ (nI (f - 3 + (min 9 (f + 3) + 1 - (f - 3)))) u = _
    unfold fX7_reachedNext_b40
    rw [if_pos (nI_lt (by omega) (by omega))]
theorem rNx_c (u : Um) {m d : Nat} (hm : m < 1024) (hd : d < 2 ^ 31) : fX7_reachedNext (nI m) (nI d) u = some (nI (rNx m (oddB d))) := by
  unfold fX7_reachedNext
  have h := lp_end (body := fun s => fX7_reachedNext_b4 (nI m) (nI d) s.1 s.2 u) (fun k => (nI (acc (fun f x => if m / 2 ^ f % 2 = 1 then rIn f (oddB d) x (min 9 (f + 3) + 1 - (f - 3)) else x) 0 k), nI k)) (m := 10) (e := 1) (s' := (nI (rNx m (oddB d)), nI 10)) (by omega) (fun k hk => ?_) ?_ (by decide)
  · rw [show ((0 : Int32), (0 : Int32)) = (nI (acc (fun f x => if m / 2 ^ f % 2 = 1 then rIn f (oddB d) x (min 9 (f + 3) + 1 - (f - 3)) else x) 0 0), nI 0) from rfl, h, bd3s]
  · show fX7_reachedNext_b4 (nI m) (nI d) _ (nI k) u = _
    unfold fX7_reachedNext_b4 fX7_reachedNext_j70
    obtain ⟨l1, l2⟩ := r_lo k hk
    rw [if_neg (by rw [ltl9 (by omega)]; omega), bit_I (by omega) (by omega), acc_s]
    simp only [nm, nI_1]
    by_cases hb : m / 2 ^ k % 2 = 1
    · rw [hb, if_neg (show ¬ nI 1 = 0 by decide), l1, l2, if_pos rfl]
      obtain ⟨e, z, h1⟩ := rIn_c u (p0 := nI m) (x := acc (fun f x => if m / 2 ^ f % 2 = 1 then rIn f (oddB d) x (min 9 (f + 3) + 1 - (f - 3)) else x) 0 k) hk hd
      rw [h1, bd3s]
    · rw [show m / 2 ^ k % 2 = 0 by omega, if_pos (show nI 0 = 0 from rfl), if_neg (by decide)]
  · show fX7_reachedNext_b4 (nI m) (nI d) _ (nI 10) u = _
    unfold fX7_reachedNext_b4
    rw [if_pos (by decide)]
    rfl
theorem oddB_par (d n : Nat) : oddB (d + n) = oddB (d % 2 + n) := by
  unfold oddB
  exact decide_eq_decide.mpr (by omega)
theorem reach_c (u : Um) {f d t m : Nat} (hf : f < 10) (hd : d ≤ 20000) (ht : t < 10) (hm : m < 6) (h1 : ∀ v, v < m → ¬ rM f (d % 2) v / 2 ^ t % 2 = 1) (h2 : rM f (d % 2) m / 2 ^ t % 2 = 1) : fX7_daysToReach (nI f) (nI t) (nI d) u = some (nI m) := by
  unfold fX7_daysToReach
  simp only [nm]
  have h := lp_end (body := fun s => fX7_daysToReach_b7 (nI f) (nI t) (nI d) s.1 s.2 u) (fun k => (nI (rM f (d % 2) k), nI k)) (m := m) (e := 2) (s' := (nI (rM f (d % 2) m), nI m)) (by omega) (fun k hk => ?_) ?_ (by decide)
  · rw [show ((1 : Int32) <<< (nI f &&& 31)) = nI (rM f (d % 2) 0) from bitI_e (by omega), show (nI (rM f (d % 2) 0), (0 : Int32)) = (nI (rM f (d % 2) 0), nI 0) from rfl, h, bd3s, if_neg (by decide)]
  · show fX7_daysToReach_b7 (nI f) (nI t) (nI d) (nI (rM f (d % 2) k)) (nI k) u = _
    unfold fX7_daysToReach_b7
    have hlt := rM_lt f hf (d % 2) (by omega) k (by omega)
    rw [if_neg (show ¬ (18 : Int32) ≤ nI k from nI_ge (b := 18) (by omega) (by decide)), bit_I (by omega) (by omega), show rM f (d % 2) k / 2 ^ t % 2 = 0 from by have := h1 k hk; omega, if_pos (show nI 0 = 0 from rfl), nI_add, rNx_c u hlt (by omega), bd1s, oddB_par]
    simp only [nm, nI_1]
    rfl
  · show fX7_daysToReach_b7 (nI f) (nI t) (nI d) (nI (rM f (d % 2) m)) (nI m) u = _
    unfold fX7_daysToReach_b7
    have hlt := rM_lt f hf (d % 2) (by omega) m (by omega)
    rw [if_neg (show ¬ (18 : Int32) ≤ nI m from nI_ge (b := 18) (by omega) (by decide)), bit_I (by omega) (by omega), h2, if_neg (show ¬ nI 1 = 0 by decide)]
/-! the reference -/
theorem sI_sI {u : Um} {k i : Nat} {a b : Int32} : sI (sI u k i a) k i b = sI u k i b := by
  unfold sI
  rw [sIr_at]
  unfold sIr
  refine Prod.ext (funext fun j => ?_) rfl
  by_cases h : j = k
  · simp only [h, if_true]
    refine funext fun q => ?_
    by_cases hq : q = i
    · subst hq; rw [pk_us, pk_us]
    · rw [pk_un hq, pk_un hq, pk_un hq]
  · simp [h]
def bI (b : Bool) : Int32 := if b = true then 1 else 0
def R9 (u : Um) (m : Nat) : Prop := ∀ i, i < 10 → u.1 129 i = nI (m / 2 ^ i % 2)
theorem b10 {j : Nat} (h : j < 10) : inb (nI j) 10 = true := inbN h (by decide)
theorem mil_N (u : Um) {x y : Nat} (hx : x < 10) (hy : y < 10) : fX8_milesOf (nI x) (nI y) u = some (nI (if x ≤ y then y - x else x - y)) := by
  unfold fX8_milesOf
  by_cases h : x ≤ y
  · rw [if_pos (nI_le h (by omega)), if_pos h, pk_sub h]
  · rw [if_neg (nI_ge (by omega) (by omega)), if_neg h, pk_sub (by omega)]
theorem r110 {w : Um} {m j : Nat} {p0 p1 i3 : Int32} (odd : Bool) (hm : R9 w m) (hj : j < 10) : lp (fun s : Int32 × Um => fX8_reach_b110 p0 p1 i3 (bI (!odd)) (nI j) s.1 s.2) fuel ((0 : Int32), sI w 130 j 0) = some (1, nI 10, sI w 130 j (bI (anyB m odd j 10))) := by
  have h := lp_end (body := fun s : Int32 × Um => fX8_reach_b110 p0 p1 i3 (bI (!odd)) (nI j) s.1 s.2) (fun k => (nI k, sI w 130 j (bI (anyB m odd j k)))) (m := 10) (e := 1) (s' := (nI 10, sI w 130 j (bI (anyB m odd j 10)))) (by omega) (fun k hk => ?_) ?_ (by decide)
  · exact h
  · show fX8_reach_b110 p0 p1 i3 (bI (!odd)) (nI j) (nI k) (sI w 130 j (bI (anyB m odd j k))) = _
    have c0 : fX8_reach_j159 p0 p1 i3 (bI (!odd)) (nI j) (nI k) 0 (sI w 130 j (bI (anyB m odd j k))) = some (0, nI (k + 1), sI w 130 j (bI (anyB m odd j k))) := by
      unfold fX8_reach_j159 fX8_reach_j183
      rw [if_pos rfl, if_pos (b10 hj), if_pos (b10 hj), nI_clamp (by omega), sI_eq]
      simp only [nm, nI_1]
      rw [sI_sI]
    have c1 : fX8_reach_j159 p0 p1 i3 (bI (!odd)) (nI j) (nI k) 1 (sI w 130 j (bI (anyB m odd j k))) = some (0, nI (k + 1), sI w 130 j 1) := by
      unfold fX8_reach_j159 fX8_reach_j183
      rw [if_neg i10, if_pos (b10 hj), nI_clamp (by omega)]
      simp only [nm, nI_1]
      rw [sI_sI]
    unfold fX8_reach_b110 fX8_reach_j158 fX8_reach_j154
    rw [c0, c1, if_neg (by rw [lel10 (by omega)]; omega), if_pos (b10 hk), nI_clamp (by omega), sI_ne (by decide), hm k hk, mil_N _ hk hj, bd1s]
    rw [show anyB m odd j (k + 1) = (anyB m odd j k || (decide (m / 2 ^ k % 2 = 1) && decide ((if k ≤ j then j - k else k - j) ≤ 3) && (!odd || !ovB k j))) from rfl]
    by_cases hb : m / 2 ^ k % 2 = 1
    · rw [hb, if_pos (show nI 1 = 1 from rfl), decide_eq_true rfl]
      by_cases h3 : (if k ≤ j then j - k else k - j) ≤ 3
      · rw [if_neg (show ¬ (3 : Int32) < nI (if k ≤ j then j - k else k - j) from nI_nlt (b := _) (a := 3) h3 (by decide)), decide_eq_true h3]
        cases odd
        · rw [if_neg (show ¬ bI (!false) = 0 by decide)]
          simp [bI]
        · rw [if_pos (show bI (!true) = 0 from rfl), ov_m _ (by omega) (by omega), bd1s, sOv_B k hk j hj]
          cases ovB k j
          · rw [if_pos rfl, if_pos rfl]; simp [bI]
          · rw [if_neg (by decide)]; simp
      · rw [if_pos (show (3 : Int32) < nI (if k ≤ j then j - k else k - j) from nI_lt (a := 3) (by omega) (by split <;> omega)), decide_eq_false h3]
        simp
    · rw [show m / 2 ^ k % 2 = 0 by omega, if_neg (show ¬ nI 0 = 1 by decide), decide_eq_false (show ¬ 0 = 1 by decide)]
      simp
  · show fX8_reach_b110 p0 p1 i3 (bI (!odd)) (nI j) (nI 10) _ = _
    unfold fX8_reach_b110
    rw [if_pos (by decide)]
theorem r92 {w : Um} {m : Nat} {p0 p1 i3 : Int32} (odd : Bool) (hm : R9 w m) : ∃ w', lp (fun s : Int32 × Um => fX8_reach_b92 p0 p1 i3 (bI (!odd)) s.1 s.2) fuel ((0 : Int32), w) = some (1, nI 10, w') ∧ (∀ r, r ≠ 130 → w'.1 r = w.1 r) ∧ w'.2 = w.2 ∧ ∀ j, j < 10 → w'.1 130 j = bI (anyB m odd j 10) := by
  obtain ⟨e, q, h, he, h0, h1, h2, h3⟩ := lp_inv (body := fun s : Int32 × Um => fX8_reach_b92 p0 p1 i3 (bI (!odd)) s.1 s.2) (fun k s => s.1 = nI k ∧ (∀ r, r ≠ 130 → s.2.1 r = w.1 r) ∧ s.2.2 = w.2 ∧ ∀ j, j < k → s.2.1 130 j = bI (anyB m odd j 10)) (fun e s => e = 1 ∧ s.1 = nI 10 ∧ (∀ r, r ≠ 130 → s.2.1 r = w.1 r) ∧ s.2.2 = w.2 ∧ ∀ j, j < 10 → s.2.1 130 j = bI (anyB m odd j 10)) 10 (by omega) (fun k s hk hs' => by
    obtain ⟨x, v⟩ := s
    obtain ⟨h1, h2, h3, h4⟩ := hs'
    dsimp only at h1 h2 h3 h4
    subst h1
    show (_ ∧ ∃ s', fX8_reach_b92 p0 p1 i3 (bI (!odd)) (nI k) v = _ ∧ _) ∨ (∃ e s', _ ∧ fX8_reach_b92 p0 p1 i3 (bI (!odd)) (nI k) v = _ ∧ _)
    unfold fX8_reach_b92
    by_cases hk10 : k < 10
    · rw [if_neg (by rw [lel10 (by omega)]; omega), if_pos (b10 hk10), nI_clamp (by omega)]
      simp only [nm]
      rw [r110 odd (m := m) (fun i hi => by rw [h2 129 (by decide)]; exact hm i hi) hk10, bd3s, nI_1]
      refine Or.inl ⟨hk10, _, rfl, rfl, fun r hr => by rw [sI_ne hr]; exact h2 r hr, h3, fun j hj => ?_⟩
      show (sI v 130 k _).1 130 j = _
      by_cases hjk : j = k
      · subst hjk; exact sI_eq
      · rw [sI_ot hjk]; exact h4 j (by omega)
    · have : k = 10 := by omega
      subst this
      rw [if_pos (by decide)]
      exact Or.inr ⟨1, _, by decide, rfl, rfl, rfl, h2, h3, h4⟩) (s := ((0 : Int32), w)) ⟨rfl, fun _ _ => rfl, rfl, fun j hj => absurd hj (Nat.not_lt_zero j)⟩
  subst he
  obtain ⟨a1, a2⟩ := q
  dsimp only at h0 h1 h2 h3
  subst h0
  exact ⟨a2, h, h1, h2, h3⟩
theorem ln129 : ln 129 = 10 := by decide +kernel
theorem ln130 : ln 130 = 10 := by decide +kernel
theorem r87 {w : Um} {m n : Nat} {p0 p1 : Int32} (odd : Bool) (hm : R9 w m) : ∃ w', fX8_reach_j87 p0 p1 (nI n) (bI (!odd)) w = some (0, nI (n + 1), w') ∧ (∀ r, r ≠ 129 → r ≠ 130 → w'.1 r = w.1 r) ∧ w'.2 = w.2 ∧ ∀ j, j < 10 → w'.1 129 j = bI (anyB m odd j 10) := by
  obtain ⟨w1, e1, f1, f2, f3⟩ := r92 (p0 := p0) (p1 := p1) (i3 := nI n) odd hm
  obtain ⟨w2, e2, g1, g2, g3, g4⟩ := bring_spec (s := 130) (d := 129) (i0 := 0) (j0 := 0) (n := 10) (I := 0) (J := 0) (N := 10) rfl rfl rfl (by rw [ln130]; omega) (by rw [ln129]; omega) (by rw [ln130]; omega) (by rw [ln129]; omega) (Or.inl (by decide)) (by decide) w1
  refine ⟨w2, ?_, fun r h1 h2 => by rw [g1 r h1, f1 r h2], g2.trans f2, fun j hj => ?_⟩
  · unfold fX8_reach_j87
    rw [e1, bd3s, e2, bd1s]
    simp only [nm, nI_1]
  · have := g4 j hj
    rw [Nat.zero_add] at this
    rw [this]
    exact f3 j hj
theorem r22 {u : Um} {f p : Nat} {p1 : Int32} (hp : p < 6) (hat : u.1 122 (27 + p) = nI f) (hf : f < 10) : ∃ u', lp (fun s : Int32 × Um => fX8_reach_b22 (nI p) p1 s.1 s.2) fuel ((0 : Int32), u) = some (1, nI 10, u') ∧ (∀ r, r ≠ 129 → u'.1 r = u.1 r) ∧ u'.2 = u.2 ∧ R9 u' (2 ^ f) := by
  have tb : ∀ f, f < 10 → ∀ k, k < 10 → 2 ^ f / 2 ^ k % 2 = if k = f then 1 else 0 := by decide +kernel
  obtain ⟨e, q, h, he, h0, h1, h2, h3⟩ := lp_inv (body := fun s : Int32 × Um => fX8_reach_b22 (nI p) p1 s.1 s.2) (fun k s => s.1 = nI k ∧ (∀ r, r ≠ 129 → s.2.1 r = u.1 r) ∧ s.2.2 = u.2 ∧ ∀ j, j < k → s.2.1 129 j = nI (2 ^ f / 2 ^ j % 2)) (fun e s => e = 1 ∧ s.1 = nI 10 ∧ (∀ r, r ≠ 129 → s.2.1 r = u.1 r) ∧ s.2.2 = u.2 ∧ R9 s.2 (2 ^ f)) 10 (by omega) (fun k s hk hs' => by
    obtain ⟨x, v⟩ := s
    obtain ⟨h1, h2, h3, h4⟩ := hs'
    dsimp only at h1 h2 h3 h4
    subst h1
    show (_ ∧ ∃ s', fX8_reach_b22 (nI p) p1 (nI k) v = _ ∧ _) ∨ (∃ e s', _ ∧ fX8_reach_b22 (nI p) p1 (nI k) v = _ ∧ _)
    unfold fX8_reach_b22 fX8_reach_j51
    by_cases hk10 : k < 10
    · rw [if_neg (by rw [lel10 (by omega)]; omega), if_pos (ic27 (by omega)), ix27 (by omega), h2 122 (by decide), hat, if_pos (b10 hk10), if_pos (b10 hk10), nI_clamp (by omega)]
      simp only [nm, nI_1]
      refine Or.inl ⟨hk10, ?_⟩
      by_cases hkf : k = f
      · subst hkf
        rw [if_pos rfl]
        refine ⟨_, rfl, rfl, fun r hr => by rw [sI_ne hr]; exact h2 r hr, h3, fun j hj => ?_⟩
        show (sI v 129 k 1).1 129 j = _
        by_cases hjk : j = k
        · subst hjk; rw [sI_eq, tb j hf j hf, if_pos rfl]; rfl
        · rw [sI_ot hjk]; exact h4 j (by omega)
      · rw [if_neg (fun h => hkf ((nI_eq (by omega) (by omega)).mp h))]
        refine ⟨_, rfl, rfl, fun r hr => by rw [sI_ne hr]; exact h2 r hr, h3, fun j hj => ?_⟩
        show (sI v 129 k 0).1 129 j = _
        by_cases hjk : j = k
        · subst hjk; rw [sI_eq, tb f hf j hk10, if_neg hkf]; rfl
        · rw [sI_ot hjk]; exact h4 j (by omega)
    · have : k = 10 := by omega
      subst this
      rw [if_pos (by decide)]
      exact Or.inr ⟨1, _, by decide, rfl, rfl, rfl, h2, h3, h4⟩) (s := ((0 : Int32), u)) ⟨rfl, fun _ _ => rfl, rfl, fun j hj => absurd hj (Nat.not_lt_zero j)⟩
  subst he
  obtain ⟨a1, a2⟩ := q
  dsimp only at h0 h1 h2 h3
  subst h0
  exact ⟨a2, h, h1, h2, h3⟩
theorem r60 {u : Um} {f t d m : Nat} {p0 : Int32} (hf : f < 10) (hd : u.1 122 0 = nI d) (hd2 : d ≤ 20000) (ht : t < 10) (hm : m < 6) (h1 : ∀ v, v < m → ¬ rM f (d % 2) v / 2 ^ t % 2 = 1) (h2 : rM f (d % 2) m / 2 ^ t % 2 = 1) (hR : R9 u (2 ^ f)) : ∃ u', lp (fun s : Int32 × Um => fX8_reach_b60 p0 (nI t) s.1 s.2) fuel ((0 : Int32), u) = some (1, nI m, u') ∧ (∀ r, r ≠ 129 → r ≠ 130 → u'.1 r = u.1 r) ∧ u'.2 = u.2 := by
  obtain ⟨e, q, h, he, h0, g1, g2⟩ := lp_inv (body := fun s : Int32 × Um => fX8_reach_b60 p0 (nI t) s.1 s.2) (fun k s => s.1 = nI k ∧ (∀ r, r ≠ 129 → r ≠ 130 → s.2.1 r = u.1 r) ∧ s.2.2 = u.2 ∧ R9 s.2 (rM f (d % 2) k)) (fun e s => e = 1 ∧ s.1 = nI m ∧ (∀ r, r ≠ 129 → r ≠ 130 → s.2.1 r = u.1 r) ∧ s.2.2 = u.2) m (by omega) (fun k s hk hs' => by
    obtain ⟨x, v⟩ := s
    obtain ⟨a1, a2, a3, a4⟩ := hs'
    dsimp only at a1 a2 a3 a4
    subst a1
    show (_ ∧ ∃ s', fX8_reach_b60 p0 (nI t) (nI k) v = _ ∧ _) ∨ (∃ e s', _ ∧ fX8_reach_b60 p0 (nI t) (nI k) v = _ ∧ _)
    unfold fX8_reach_b60
    rw [if_pos (b10 ht), nI_clamp (by omega), a4 t ht]
    by_cases hkm : k < m
    · refine Or.inl ⟨hkm, ?_⟩
      rw [show rM f (d % 2) k / 2 ^ t % 2 = 0 from by have := h1 k hkm; omega, if_pos (show nI 0 = 0 from rfl), if_pos b083, cl0, a2 122 (by decide) (by decide), hd, nI_add]
      obtain ⟨w', e1, f1, f2, f3⟩ := r87 (n := k) (p0 := p0) (p1 := nI t) (oddB (d + k)) a4
      have ho := odd_I (show d + k < 2 ^ 31 by omega)
      have key : (if irm (nI (d + k)) 2 = 0 then fX8_reach_j87 p0 (nI t) (nI k) 1 v else fX8_reach_j87 p0 (nI t) (nI k) 0 v) = fX8_reach_j87 p0 (nI t) (nI k) (bI (!oddB (d + k))) v := by
        cases hc : oddB (d + k)
        · rw [if_pos (ho.mpr hc)]; rfl
        · rw [if_neg (fun h => by rw [ho.mp h] at hc; cases hc)]; rfl
      rw [key, e1]
      refine ⟨_, rfl, rfl, fun r b1 b2 => by rw [f1 r b1 b2]; exact a2 r b1 b2, f2.trans a3, fun j hj => ?_⟩
      show w'.1 129 j = _
      rw [f3 j hj, oddB_par, ← rM_any f hf (d % 2) (by omega) k (by omega) j hj]
      unfold bI
      split <;> rfl
    · have : k = m := by omega
      subst this
      rw [h2, if_neg (show ¬ nI 1 = 0 by decide)]
      exact Or.inr ⟨1, _, by decide, rfl, rfl, rfl, a2, a3⟩) (s := ((0 : Int32), u)) ⟨rfl, fun _ _ _ => rfl, rfl, hR⟩
  subst he
  obtain ⟨a1, a2⟩ := q
  dsimp only at h0 g1 g2
  subst h0
  exact ⟨a2, h, g1, g2⟩
theorem s_reach (a b : Int32) : S12 (fX7_reach a b) (fX8_reach a b) := by
  intro u hI
  obtain ⟨P, W, dd, hV, hR, hd, -⟩ := IvC_get hI.1
  have hP := hV.2.2.2.1
  unfold fX7_reach fX8_reach
  rcases ix_of a (n := P) (by omega) with ha | ⟨p, hp, rfl⟩
  · rw [hasP_n (hR.1.trans hV.1) ha, one_n hV.1 hP ha]
    exact ⟨-1, u, rfl, rfl, hI⟩
  rw [hasP_y (hR.1.trans hV.1) hP hp, one_y hV.1 hP hp, bd1s, bd1s, if_neg i10, if_neg i10]
  rcases ix_of b (n := 10) (by decide) with hb | ⟨t, ht, rfl⟩
  · rw [in_n (hi := 9) (hb.imp id (fun h => (last_lt (P := 10) (by decide)).mpr h)), bd1s, if_pos rfl]
    refine ⟨-1, u, ?_, rfl, hI⟩
    by_cases h0 : b < 0
    · rw [if_pos h0]
    · rw [if_neg h0, if_neg (show ¬ b ≤ 9 from fun h => Int32.not_le.mpr ((last_lt (P := 10) (by decide)).mpr (hb.resolve_left h0)) h)]
  rw [in_y (hi := 9) (nI_pos (by omega)) (by rw [ltl9 (by omega)]; omega), bd1s, if_neg i10, if_neg (nI_pos (n := t) (by omega)), if_pos ((ler9 (by omega)).mpr (by omega))]
  obtain ⟨f, f9, ef⟩ := (hV.2.2.2.2.2.2.1 p hp).2.2.2.2.1
  obtain ⟨m, m1, m2, m3⟩ := first_of (fun n => rM f (dd % 2) n / 2 ^ t % 2 = 1) 6
  have hm : m < 6 ∧ rM f (dd % 2) m / 2 ^ t % 2 = 1 := by
    rcases m3 with h | h
    · obtain ⟨n, n6, hn⟩ := rM_hit f (by omega) (dd % 2) (by omega) t ht
      exact absurd hn (m2 n (by omega))
    · exact h
  obtain ⟨u1, e1, a1, a2, a3⟩ := r22 (p1 := nI t) (show p < 6 by omega) ef (show f < 10 by omega)
  obtain ⟨u2, e2, b1, b2⟩ := r60 (p0 := nI p) (show f < 10 by omega) (by rw [a1 122 (by decide)]; exact hV.2.2.1) (show dd ≤ 20000 by omega) ht hm.1 m2 hm.2 a3
  refine ⟨nI m, u2, ?_, ?_, Inv_fr hI (fun k hk => by rw [b1 k (by omega) (by omega), a1 k (by omega)]) (by rw [b1 117 (by omega) (by omega), a1 117 (by omega)]) (by rw [b1 117 (by omega) (by omega), a1 117 (by omega)]) (by rw [b2, a2])⟩
  · rw [tR4 hR hP hp, bd1s]
    unfold fX0_day
    rw [bd1s, ef, hR.2.2.1, hV.2.2.1, reach_c u (by omega) (by omega) ht hm.1 m2 hm.2, bd1s]
  · rw [e1, bd3s, e2, bd3s]
