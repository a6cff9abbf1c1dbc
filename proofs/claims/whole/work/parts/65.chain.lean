/-! ===== chain ===== -/
theorem php : ∀ (P : Nat) (x : Nat → Nat), (∀ i, i ≤ P → x i < P) → ∃ i j, i < j ∧ j ≤ P ∧ x i = x j
  | 0, x, h => absurd (h 0 (Nat.le_refl _)) (Nat.not_lt_zero _)
  | P + 1, x, h => by
    by_cases hh : ∃ i, i ≤ P ∧ x i = x (P + 1)
    · obtain ⟨i, h1, h2⟩ := hh
      exact ⟨i, P + 1, by omega, Nat.le_refl _, h2⟩
    · have hne : ∀ i, i ≤ P → ¬ x i = x (P + 1) := fun i hi he => hh ⟨i, hi, he⟩
      obtain ⟨i, j, h1, h2, h3⟩ := php P (fun i => if x i = P then x (P + 1) else x i) (fun i hi => by
        have a1 := h i (by omega)
        have a2 := h (P + 1) (Nat.le_refl _)
        have a3 := hne i hi
        show (if x i = P then x (P + 1) else x i) < P
        split <;> omega)
      refine ⟨i, j, h1, by omega, ?_⟩
      have b1 := hne i (by omega)
      have b2 := hne j h2
      have h3' : (if x i = P then x (P + 1) else x i) = (if x j = P then x (P + 1) else x j) := h3
      split at h3' <;> split at h3' <;> omega
def itr (g : Int32 → Int32) : Nat → Int32 → Int32
  | 0, x => x
  | n + 1, x => g (itr g n x)
theorem itr_add (g : Int32 → Int32) (n : Nat) (x : Int32) : ∀ m, itr g (m + n) x = itr g m (itr g n x)
  | 0 => by rw [Nat.zero_add]; rfl
  | m + 1 => by
    rw [show m + 1 + n = (m + n) + 1 by omega]
    show g (itr g (m + n) x) = g (itr g m (itr g n x))
    rw [itr_add g n x m]
theorem itr_z {g : Int32 → Int32} {z : Int32} (h : g z = z) : ∀ n, itr g n z = z
  | 0 => rfl
  | n + 1 => by
    show g (itr g n z) = z
    rw [itr_z h n, h]
theorem itr_mul {g : Int32 → Int32} {k : Nat} {y : Int32} (h : itr g k y = y) : ∀ t, itr g (t * k) y = y
  | 0 => by rw [Nat.zero_mul]; rfl
  | t + 1 => by rw [show (t + 1) * k = k + t * k by rw [Nat.add_mul]; omega, itr_add, itr_mul h t, h]
/-- all that the two sides need of a walk that ends in z or comes round -/
theorem walk {g : Int32 → Int32} {z x0 : Int32} {P : Nat} (hz : g z = z) (hP1 : 1 ≤ P) (hP : P ≤ 6) (hx : ∀ n, itr g n x0 = z ∨ ∃ q, q < P ∧ itr g n x0 = nI q) : ∃ N, N ≤ P ∧ (∀ a, a < N → ¬ itr g a x0 = z ∧ ∀ k, 1 ≤ k → k ≤ 6 → ¬ itr g k (itr g a x0) = itr g a x0) ∧
    ((itr g N x0 = z ∧ itr g P x0 = z) ∨ (¬ itr g N x0 = z ∧ ¬ itr g P x0 = z ∧ ∃ K, 1 ≤ K ∧ K ≤ P ∧ itr g K (itr g N x0) = itr g N x0 ∧ itr g K (itr g P x0) = itr g P x0 ∧ (∀ k, 1 ≤ k → k < K → ¬ itr g k (itr g N x0) = itr g N x0 ∧ ¬ itr g k (itr g P x0) = itr g P x0))) := by
  have zz : ∀ {a b : Nat}, a ≤ b → itr g a x0 = z → itr g b x0 = z := by
    intro a b hab ha
    have := itr_add g a x0 (b - a)
    rw [show b - a + a = b by omega, ha, itr_z hz] at this
    exact this
  have tail : itr g P x0 = z ∨ ∃ d, 1 ≤ d ∧ d ≤ P ∧ itr g d (itr g P x0) = itr g P x0 := by
    by_cases h : ∃ n, n ≤ P ∧ itr g n x0 = z
    · obtain ⟨n, h1, h2⟩ := h
      exact Or.inl (zz h1 h2)
    · have hq : ∀ n, n ≤ P → ∃ q, q < P ∧ itr g n x0 = nI q := fun n hn => (hx n).resolve_left (fun e => h ⟨n, hn, e⟩)
      obtain ⟨i, j, h1, h2, h3⟩ := php P (fun n => nN (itr g n x0)) (fun n hn => by
        obtain ⟨q, q1, q2⟩ := hq n hn
        show nN (itr g n x0) < P
        rw [q2, show nN (nI q) = q from nI_clamp (by omega)]
        exact q1)
      have hij : itr g i x0 = itr g j x0 := by
        obtain ⟨q, q1, q2⟩ := hq i (by omega)
        obtain ⟨q', q1', q2'⟩ := hq j h2
        have h3' : nN (itr g i x0) = nN (itr g j x0) := h3
        rw [q2, q2', show nN (nI q) = q from nI_clamp (by omega), show nN (nI q') = q' from nI_clamp (by omega)] at h3'
        rw [q2, q2', h3']
      refine Or.inr ⟨j - i, by omega, by omega, ?_⟩
      have e1 : itr g (j - i) (itr g i x0) = itr g i x0 := by
        rw [← itr_add, show j - i + i = j by omega, hij]
      rw [show itr g P x0 = itr g (P - i) (itr g i x0) from by rw [← itr_add, show P - i + i = P by omega], ← itr_add, Nat.add_comm, itr_add, e1]
  obtain ⟨N, n1, n2, n3⟩ := first_of (fun a => itr g a x0 = z ∨ ∃ k, 1 ≤ k ∧ k ≤ 6 ∧ itr g k (itr g a x0) = itr g a x0) P
  have hL : itr g N x0 = z ∨ ∃ k, 1 ≤ k ∧ k ≤ 6 ∧ itr g k (itr g N x0) = itr g N x0 := by
    rcases n3 with h | h
    · subst h
      rcases tail with h | ⟨d, d1, d2, d3⟩
      · exact Or.inl h
      · exact Or.inr ⟨d, d1, by omega, d3⟩
    · exact h.2
  refine ⟨N, n1, fun a ha => ⟨fun e => n2 a ha (Or.inl e), fun k k1 k6 e => n2 a ha (Or.inr ⟨k, k1, k6, e⟩)⟩, ?_⟩
  by_cases hPz : itr g P x0 = z
  · refine Or.inl ⟨?_, hPz⟩
    rcases hL with h | ⟨k, k1, k6, k3⟩
    · exact h
    · have e := itr_mul k3 P
      rw [← itr_add] at e
      rw [← e]
      exact zz (by have := Nat.mul_le_mul (Nat.le_refl P) k1; omega) hPz
  · have hNz : ¬ itr g N x0 = z := fun e => hPz (zz n1 e)
    refine Or.inr ⟨hNz, hPz, ?_⟩
    obtain ⟨k, k1, k6, k3⟩ := hL.resolve_left hNz
    have hNP : itr g P x0 = itr g (P - N) (itr g N x0) := by rw [← itr_add, show P - N + N = P by omega]
    have up : ∀ d, itr g d (itr g N x0) = itr g N x0 → itr g d (itr g P x0) = itr g P x0 := by
      intro d hd
      rw [hNP, ← itr_add, Nat.add_comm, itr_add, hd]
    have down : ∀ d, itr g d (itr g P x0) = itr g P x0 → itr g d (itr g N x0) = itr g N x0 := by
      intro d hd
      have e := itr_mul k3 P
      have hle : P - N ≤ P * k := by have := Nat.mul_le_mul (Nat.le_refl P) k1; omega
      have e2 : itr g (P * k - (P - N)) (itr g P x0) = itr g N x0 := by
        rw [hNP, ← itr_add, show P * k - (P - N) + (P - N) = P * k by omega, e]
      rw [← e2, ← itr_add, Nat.add_comm, itr_add, hd]
    obtain ⟨d, d1, d2, d3⟩ := tail.resolve_left hPz
    obtain ⟨m, m1, m2, m3⟩ := first_of (fun j => itr g (j + 1) (itr g N x0) = itr g N x0) d
    have hm : m < d ∧ itr g (m + 1) (itr g N x0) = itr g N x0 := by
      rcases m3 with h | h
      · have := m2 (d - 1) (by omega)
        rw [show d - 1 + 1 = d by omega] at this
        exact absurd (down d d3) this
      · exact h
    refine ⟨m + 1, by omega, by omega, hm.2, up _ hm.2, fun j j1 jm => ?_⟩
    have := m2 (j - 1) (by omega)
    rw [show j - 1 + 1 = j by omega] at this
    exact ⟨this, fun e => this (down j e)⟩
def gW (c : Nat → Int32) (x : Int32) : Int32 := if x = -4 then -4 else c (33 + nN x)
theorem gW_z (c : Nat → Int32) : gW c (-4) = -4 := if_pos rfl
theorem gW_n (c : Nat → Int32) {q : Nat} (h : q < 2 ^ 31) : gW c (nI q) = c (33 + q) := by
  unfold gW
  rw [if_neg (n4_ne h), show nN (nI q) = q from nI_clamp h]
theorem gW_in {c : Nat → Int32} {P W dd p : Nat} (hV : VR c P W dd) (hp : p < P) : ∀ n, itr (gW c) n (nI p) = -4 ∨ ∃ q, q < P ∧ itr (gW c) n (nI p) = nI q
  | 0 => Or.inr ⟨p, hp, rfl⟩
  | n + 1 => by
    have hP := hV.2.2.2.1
    show gW c (itr (gW c) n (nI p)) = -4 ∨ ∃ q, q < P ∧ gW c (itr (gW c) n (nI p)) = nI q
    rcases gW_in hV hp n with h | ⟨q, q1, q2⟩
    · rw [h, gW_z]; exact Or.inl rfl
    · rw [q2, gW_n c (by omega)]
      exact (hV.2.2.2.2.2.2.1 q q1).2.2.2.2.2.1
theorem wa_c {u : Um} {a P W dd p n : Nat} {c : Nat → Int32} {x : Int32} (hR : RC u a c P W) (hV : VR c P W dd) (hx : ∀ k, itr (gW c) k x = -4 ∨ ∃ q, q < P ∧ itr (gW c) k x = nI q) (hn : n ≤ 100) : fX0_wantedAfter a x (nI n) u = some (itr (gW c) n x) := by
  have hP := hV.2.2.2.1
  unfold fX0_wantedAfter
  obtain ⟨m, m1, m2, m3⟩ := first_of (fun k => itr (gW c) k x = -4) n
  have h := lp_end (body := fun s => fX0_wantedAfter_b5 a x (nI n) s.1 s.2 u) (fun k => (itr (gW c) k x, nI k)) (m := m) (e := 1) (s' := (itr (gW c) m x, nI m)) (by omega) (fun k hk => ?_) ?_ (by decide)
  · rw [show (x, (0 : Int32)) = (itr (gW c) 0 x, nI 0) from rfl, h, bd3s]
    rcases m3 with e | ⟨e1, e2⟩
    · rw [e]
    · have e3 := itr_add (gW c) m x (n - m)
      rw [show n - m + m = n by omega, e2, itr_z (gW_z c)] at e3
      rw [e2, e3]
  · show fX0_wantedAfter_b5 a x (nI n) (itr (gW c) k x) (nI k) u = _
    unfold fX0_wantedAfter_b5
    have hk4 := m2 k hk
    obtain ⟨q, q1, q2⟩ := (hx k).resolve_left hk4
    rw [if_neg (nI_ge (by omega) (by omega)), if_neg hk4, q2, tR5 hR hP q1, bd1s]
    simp only [nm, nI_1]
    show _ = some (0, gW c (itr (gW c) k x), nI (k + 1))
    rw [q2, gW_n c (by omega)]
  · show fX0_wantedAfter_b5 a x (nI n) (itr (gW c) m x) (nI m) u = _
    unfold fX0_wantedAfter_b5
    rcases m3 with e | ⟨e1, e2⟩
    · subst e
      rw [if_pos (nI_le (Nat.le_refl _) (by omega))]
    · rw [if_neg (nI_ge (by omega) (by omega)), if_pos e2]
theorem st_m {u : Um} {P W dd : Nat} {x : Int32} (hV : VR (u.1 122) P W dd) (hx4 : ¬ x = -4) (hx : ∀ k, itr (gW (u.1 122)) k x = -4 ∨ ∃ q, q < P ∧ itr (gW (u.1 122)) k x = nI q) : (∀ K, 1 ≤ K → K ≤ 6 → itr (gW (u.1 122)) K x = x → (∀ k, 1 ≤ k → k < K → ¬ itr (gW (u.1 122)) k x = x) → fX8_stepsTo x x u = some (nI K)) ∧ ((∀ k, 1 ≤ k → k ≤ 6 → ¬ itr (gW (u.1 122)) k x = x) → fX8_stepsTo x x u = some (-4)) := by
  have hP := hV.2.2.2.1
  have step : ∀ k, ¬ itr (gW (u.1 122)) k x = -4 → k < 6 → fX8_stepsTo_b5 x x (itr (gW (u.1 122)) k x) (nI (k + 1)) u = if itr (gW (u.1 122)) (k + 1) x = x then some (2, itr (gW (u.1 122)) (k + 1) x, nI (k + 1)) else some (0, itr (gW (u.1 122)) (k + 1) x, nI (k + 1 + 1)) := by
    intro k hk hk6
    obtain ⟨q, q1, q2⟩ := (hx k).resolve_left hk
    have e : itr (gW (u.1 122)) (k + 1) x = u.1 122 (33 + q) := by
      show gW (u.1 122) (itr (gW (u.1 122)) k x) = _
      rw [q2, gW_n _ (by omega)]
    unfold fX8_stepsTo_b5
    rw [if_neg (by rw [ltl6 (by omega)]; omega), if_neg hk, e, q2, if_pos (ic33 (by omega)), ix33 (by omega)]
    simp only [nm, nI_1]
  unfold fX8_stepsTo
  refine ⟨fun K k1 k6 hK hmin => ?_, fun hno => ?_⟩
  · have nz : ∀ k, k < K → ¬ itr (gW (u.1 122)) k x = -4 := by
      intro k hk e
      have e3 := itr_add (gW (u.1 122)) k x (K - k)
      rw [show K - k + k = K by omega, e, itr_z (gW_z _), hK] at e3
      exact hx4 e3
    have h := lp_end (body := fun s => fX8_stepsTo_b5 x x s.1 s.2 u) (fun k => (itr (gW (u.1 122)) k x, nI (k + 1))) (m := K - 1) (e := 2) (s' := (itr (gW (u.1 122)) K x, nI K)) (by omega) (fun k hk => by
      show fX8_stepsTo_b5 x x (itr (gW (u.1 122)) k x) (nI (k + 1)) u = _
      rw [step k (nz k (by omega)) (by omega), if_neg (hmin (k + 1) (by omega) (by omega))]) (by
      show fX8_stepsTo_b5 x x (itr (gW (u.1 122)) (K - 1) x) (nI (K - 1 + 1)) u = _
      rw [step (K - 1) (nz _ (by omega)) (by omega), show K - 1 + 1 = K by omega, if_pos hK]) (by decide)
    rw [show (x, (1 : Int32)) = (itr (gW (u.1 122)) 0 x, nI (0 + 1)) from rfl, h, bd3s, if_neg (by decide)]
  · obtain ⟨m, m1, m2, m3⟩ := first_of (fun k => itr (gW (u.1 122)) k x = -4) 6
    have h := lp_end (body := fun s => fX8_stepsTo_b5 x x s.1 s.2 u) (fun k => (itr (gW (u.1 122)) k x, nI (k + 1))) (m := m) (e := 1) (s' := (itr (gW (u.1 122)) m x, nI (m + 1))) (by omega) (fun k hk => by
      show fX8_stepsTo_b5 x x (itr (gW (u.1 122)) k x) (nI (k + 1)) u = _
      rw [step k (m2 k hk) (by omega), if_neg (hno (k + 1) (by omega) (by omega))]) (by
      show fX8_stepsTo_b5 x x (itr (gW (u.1 122)) m x) (nI (m + 1)) u = _
      unfold fX8_stepsTo_b5
      rcases m3 with e | ⟨e1, e2⟩
      · subst e; rw [if_pos (by decide)]
      · rw [if_neg (by rw [ltl6 (by omega)]; omega), if_pos e2]) (by decide)
    rw [show (x, (1 : Int32)) = (itr (gW (u.1 122)) 0 x, nI (0 + 1)) from rfl, h, bd3s, if_pos rfl]
theorem shift_in {g : Int32 → Int32} {P : Nat} {x : Int32} (hx : ∀ k, itr g k x = -4 ∨ ∃ q, q < P ∧ itr g k x = nI q) (n : Nat) : ∀ k, itr g k (itr g n x) = -4 ∨ ∃ q, q < P ∧ itr g k (itr g n x) = nI q := by
  intro k
  rw [← itr_add]
  exact hx (k + n)
theorem s_chain (a b : Int32) : S11 (fX7_chain a b) (fX8_chain a b) := by
  intro u hI
  obtain ⟨P, W, dd, hV, hR, hd, hz⟩ := IvC_get hI.1
  have hP := hV.2.2.2.1
  unfold fX7_chain fX8_chain
  rcases ix_of a (n := P) (by omega) with ha | ⟨p, hp, rfl⟩
  · rw [hasP_n (hR.1.trans hV.1) ha, one_n hV.1 hP ha]
    exact ⟨-1, rfl, rfl⟩
  rw [hasP_y (hR.1.trans hV.1) hP hp, one_y hV.1 hP hp, bd1s, bd1s, if_neg i10, if_neg i10]
  rcases ix_of b (n := 2) (by decide) with hb | ⟨z, hz2, rfl⟩
  · rw [in01_n u hb, bd1s, if_pos rfl]
    refine ⟨-1, ?_, rfl⟩
    by_cases h0 : b < 0
    · rw [if_pos h0]
    · rw [if_neg h0, if_neg (show ¬ b ≤ 1 from fun h => Int32.not_le.mpr ((last_lt (P := 2) (by decide)).mpr (hb.resolve_left h0)) h)]
  rw [in01_y u hz2, bd1s, if_neg i10, if_neg (nI_pos (n := z) (by omega)), if_pos ((ler1 (by omega)).mpr (by omega))]
  have hx := gW_in hV hp
  obtain ⟨N, n1, n2, n3⟩ := walk (gW_z (u.1 122)) (by omega) hP hx
  have e2 : u.1 3 2 = nI P := hR.1.trans hV.1
  have wa : ∀ n, n ≤ 100 → fX0_wantedAfter 3 (nI p) (nI n) u = some (itr (gW (u.1 122)) n (nI p)) := fun n hn => wa_c (p := p) hR hV hx hn
  -- the reference's walk ends at N
  have hlp : (itr (gW (u.1 122)) N (nI p) = -4 ∨ ∃ K, fX8_stepsTo (itr (gW (u.1 122)) N (nI p)) (itr (gW (u.1 122)) N (nI p)) u = some (nI K) ∧ K ≤ 6) → lp (fun s => fX8_chain_b24 (nI p) (nI z) s.1 s.2 u) fuel (nI p, (0 : Int32)) = some (1, itr (gW (u.1 122)) N (nI p), nI N) := by
    intro hN
    refine lp_end (body := fun s => fX8_chain_b24 (nI p) (nI z) s.1 s.2 u) (fun k => (itr (gW (u.1 122)) k (nI p), nI k)) (m := N) (e := 1) (by omega) (fun k hk => ?_) ?_ (by decide)
    · show fX8_chain_b24 (nI p) (nI z) (itr (gW (u.1 122)) k (nI p)) (nI k) u = _
      obtain ⟨k4, kn⟩ := n2 k hk
      obtain ⟨q, q1, q2⟩ := (hx k).resolve_left k4
      have hst := (st_m hV k4 (shift_in hx k)).2 kn
      unfold fX8_chain_b24
      rw [if_neg k4, hst, bd1s, if_pos rfl, q2, if_pos (ic33 (by omega)), ix33 (by omega)]
      simp only [nm, nI_1]
      show _ = some (0, gW (u.1 122) (itr (gW (u.1 122)) k (nI p)), nI (k + 1))
      rw [q2, gW_n _ (by omega)]
    · show fX8_chain_b24 (nI p) (nI z) (itr (gW (u.1 122)) N (nI p)) (nI N) u = _
      unfold fX8_chain_b24
      by_cases h4 : itr (gW (u.1 122)) N (nI p) = -4
      · rw [if_pos h4]
      · obtain ⟨K, k1, k2⟩ := hN.resolve_left h4
        rw [if_neg h4, k1, bd1s, if_neg (n4_ne (by omega))]
  rcases n3 with ⟨m1, m2⟩ | ⟨m1, m2, K, k1, k2, k3, k4, k5⟩
  · -- it ends
    have hround : fX0_chainRound 3 (nI p) u = some 0 := by
      unfold fX0_chainRound
      rw [e2, wa P (by omega), bd1s, if_pos m2]
    rw [hlp (Or.inl m1), bd3s]
    by_cases hz0 : nI z = 0
    · rw [if_pos hz0, if_pos hz0]
      refine ⟨nI N, ?_, rfl⟩
      unfold fX0_chainAhead
      rw [hround, bd1s]
      have h := lp_end (body := fun s => fX0_chainAhead_b8 3 (nI p) 0 s u) (fun k => nI k) (m := N) (e := 1) (s' := nI N) (by omega) (fun k hk => ?_) ?_ (by decide)
      · rw [show (0 : Int32) = nI 0 from rfl] at h ⊢
        rw [h, bd2s, bd1s]
      · show fX0_chainAhead_b8 3 (nI p) 0 (nI k) u = _
        unfold fX0_chainAhead_b8 fX0_chainAhead_j39
        rw [e2, if_neg (nI_ge (by omega) (by omega)), wa k (by omega), bd1s, if_pos rfl, if_neg (n2 k hk).1]
        simp only [nm, nI_1]
      · show fX0_chainAhead_b8 3 (nI p) 0 (nI N) u = _
        unfold fX0_chainAhead_b8 fX0_chainAhead_j39
        by_cases hNP : P ≤ N
        · rw [e2, if_pos (nI_le hNP (by omega))]
        · rw [e2, if_neg (nI_ge (by omega) (by omega)), wa N (by omega), bd1s, if_pos rfl, if_pos m1]
    · rw [if_neg hz0, if_neg hz0, if_pos m1, hround]
      exact ⟨0, rfl, rfl⟩
  · -- it comes round
    have hround : fX0_chainRound 3 (nI p) u = some (nI K) := by
      unfold fX0_chainRound
      rw [e2, wa P (by omega), bd1s, if_neg m2]
      have h := lp_end (body := fun s => fX0_chainRound_b20 3 (nI p) (itr (gW (u.1 122)) P (nI p)) s u) (fun k => nI (k + 1)) (m := K - 1) (e := 1) (s' := nI K) (by omega) (fun k hk => ?_) ?_ (by decide)
      · rw [show (1 : Int32) = nI (0 + 1) from rfl, h, bd2s]
      · show fX0_chainRound_b20 3 (nI p) (itr (gW (u.1 122)) P (nI p)) (nI (k + 1)) u = _
        unfold fX0_chainRound_b20
        rw [e2, if_neg (nI_ge (by omega) (by omega)), wa_c (p := p) hR hV (shift_in hx P) (show k + 1 ≤ 100 by omega), bd1s, if_neg (k5 (k + 1) (by omega) (by omega)).2]
        simp only [nm, nI_1]
      · show fX0_chainRound_b20 3 (nI p) (itr (gW (u.1 122)) P (nI p)) (nI (K - 1 + 1)) u = _
        rw [show K - 1 + 1 = K by omega]
        unfold fX0_chainRound_b20
        by_cases hPK : P ≤ K
        · rw [e2, if_pos (nI_le hPK (by omega))]
        · rw [e2, if_neg (nI_ge (by omega) (by omega)), wa_c (p := p) hR hV (shift_in hx P) (show K ≤ 100 by omega), bd1s, if_pos k4]
    have hst : fX8_stepsTo (itr (gW (u.1 122)) N (nI p)) (itr (gW (u.1 122)) N (nI p)) u = some (nI K) := (st_m hV m1 (shift_in hx N)).1 K k1 (by omega) k3 (fun k j1 j2 => (k5 k j1 j2).1)
    rw [hlp (Or.inr ⟨K, hst, by omega⟩), bd3s]
    by_cases hz0 : nI z = 0
    · rw [if_pos hz0, if_pos hz0]
      refine ⟨nI N, ?_, rfl⟩
      unfold fX0_chainAhead
      rw [hround, bd1s]
      have hK0 : ¬ nI K = 0 := nI_ne0 (by omega) (by omega)
      have h := lp_end (body := fun s => fX0_chainAhead_b8 3 (nI p) (nI K) s u) (fun k => nI k) (m := N) (e := 1) (s' := nI N) (by omega) (fun k hk => ?_) ?_ (by decide)
      · rw [show (0 : Int32) = nI 0 from rfl, h, bd2s, bd1s]
      · show fX0_chainAhead_b8 3 (nI p) (nI K) (nI k) u = _
        unfold fX0_chainAhead_b8 fX0_chainAhead_j39
        rw [e2, if_neg (nI_ge (by omega) (by omega)), wa k (by omega), bd1s, if_neg hK0, nI_add, wa (k + K) (by omega), bd1s, if_neg]
        · simp only [nm, nI_1]
        · intro e
          refine (n2 k hk).2 K k1 (by omega) ?_
          rw [← itr_add, Nat.add_comm]
          exact e.symm
      · show fX0_chainAhead_b8 3 (nI p) (nI K) (nI N) u = _
        unfold fX0_chainAhead_b8 fX0_chainAhead_j39
        by_cases hNP : P ≤ N
        · rw [e2, if_pos (nI_le hNP (by omega))]
        · rw [e2, if_neg (nI_ge (by omega) (by omega)), wa N (by omega), bd1s, if_neg hK0, nI_add, wa (N + K) (by omega), bd1s, if_pos]
          rw [Nat.add_comm, itr_add, k3]
    · rw [if_neg hz0, if_neg hz0, if_neg m1, hround, hst]
      exact ⟨nI K, rfl, rfl⟩
