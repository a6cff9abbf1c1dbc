/-! ===== skills and kinds: the class ===== -/
theorem allB {p : Nat → Bool} : ∀ n, (acc (fun k b => b && p k) true n = true ↔ ∀ k, k < n → p k = true)
  | 0 => ⟨fun _ k hk => absurd hk (Nat.not_lt_zero k), fun _ => rfl⟩
  | n + 1 => by
    rw [acc_s, Bool.and_eq_true_iff, allB n]
    refine ⟨fun h k hk => ?_, fun h => ⟨fun k hk => h k (by omega), h n (by omega)⟩⟩
    by_cases e : k = n
    · subst e; exact h.2
    · exact h.1 k (by omega)
def fitB (S : Nat → Nat → Int32) (mk : Nat → Nat) (Y : Nat → Int64) (n v : Nat) : Bool := acc (fun k b => b && decide (Y k = (S v (mk k)).toInt64)) true n
def GT (u : Um) (S : Nat → Nat → Int32) (f0 f1 : Nat) : Prop := u.1 115 1 = nI f0 ∧ u.1 115 2 = nI f1 ∧ f0 ≤ f1 ∧ f1 ≤ 9 ∧ ∀ v m, f0 ≤ v → v ≤ f1 → m < 10 → u.1 116 (10 * v + m) = S v m
theorem sayAt {u : Um} {S : Nat → Nat → Int32} {f0 f1 v m : Nat} (h : GT u S f0 f1) (h0 : f0 ≤ v) (h1 : v ≤ f1) (hm : m < 10) : fX1_sayingAt (nI v) (nI m) u = some (S v m) := by
  have h9 := h.2.2.2.1
  have e : (nI v * 10 + nI m : Int32) = nI (10 * v + m) := by rw [show (10 : Int32) = nI 10 from rfl, pk_mul, nI_add, Nat.mul_comm]
  unfold fX1_sayingAt
  simp only [nm]
  rw [e, if_neg (nI_pos (by omega)), if_pos (show nI (10 * v + m) < (100 : Int32) from nI_lt (b := 100) (by omega) (by decide)), if_pos (inbN (by omega) (by decide)), nI_clamp (by omega), h.2.2.2.2 v m h0 h1 hm]
theorem e2k (i k : Nat) : (nI i + 2 * nI k : Int32) = nI (i + 2 * k) := by rw [show (2 : Int32) = nI 2 from rfl, pk_mul, nI_add]
theorem bI_01 (b : Bool) : (bI b = 0 ↔ ¬ b = true) := by cases b <;> decide
theorem fits_c {u : Um} {S : Nat → Nat → Int32} {f0 f1 v a i n : Nat} {mk : Nat → Nat} {Y : Nat → Int64} (h : GT u S f0 f1) (h0 : f0 ≤ v) (h1 : v ≤ f1) (hi : i + 2 * n ≤ 24) (hr : ∀ k, k < n → mk k < 10 ∧ u.2 (a + 1) (i + 2 * k) = lN (mk k) ∧ u.2 (a + 1) (i + 2 * k + 1) = Y k) : fX1_fits (nI v) a (nI i) (nI n) u = some (bI (fitB S mk Y n v)) := by
  unfold fX1_fits
  have body : ∀ k, k < n → fX1_fits_b3 (nI v) a (nI i) (nI n) (nI k) u = if Y k = (S v (mk k)).toInt64 then some (0, nI (k + 1)) else some (2, nI k) := by
    intro k hk
    obtain ⟨r1, r2, r3⟩ := hr k hk
    unfold fX1_fits_b3
    rw [if_neg (nI_ge hk (by omega)), e2k, get_c (show i + 2 * k < 24 by omega), bd1s, r2, lN_i]
    simp only [nm]
    rw [nI_1, get_c (show i + 2 * k + 1 < 24 by omega), bd1s, r3, sayAt h h0 h1 r1, bd1s, nI_1]
    by_cases hy : Y k = (S v (mk k)).toInt64
    · rw [if_pos ((lc_eq _ _).mpr hy), if_pos hy]
    · rw [if_neg (fun e => hy ((lc_eq _ _).mp e)), if_neg hy]
  obtain ⟨m, m1, m2, m3⟩ := first_of (fun k => ¬ Y k = (S v (mk k)).toInt64) n
  rcases m3 with m3 | ⟨m3, m4⟩
  · subst m3
    have hall : fitB S mk Y m v = true := (allB m).mpr (fun k hk => decide_eq_true (Classical.not_not.mp (m2 k hk)))
    have hl := lp_end (body := fun s => fX1_fits_b3 (nI v) a (nI i) (nI m) s u) (fun k => nI k) (m := m) (e := 1) (s' := nI m) (by omega) (fun k hk => by
      show fX1_fits_b3 (nI v) a (nI i) (nI m) (nI k) u = _
      rw [body k hk, if_pos (Classical.not_not.mp (m2 k hk))]) (by
      show fX1_fits_b3 (nI v) a (nI i) (nI m) (nI m) u = _
      unfold fX1_fits_b3
      rw [if_pos (nI_le (Nat.le_refl _) (by omega))]) (by decide)
    rw [show (0 : Int32) = nI 0 from rfl, hl, bd2s, if_pos rfl, hall]
    rfl
  · have hno : fitB S mk Y n v = false := by
      cases hb : fitB S mk Y n v
      · rfl
      · exact absurd (of_decide_eq_true ((allB n).mp hb m m3)) m4
    have hl := lp_end (body := fun s => fX1_fits_b3 (nI v) a (nI i) (nI n) s u) (fun k => nI k) (m := m) (e := 2) (s' := nI m) (by omega) (fun k hk => by
      show fX1_fits_b3 (nI v) a (nI i) (nI n) (nI k) u = _
      rw [body k (by omega), if_pos (Classical.not_not.mp (m2 k hk))]) (by
      show fX1_fits_b3 (nI v) a (nI i) (nI n) (nI m) u = _
      rw [body m m3, if_neg m4]) (by decide)
    rw [show (0 : Int32) = nI 0 from rfl, hl, bd2s, if_neg (by decide), hno]
    rfl
theorem fitting_c {u : Um} {S : Nat → Nat → Int32} {f0 f1 a i n : Nat} {mk : Nat → Nat} {Y : Nat → Int64} (h : GT u S f0 f1) (hi : i + 2 * n ≤ 24) (hr : ∀ k, k < n → mk k < 10 ∧ u.2 (a + 1) (i + 2 * k) = lN (mk k) ∧ u.2 (a + 1) (i + 2 * k + 1) = Y k) : fX1_fitting a (nI i) (nI n) u = some (nI (setF (fitB S mk Y n) f0 (f1 + 1 - f0))) := by
  obtain ⟨g1, g2, g3, g4, g5⟩ := id h
  unfold fX1_fitting
  simp only [nm]
  have hl := lp_end (body := fun s => fX1_fitting_b9 a (nI i) (nI n) s.1 s.2 u) (fun k => (nI (setF (fitB S mk Y n) f0 k), nI (f0 + k))) (m := f1 + 1 - f0) (e := 1) (s' := (nI (setF (fitB S mk Y n) f0 (f1 + 1 - f0)), nI (f0 + (f1 + 1 - f0)))) (by omega) (fun k hk => ?_) ?_ (by decide)
  · rw [g1, show ((0 : Int32), nI f0) = (nI (setF (fitB S mk Y n) f0 0), nI (f0 + 0)) from rfl, hl, bd3s]
  · show fX1_fitting_b9 a (nI i) (nI n) _ (nI (f0 + k)) u = _
    unfold fX1_fitting_b9 fX1_fitting_j39
    rw [g2, if_neg (nI_nlt (by omega) (by omega)), fits_c h (by omega) (by omega) hi hr, bd1s, setF_s]
    simp only [nm, nI_1]
    by_cases hb : fitB S mk Y n (f0 + k) = true
    · rw [if_neg (fun e => (bI_01 _).mp e hb), if_pos hb, show ((1 : Int32) <<< (nI (f0 + k) &&& 31)) = bitI (f0 + k) from rfl, bitI_e (by omega), nI_or]
      rfl
    · rw [if_pos ((bI_01 _).mpr hb), if_neg hb]
      rfl
  · show fX1_fitting_b9 a (nI i) (nI n) _ (nI (f0 + (f1 + 1 - f0))) u = _
    unfold fX1_fitting_b9
    rw [g2, if_pos (nI_lt (by omega) (by omega))]
def part (S : Nat → Nat → Int32) (M m c : Nat) : Nat := if memB M c = true then cnt (fun o => memB M o && decide (S o m = S c m)) 10 else 0
theorem part_c {u : Um} {S : Nat → Nat → Int32} {f0 f1 M m c : Nat} (h : GT u S f0 f1) (hM : M < 1024) (hmem : ∀ o, o < 10 → memB M o = true → f0 ≤ o ∧ o ≤ f1) (hm : m < 10) (h0 : f0 ≤ c) (h1 : c ≤ f1) : fX1_partLike (nI c) (nI M) (nI m) u = some (nI (part S M m c)) := by
  obtain ⟨g1, g2, g3, g4, g5⟩ := id h
  unfold fX1_partLike part
  simp only [nm]
  by_cases hc : memB M c = true
  · rw [if_pos hc]
    have p0 : cnt (fun o => memB M o && decide (S o m = S c m)) f0 = 0 := cnt_zero (fun k hk e => by
      have := (Bool.and_eq_true_iff.mp e).1
      have := hmem k (by omega) this
      omega)
    have p1 : cnt (fun o => memB M o && decide (S o m = S c m)) 10 = cnt (fun o => memB M o && decide (S o m = S c m)) (f0 + (f1 + 1 - f0)) := cnt_stop (by omega) (fun k k1 k2 e => by
      have := (Bool.and_eq_true_iff.mp e).1
      have := hmem k k2 this
      omega)
    rw [p1, ← cnt_sh p0]
    have hl := lp_end (body := fun s => fX1_partLike_b9 (nI c) (nI M) (nI m) s.1 s.2 u) (fun k => (nI (acc (fun k x => if (memB M (f0 + k) && decide (S (f0 + k) m = S c m)) = true then x + 1 else x) 0 k), nI (f0 + k))) (m := f1 + 1 - f0) (e := 1) (s' := (nI (acc (fun k x => if (memB M (f0 + k) && decide (S (f0 + k) m = S c m)) = true then x + 1 else x) 0 (f1 + 1 - f0)), nI (f0 + (f1 + 1 - f0)))) (by omega) (fun k hk => ?_) ?_ (by decide)
    · rw [g1, show ((0 : Int32), nI f0) = (nI (acc (fun k x => if (memB M (f0 + k) && decide (S (f0 + k) m = S c m)) = true then x + 1 else x) 0 0), nI (f0 + 0)) from rfl, hl, bd3s]
    · show fX1_partLike_b9 (nI c) (nI M) (nI m) _ (nI (f0 + k)) u = _
      unfold fX1_partLike_b9 fX1_partLike_j54
      rw [g2, if_neg (nI_nlt (by omega) (by omega)), if_neg (fun e => (bitB (by omega) (by omega)).mp e hc), acc_s, sayAt h (by omega) (by omega) hm, bd1s, sayAt h h0 h1 hm, bd1s]
      simp only [nm, nI_1]
      by_cases hb : memB M (f0 + k) = true
      · rw [if_neg (fun e => (bitB (by omega) (by omega)).mp e hb), hb, Bool.true_and]
        by_cases hs : S (f0 + k) m = S c m
        · rw [if_pos hs, if_pos (decide_eq_true hs)]; rfl
        · rw [if_neg hs, if_neg (fun e => hs (of_decide_eq_true e))]; rfl
      · rw [if_pos ((bitB (by omega) (by omega)).mpr hb), if_neg (fun e => hb (Bool.and_eq_true_iff.mp e).1)]; rfl
    · show fX1_partLike_b9 (nI c) (nI M) (nI m) _ (nI (f0 + (f1 + 1 - f0))) u = _
      unfold fX1_partLike_b9
      rw [g2, if_pos (nI_lt (by omega) (by omega))]
  · rw [if_neg hc]
    have hl : lp (fun s => fX1_partLike_b9 (nI c) (nI M) (nI m) s.1 s.2 u) fuel ((0 : Int32), nI f0) = some (1, (0 : Int32), nI f0) := by
      refine lp_end (body := fun s => fX1_partLike_b9 (nI c) (nI M) (nI m) s.1 s.2 u) (fun _ => ((0 : Int32), nI f0)) (m := 0) (e := 1) (by omega) (fun k hk => absurd hk (Nat.not_lt_zero k)) ?_ (by decide)
      show fX1_partLike_b9 (nI c) (nI M) (nI m) 0 (nI f0) u = _
      unfold fX1_partLike_b9
      rw [g2, if_neg (nI_nlt (by omega) (by omega)), if_pos ((bitB (by omega) (by omega)).mpr hc)]
    rw [g1, hl, bd3s]
    rfl
theorem cnt_le (p : Nat → Bool) : ∀ n, cnt p n ≤ n
  | 0 => Nat.le_refl _
  | n + 1 => by
    have := cnt_le p n
    rw [cnt_s]; split <;> omega
def gP (S : Nat → Nat → Int32) (M f0 f1 m : Nat) : Nat := mxA (fun k => part S M m (f0 + k)) (f1 + 1 - f0)
theorem gP_le (S : Nat → Nat → Int32) (M f0 f1 m : Nat) : gP S M f0 f1 m ≤ popX M := by
  refine mxA_le (fun k hk => ?_)
  show part S M m (f0 + k) ≤ _
  unfold part
  split
  · exact cnt_mono (fun o ho e => (Bool.and_eq_true_iff.mp e).1)
  · exact Nat.zero_le _
theorem popX_le (M : Nat) : popX M ≤ 10 := cnt_le _ 10
theorem mxIN {a b : Nat} (ha : a < 2 ^ 31) (hb : b < 2 ^ 31) : mxI (nI a) (nI b) = nI (max a b) := by
  unfold mxI
  by_cases h : a < b
  · rw [if_pos (nI_lt h hb), Nat.max_eq_right (by omega)]
  · rw [if_neg (nI_nlt (by omega) ha), Nat.max_eq_left (by omega)]
theorem gP_c {u : Um} {S : Nat → Nat → Int32} {f0 f1 M m : Nat} (h : GT u S f0 f1) (hM : M < 1024) (hmem : ∀ o, o < 10 → memB M o = true → f0 ≤ o ∧ o ≤ f1) (hm : m < 10) : fX1_greatestPart (nI M) (nI m) u = some (nI (gP S M f0 f1 m)) := by
  obtain ⟨g1, g2, g3, g4, g5⟩ := id h
  have pl : ∀ c, part S M m c ≤ 10 := fun c => by
    unfold part
    split
    · exact cnt_le _ _
    · exact Nat.zero_le _
  unfold fX1_greatestPart
  simp only [nm]
  have hl := lp_end (body := fun s => fX1_greatestPart_b8 (nI M) (nI m) s.1 s.2 u) (fun k => (nI (mxA (fun k => part S M m (f0 + k)) k), nI (f0 + k))) (m := f1 + 1 - f0) (e := 1) (s' := (nI (gP S M f0 f1 m), nI (f0 + (f1 + 1 - f0)))) (by omega) (fun k hk => ?_) ?_ (by decide)
  · rw [g1, show ((0 : Int32), nI f0) = (nI (mxA (fun k => part S M m (f0 + k)) 0), nI (f0 + 0)) from rfl, hl, bd3s]
  · show fX1_greatestPart_b8 (nI M) (nI m) _ (nI (f0 + k)) u = _
    have hb : mxA (fun k => part S M m (f0 + k)) k ≤ 10 := mxA_le (fun j _ => pl _)
    have := pl (f0 + k)
    unfold fX1_greatestPart_b8
    rw [g2, if_neg (nI_nlt (by omega) (by omega)), part_c h hM hmem hm (by omega) (by omega), bd1s]
    simp only [nm, nI_1]
    rw [mxIN (by omega) (by omega), mxA_s]
    rfl
  · show fX1_greatestPart_b8 (nI M) (nI m) _ (nI (f0 + (f1 + 1 - f0))) u = _
    unfold fX1_greatestPart_b8
    rw [g2, if_pos (nI_lt (by omega) (by omega))]
    rfl
def bT (G : Nat → Nat) (l0 : Nat) : Nat → Int32 × Nat := acc (fun m q => if G m < q.2 then (nI m, G m) else q) (-4, l0)
theorem bT_s (G : Nat → Nat) (l0 k : Nat) : bT G l0 (k + 1) = if G k < (bT G l0 k).2 then (nI k, G k) else bT G l0 k := rfl
theorem bT_eq {G : Nat → Nat} {l l' : Nat} (h : G 0 < l) (h' : G 0 < l') : ∀ k, bT G l (k + 1) = bT G l' (k + 1)
  | 0 => by
    rw [bT_s, bT_s, if_pos (show G 0 < (bT G l 0).2 from h), if_pos (show G 0 < (bT G l' 0).2 from h')]
  | k + 1 => by rw [bT_s, bT_s G l', bT_eq h h' k]
theorem bT_b {G : Nat → Nat} {l0 B : Nat} (hG : ∀ k, G k ≤ B) (h0 : l0 ≤ B) : ∀ k, (bT G l0 k).2 ≤ B
  | 0 => h0
  | k + 1 => by
    rw [bT_s]
    split
    · exact hG k
    · exact bT_b hG h0 k
theorem try_c {u : Um} {S : Nat → Nat → Int32} {f0 f1 M : Nat} (h : GT u S f0 f1) (hM : M < 1024) (hmem : ∀ o, o < 10 → memB M o = true → f0 ≤ o ∧ o ≤ f1) : fX1_bestTry (nI M) u = some (if M = 0 then -4 else (bT (gP S M f0 f1) 99 10).1) := by
  have pX := popX_le M
  have hG : ∀ k, gP S M f0 f1 k ≤ 99 := fun k => by have := gP_le S M f0 f1 k; omega
  unfold fX1_bestTry
  rw [popX_u hM, bd1s]
  simp only [nm, nI_1]
  by_cases h0 : M = 0
  · rw [if_pos h0]
    have hl : lp (fun s => fX1_bestTry_b13 (nI M) s.1 s.2.1 s.2.2 u) fuel ((-4 : Int32), nI (popX M + 1), (0 : Int32)) = some (1, (-4 : Int32), nI (popX M + 1), (0 : Int32)) := by
      refine lp_end (body := fun s => fX1_bestTry_b13 (nI M) s.1 s.2.1 s.2.2 u) (fun _ => ((-4 : Int32), nI (popX M + 1), (0 : Int32))) (m := 0) (e := 1) (by omega) (fun k hk => absurd hk (Nat.not_lt_zero k)) ?_ (by decide)
      show fX1_bestTry_b13 (nI M) (-4) (nI (popX M + 1)) 0 u = _
      unfold fX1_bestTry_b13
      rw [if_pos (by rw [h0]; rfl)]
    rw [hl, bd4s]
  · rw [if_neg h0, bT_eq (l := 99) (l' := popX M + 1) (by have := gP_le S M f0 f1 0; omega) (by have := gP_le S M f0 f1 0; omega) 9]
    have hn0 : ¬ nI M = 0 := nI_ne0 (by omega) (by omega)
    have hl := lp_end (body := fun s => fX1_bestTry_b13 (nI M) s.1 s.2.1 s.2.2 u) (fun k => ((bT (gP S M f0 f1) (popX M + 1) k).1, nI (bT (gP S M f0 f1) (popX M + 1) k).2, nI k)) (m := 10) (e := 1) (s' := ((bT (gP S M f0 f1) (popX M + 1) 10).1, nI (bT (gP S M f0 f1) (popX M + 1) 10).2, nI 10)) (by omega) (fun k hk => ?_) ?_ (by decide)
    · rw [show ((-4 : Int32), nI (popX M + 1), (0 : Int32)) = ((bT (gP S M f0 f1) (popX M + 1) 0).1, nI (bT (gP S M f0 f1) (popX M + 1) 0).2, nI 0) from rfl, hl, bd4s]
    · show fX1_bestTry_b13 (nI M) _ (nI (bT (gP S M f0 f1) (popX M + 1) k).2) (nI k) u = _
      have b1 := bT_b (l0 := popX M + 1) hG (by omega) k
      have b2 := hG k
      unfold fX1_bestTry_b13 fX1_bestTry_j45
      rw [if_neg hn0, if_neg (by rw [lel10 (by omega)]; omega), gP_c h hM hmem hk, bd1s, bT_s]
      simp only [nm, nI_1]
      by_cases hg : gP S M f0 f1 k < (bT (gP S M f0 f1) (popX M + 1) k).2
      · rw [if_neg (nI_ge hg (by omega)), if_pos hg]
      · rw [if_pos (nI_le (by omega) (by omega)), if_neg hg]
    · show fX1_bestTry_b13 (nI M) _ _ (nI 10) u = _
      unfold fX1_bestTry_b13
      rw [if_neg hn0, if_pos (by decide)]
def sgC (k s ca m : Int32) : Int32 := if k = 1 then s else if k = 2 then s + 2 else if k = 3 then s / 2 else if k = 4 then ca + 2 else if k = 5 then (s + 2) + m / 2 else 0
theorem sg_c (k s ca m : Int32) (u : Um) : fX7_sayingOf k s ca m u = some (sgC k s ca m) := by
  unfold fX7_sayingOf sgC
  split <;> try rfl
  split <;> try rfl
  split <;> try rfl
  split <;> try rfl
  split <;> rfl
theorem sg_s {k s ca m : Int32} {n : Nat} (h1 : 1 ≤ n) (h5 : n ≤ 5) (hk : k = nI n) : sgC k s ca m = sSay k s ca m := by
  have a := sg_c k s ca m uZ
  have b := say_c (s := s) (ca := ca) (m := m) uZ h1 h5 hk
  rw [a] at b
  exact Option.some.inj b
theorem e10 {k : Nat} (hk : k < 100) : (nI k / 10 : Int32) = nI (k / 10) ∧ irm (nI k) 10 = nI (k % 10) := ⟨pk_div (d := 10) (by omega) (by decide) (by decide), irmN (d := 10) (by omega) (by decide) (by decide)⟩
theorem ask_c {u : Um} {P W dd p : Nat} {c : Nat → Int32} (hR : RC u 3 c P W) (hV : VR c P W dd) (hp : p < P) : ∃ u', fX1_amongSkills 3 (nI p) u = some u' ∧ (∀ k, k ≠ 115 → k ≠ 116 → u'.1 k = u.1 k) ∧ u'.2 = u.2 ∧ GT u' (fun v m => sSay (c (3 + p)) (nI v) (c (39 + p)) (nI m)) 0 9 := by
  have hP := hV.2.2.2.1
  obtain ⟨kk, k1, k5, ek⟩ := (hV.2.2.2.2.2.2.1 p hp).1
  unfold fX1_amongSkills
  simp only [nm]
  obtain ⟨e, q, h, h1, h2, h3⟩ := lp_inv (body := fun s : Int32 × Um => fX1_amongSkills_b13 3 (nI p) s.1 s.2) (fun k s => s.1 = nI k ∧ (∀ r, r ≠ 116 → s.2.1 r = (sI (sI u 115 1 0) 115 2 9).1 r) ∧ s.2.2 = u.2 ∧ ∀ j, j < k → s.2.1 116 j = sSay (c (3 + p)) (nI (j / 10)) (c (39 + p)) (nI (j % 10))) (fun e s => (∀ r, r ≠ 116 → s.2.1 r = (sI (sI u 115 1 0) 115 2 9).1 r) ∧ s.2.2 = u.2 ∧ ∀ j, j < 100 → s.2.1 116 j = sSay (c (3 + p)) (nI (j / 10)) (c (39 + p)) (nI (j % 10))) 100 (by omega) (fun k s hk hs' => by
    obtain ⟨x, w⟩ := s
    obtain ⟨h1, h2, h3, h4⟩ := hs'
    dsimp only at h1 h2 h3 h4
    subst h1
    show (_ ∧ ∃ s', fX1_amongSkills_b13 3 (nI p) (nI k) w = _ ∧ _) ∨ (∃ e s', _ ∧ fX1_amongSkills_b13 3 (nI p) (nI k) w = _ ∧ _)
    unfold fX1_amongSkills_b13
    by_cases hk10 : k < 100
    · have hRw : RC w 3 c P W := RC_fr hR (by rw [h2 3 (by decide), sI_ne (by decide), sI_ne (by decide)]) (by rw [h2 4 (by decide), sI_ne (by decide), sI_ne (by decide)]) (by rw [h2 5 (by decide), sI_ne (by decide), sI_ne (by decide)])
      rw [if_neg (show ¬ (100 : Int32) ≤ nI k from nI_ge (b := 100) hk10 (by decide)), tR0 hRw hP hp, bd1s, tR6 hRw hP hp, bd1s, (e10 hk10).1, (e10 hk10).2, sg_c, bd1s, if_pos (inbN hk10 (by decide)), nI_clamp (by omega), sg_s k1 k5 ek]
      simp only [nm, nI_1]
      refine Or.inl ⟨hk10, _, rfl, rfl, fun r hr => by rw [sI_ne hr]; exact h2 r hr, h3, fun j hj => ?_⟩
      show (sI w 116 k _).1 116 j = _
      by_cases hjk : j = k
      · subst hjk; exact sI_eq
      · rw [sI_ot hjk]; exact h4 j (by omega)
    · have : k = 100 := by omega
      subst this
      rw [if_pos (by decide)]
      exact Or.inr ⟨1, _, by decide, rfl, h2, h3, h4⟩) (s := ((0 : Int32), sI (sI u 115 1 0) 115 2 9)) ⟨rfl, fun _ _ => rfl, rfl, fun j hj => absurd hj (Nat.not_lt_zero j)⟩
  rw [h]
  refine ⟨q.2, rfl, fun k k1 k2 => by rw [h1 k k2, sI_ne k1, sI_ne k1], h2, ?_, ?_, by decide, by decide, fun v m _ hv hm => ?_⟩
  · rw [h1 115 (by decide), sI_ot (by decide), sI_eq]; rfl
  · rw [h1 115 (by decide), sI_eq]; rfl
  · rw [h3 (10 * v + m) (by omega), show (10 * v + m) / 10 = v by omega, show (10 * v + m) % 10 = m by omega]
theorem akd_c {u : Um} {P W dd p : Nat} {c : Nat → Int32} (hR : RC u 3 c P W) (hV : VR c P W dd) (hp : p < P) : ∃ u', fX1_amongKinds 3 (nI p) u = some u' ∧ (∀ k, k ≠ 115 → k ≠ 116 → u'.1 k = u.1 k) ∧ u'.2 = u.2 ∧ GT u' (fun v m => sSay (nI v) (c (9 + p)) (c (39 + p)) (nI m)) 1 5 := by
  have hP := hV.2.2.2.1
  unfold fX1_amongKinds
  simp only [nm]
  obtain ⟨e, q, h, h1, h2, h3⟩ := lp_inv (body := fun s : Int32 × Um => fX1_amongKinds_b12 3 (nI p) s.1 s.2) (fun k s => s.1 = nI k ∧ (∀ r, r ≠ 116 → s.2.1 r = (sI (sI u 115 1 1) 115 2 5).1 r) ∧ s.2.2 = u.2 ∧ ∀ j, j < k → s.2.1 116 j = sgC (nI (j / 10)) (c (9 + p)) (c (39 + p)) (nI (j % 10))) (fun e s => (∀ r, r ≠ 116 → s.2.1 r = (sI (sI u 115 1 1) 115 2 5).1 r) ∧ s.2.2 = u.2 ∧ ∀ j, j < 100 → s.2.1 116 j = sgC (nI (j / 10)) (c (9 + p)) (c (39 + p)) (nI (j % 10))) 100 (by omega) (fun k s hk hs' => by
    obtain ⟨x, w⟩ := s
    obtain ⟨h1, h2, h3, h4⟩ := hs'
    dsimp only at h1 h2 h3 h4
    subst h1
    show (_ ∧ ∃ s', fX1_amongKinds_b12 3 (nI p) (nI k) w = _ ∧ _) ∨ (∃ e s', _ ∧ fX1_amongKinds_b12 3 (nI p) (nI k) w = _ ∧ _)
    unfold fX1_amongKinds_b12
    by_cases hk10 : k < 100
    · have hRw : RC w 3 c P W := RC_fr hR (by rw [h2 3 (by decide), sI_ne (by decide), sI_ne (by decide)]) (by rw [h2 4 (by decide), sI_ne (by decide), sI_ne (by decide)]) (by rw [h2 5 (by decide), sI_ne (by decide), sI_ne (by decide)])
      rw [if_neg (show ¬ (100 : Int32) ≤ nI k from nI_ge (b := 100) hk10 (by decide)), tR1 hRw hP hp, bd1s, tR6 hRw hP hp, bd1s, (e10 hk10).1, (e10 hk10).2, sg_c, bd1s, if_pos (inbN hk10 (by decide)), nI_clamp (by omega)]
      simp only [nm, nI_1]
      refine Or.inl ⟨hk10, _, rfl, rfl, fun r hr => by rw [sI_ne hr]; exact h2 r hr, h3, fun j hj => ?_⟩
      show (sI w 116 k _).1 116 j = _
      by_cases hjk : j = k
      · subst hjk; exact sI_eq
      · rw [sI_ot hjk]; exact h4 j (by omega)
    · have : k = 100 := by omega
      subst this
      rw [if_pos (by decide)]
      exact Or.inr ⟨1, _, by decide, rfl, h2, h3, h4⟩) (s := ((0 : Int32), sI (sI u 115 1 1) 115 2 5)) ⟨rfl, fun _ _ => rfl, rfl, fun j hj => absurd hj (Nat.not_lt_zero j)⟩
  rw [h]
  refine ⟨q.2, rfl, fun k k1 k2 => by rw [h1 k k2, sI_ne k1, sI_ne k1], h2, ?_, ?_, by decide, by decide, fun v m v0 hv hm => ?_⟩
  · rw [h1 115 (by decide), sI_ot (by decide), sI_eq]; rfl
  · rw [h1 115 (by decide), sI_eq]; rfl
  · rw [h3 (10 * v + m) (by omega), show (10 * v + m) / 10 = v by omega, show (10 * v + m) % 10 = m by omega]
    exact sg_s v0 hv rfl
