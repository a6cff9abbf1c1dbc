/-! ===== skills and kinds: the reference, and both ===== -/
theorem bd5s {α β δ ε ζ γ : Type} (a : α) (b : β) (d : δ) (e : ε) (f : ζ) (k : α → β → δ → ε → ζ → Option γ) : bd5 (some (a, b, d, e, f)) k = k a b d e f := rfl
theorem say_m (k s ca m : Int32) (u : Um) : fX8_saidBy k s ca m u = some (sSay k s ca m) := by
  unfold fX8_saidBy sSay
  split <;> try rfl
  split <;> try rfl
  split <;> try rfl
  split <;> rfl
/-- what one would say, as the reference reckons it in memory u -/
def SM (u : Um) (p : Nat) (kb : Int32) (S : Nat → Nat → Int32) : Prop := ∀ v m, fX8_saidAs (nI p) kb (nI v) (nI m) u = some (S v m)
theorem SM_sk {u : Um} {p : Nat} (hp : p < 6) : SM u p 0 (fun v m => sSay (u.1 122 (3 + p)) (nI v) (u.1 122 (39 + p)) (nI m)) := by
  intro v m
  unfold fX8_saidAs
  rw [if_pos rfl, if_pos (ic3 (by omega)), if_pos (ic39 (by omega)), ix3 (by omega), ix39 (by omega), say_m, bd1s]
theorem SM_kd {u : Um} {p : Nat} (hp : p < 6) : SM u p 1 (fun v m => sSay (nI v) (u.1 122 (9 + p)) (u.1 122 (39 + p)) (nI m)) := by
  intro v m
  unfold fX8_saidAs
  rw [if_neg i10, if_pos (ic9 (by omega)), if_pos (ic39 (by omega)), ix9 (by omega), ix39 (by omega), say_m, bd1s]
theorem SM_fr {u u' : Um} {p : Nat} {kb : Int32} {S : Nat → Nat → Int32} (h : SM u p kb S) (e : u'.1 122 = u.1 122) : SM u' p kb S := by
  intro v m
  have := h v m
  unfold fX8_saidAs at this ⊢
  rw [e]
  exact this
theorem fitI_m {u : Um} {p at0 n v : Nat} {kb i5 : Int32} {S : Nat → Nat → Int32} {mk : Nat → Nat} {Y : Nat → Int64} (hS : SM u p kb S) (ha : at0 + 2 * n ≤ 96) (hr : ∀ k, k < n → u.2 120 (at0 + 2 * k) = lN (mk k) ∧ u.2 120 (at0 + 2 * k + 1) = Y k) : lp (fun s => fX8_fitBy_b35 (nI p) kb (nI at0) (nI n) i5 (nI v) s.1 s.2 u) fuel ((1 : Int32), (0 : Int32)) = some (1, bI (fitB S mk Y n v), nI n) := by
  refine lp_end (body := fun s => fX8_fitBy_b35 (nI p) kb (nI at0) (nI n) i5 (nI v) s.1 s.2 u) (fun k => (bI (acc (fun k b => b && decide (Y k = (S v (mk k)).toInt64)) true k), nI k)) (m := n) (e := 1) (by omega) (fun k hk => ?_) ?_ (by decide)
  · show fX8_fitBy_b35 (nI p) kb (nI at0) (nI n) i5 (nI v) (bI (acc (fun k b => b && decide (Y k = (S v (mk k)).toInt64)) true k)) (nI k) u = _
    obtain ⟨r1, r2⟩ := hr k hk
    unfold fX8_fitBy_b35 fX8_fitBy_j89 fX8_fitBy_j90
    rw [if_neg (nI_ge hk (by omega)), acc_s]
    simp only [nm, nI_1]
    generalize acc (fun k b => b && decide (Y k = (S v (mk k)).toInt64)) true k = b
    cases b
    · rw [if_pos (show bI false = 0 from rfl)]; rfl
    · rw [if_neg (show ¬ bI true = 0 by decide), e2k, if_pos (inbN (by omega) (by decide)), nI_clamp (by omega), r1, lN_i, hS v (mk k), bd1s, nI_1, if_pos (inbN (by omega) (by decide)), nI_clamp (by omega), r2, Bool.true_and]
      by_cases hy : Y k = (S v (mk k)).toInt64
      · rw [if_pos ((lc_eq _ _).mpr hy.symm), decide_eq_true hy]; rfl
      · rw [if_neg (fun e => hy ((lc_eq _ _).mp e).symm), decide_eq_false hy]; rfl
  · show fX8_fitBy_b35 (nI p) kb (nI at0) (nI n) i5 (nI v) _ (nI n) u = _
    unfold fX8_fitBy_b35
    rw [if_pos (nI_le (Nat.le_refl _) (by omega))]
    rfl
theorem fit_m {u : Um} {p at0 n f0 f1 : Nat} {kb : Int32} {S : Nat → Nat → Int32} {mk : Nat → Nat} {Y : Nat → Int64} (hS : SM u p kb S) (ha : at0 + 2 * n ≤ 96) (hr : ∀ k, k < n → u.2 120 (at0 + 2 * k) = lN (mk k) ∧ u.2 120 (at0 + 2 * k + 1) = Y k) (hk : (kb = 0 ∧ f0 = 0 ∧ f1 = 9) ∨ (kb = 1 ∧ f0 = 1 ∧ f1 = 5)) : fX8_fitBy (nI p) kb (nI at0) (nI n) u = some (nI (setF (fitB S mk Y n) f0 (f1 + 1 - f0))) := by
  have hf : f0 ≤ f1 ∧ f1 ≤ 9 ∧ f0 ≤ 1 := by omega
  have hb14 : ∀ s5 s6 : Int32, fX8_fitBy_b14 (nI p) kb (nI at0) (nI n) s5 s6 u = fX8_fitBy_j26 (nI p) kb (nI at0) (nI n) s5 s6 (nI f1) s6 u := by
    intro s5 s6
    unfold fX8_fitBy_b14
    rcases hk with ⟨h1, h2, h3⟩ | ⟨h1, h2, h3⟩
    · rw [if_pos h1, h3]; rfl
    · rw [if_neg (by rw [h1]; decide), h3]; rfl
  have hl := lp_end (body := fun s => fX8_fitBy_b14 (nI p) kb (nI at0) (nI n) s.1 s.2 u) (fun k => (nI (setF (fitB S mk Y n) f0 k), nI (f0 + k))) (m := f1 + 1 - f0) (e := 1) (s' := (nI (setF (fitB S mk Y n) f0 (f1 + 1 - f0)), nI (f0 + (f1 + 1 - f0)))) (by omega) (fun k hk => by
    show fX8_fitBy_b14 (nI p) kb (nI at0) (nI n) _ (nI (f0 + k)) u = _
    rw [hb14]
    unfold fX8_fitBy_j26 fX8_fitBy_j113
    rw [if_neg (nI_nlt (by omega) (by omega)), fitI_m (mk := mk) (Y := Y) hS ha hr, bd3s, setF_s]
    simp only [nm, nI_1]
    by_cases hb : fitB S mk Y n (f0 + k) = true
    · rw [if_neg (fun e => (bI_01 _).mp e hb), if_pos hb, show ((1 : Int32) <<< (nI (f0 + k) &&& 31)) = bitI (f0 + k) from rfl, bitI_e (by omega), nI_or]
      rfl
    · rw [if_pos ((bI_01 _).mpr hb), if_neg hb, Int32.or_zero]
      rfl) (by
    show fX8_fitBy_b14 (nI p) kb (nI at0) (nI n) _ (nI (f0 + (f1 + 1 - f0))) u = _
    rw [hb14]
    unfold fX8_fitBy_j26
    rw [if_pos (nI_lt (by omega) (by omega))]) (by decide)
  unfold fX8_fitBy fX8_fitBy_j12
  rcases hk with ⟨h1, h2, h3⟩ | ⟨h1, h2, h3⟩
  · subst h1; subst h2; subst h3
    rw [if_pos rfl, show ((0 : Int32), (0 : Int32)) = (nI (setF (fitB S mk Y n) 0 0), nI (0 + 0)) from rfl, hl, bd3s]
  · subst h1; subst h2; subst h3
    rw [if_neg i10, show ((0 : Int32), (1 : Int32)) = (nI (setF (fitB S mk Y n) 1 0), nI (1 + 0)) from rfl, hl, bd3s]
/-! the best try -/
def parV (S : Nat → Nat → Int32) (M m o : Nat) : Int32 := if memB M o = true then S o m else -1 - nI o
theorem neg_o {o : Nat} (ho : o < 10) : (-1 - nI o : Int32).toInt = -1 - (o : Int) := by
  have key : ∀ o, o < 10 → (-1 - nI o : Int32).toInt = -1 - (o : Int) := by decide +kernel
  exact key o ho
theorem alike_eq {S : Nat → Nat → Int32} {M m v : Nat} (hv : v < 10) (hS : ∀ o, o < 10 → memB M o = true → ∃ x : Nat, x < 100000 ∧ S o m = nI x) : cnt (fun o => decide (parV S M m o = parV S M m v)) (v + 1) = if memB M v = true then cnt (fun o => memB M o && decide (S o m = S v m)) (v + 1) else 1 := by
  by_cases hm : memB M v = true
  · rw [if_pos hm]
    obtain ⟨x, x1, x2⟩ := hS v hv hm
    refine cnt_congr (fun o ho => ?_)
    unfold parV
    rw [if_pos hm]
    by_cases ho2 : memB M o = true
    · rw [if_pos ho2, ho2, Bool.true_and]
    · rw [if_neg ho2, Bool.eq_false_iff.mpr ho2, Bool.false_and]
      refine decide_eq_false (fun e => ?_)
      have h1 := congrArg Int32.toInt e
      rw [x2, neg_o (by omega), nI_toInt (by omega)] at h1
      omega
  · rw [if_neg hm, cnt_s, if_pos (by simp), cnt_zero (fun o ho e => ?_)]
    have e' : parV S M m o = parV S M m v := of_decide_eq_true e
    unfold parV at e'
    rw [if_neg hm] at e'
    have h1 := congrArg Int32.toInt e'
    rw [neg_o hv] at h1
    by_cases ho2 : memB M o = true
    · obtain ⟨x, x1, x2⟩ := hS o (by omega) ho2
      rw [if_pos ho2, x2, nI_toInt (by omega)] at h1
      omega
    · rw [if_neg ho2, neg_o (by omega)] at h1
      omega
theorem b74_m {u : Um} {v : Nat} {f : Nat → Int32} {p0 p1 p2 i4 i5 i6 i7 : Int32} (hv : v < 10) (hf : ∀ o, o ≤ v → u.1 132 o = f o) : lp (fun s : Int32 × Int32 × Um => fX8_bestMiles_b74 p0 p1 p2 i4 i5 i6 i7 (nI v) s.1 s.2.1 s.2.2) fuel ((0 : Int32), (0 : Int32), u) = some (1, nI (cnt (fun o => decide (f o = f v)) (v + 1)), nI (v + 1), u) := by
  refine lp_end (body := fun s : Int32 × Int32 × Um => fX8_bestMiles_b74 p0 p1 p2 i4 i5 i6 i7 (nI v) s.1 s.2.1 s.2.2) (fun k => (nI (cnt (fun o => decide (f o = f v)) k), nI k, u)) (m := v + 1) (e := 1) (by omega) (fun k hk => ?_) ?_ (by decide)
  · show fX8_bestMiles_b74 p0 p1 p2 i4 i5 i6 i7 (nI v) _ (nI k) u = _
    unfold fX8_bestMiles_b74 fX8_bestMiles_j105
    rw [if_neg (nI_nlt (by omega) (by omega)), if_pos (b10 (by omega)), if_pos (b10 hv), nI_clamp (by omega), nI_clamp (by omega), hf k (by omega), hf v (Nat.le_refl _), cnt_s]
    simp only [nm, nI_1]
    by_cases e : f k = f v
    · rw [if_pos e, if_pos (decide_eq_true e)]
    · rw [if_neg e, if_neg (fun h => e (of_decide_eq_true h)), Int32.add_zero]
  · show fX8_bestMiles_b74 p0 p1 p2 i4 i5 i6 i7 (nI v) _ (nI (v + 1)) u = _
    unfold fX8_bestMiles_b74
    rw [if_pos (nI_lt (by omega) (by omega))]
def aM (S : Nat → Nat → Int32) (M m v : Nat) : Nat := cnt (fun o => decide (parV S M m o = parV S M m v)) (v + 1)
theorem b28_m {u : Um} {p M m : Nat} {kb i4 i5 : Int32} {S : Nat → Nat → Int32} (hS : SM u p kb S) (hM : M < 1024) : ∃ u', lp (fun s : Int32 × Int32 × Um => fX8_bestMiles_b28 (nI p) kb (nI M) i4 i5 (nI m) s.1 s.2.1 s.2.2) fuel ((0 : Int32), (0 : Int32), u) = some (1, nI (mxA (aM S M m) 10), nI 10, u') ∧ (∀ r, r ≠ 132 → u'.1 r = u.1 r) ∧ u'.2 = u.2 := by
  obtain ⟨e, q, h, he, h0, h1, h2, h3⟩ := lp_inv (body := fun s : Int32 × Int32 × Um => fX8_bestMiles_b28 (nI p) kb (nI M) i4 i5 (nI m) s.1 s.2.1 s.2.2) (fun k s => s.1 = nI (mxA (aM S M m) k) ∧ s.2.1 = nI k ∧ (∀ r, r ≠ 132 → s.2.2.1 r = u.1 r) ∧ s.2.2.2 = u.2 ∧ ∀ o, o < k → s.2.2.1 132 o = parV S M m o) (fun e s => e = 1 ∧ s.1 = nI (mxA (aM S M m) 10) ∧ s.2.1 = nI 10 ∧ (∀ r, r ≠ 132 → s.2.2.1 r = u.1 r) ∧ s.2.2.2 = u.2) 10 (by omega) (fun k s hk hs' => by
    obtain ⟨x, y, w⟩ := s
    obtain ⟨h1, h2, h3, h4, h5⟩ := hs'
    dsimp only at h1 h2 h3 h4 h5
    subst h1; subst h2
    show (_ ∧ ∃ s', fX8_bestMiles_b28 (nI p) kb (nI M) i4 i5 (nI m) (nI (mxA (aM S M m) k)) (nI k) w = _ ∧ _) ∨ (∃ e s', _ ∧ fX8_bestMiles_b28 (nI p) kb (nI M) i4 i5 (nI m) (nI (mxA (aM S M m) k)) (nI k) w = _ ∧ _)
    unfold fX8_bestMiles_b28
    by_cases hk10 : k < 10
    · have hSw : SM w p kb S := SM_fr hS (h3 122 (by decide))
      have al : ∀ j, aM S M m j ≤ j + 1 := fun j => cnt_le _ _
      have mb : mxA (aM S M m) k ≤ 10 := mxA_le (fun j hj => by have := al j; omega)
      have ab := al k
      have j67 : fX8_bestMiles_j67 (nI p) kb (nI M) i4 i5 (nI m) (nI (mxA (aM S M m) k)) (nI k) (parV S M m k) (nI k) w = some (0, nI (mxA (aM S M m) (k + 1)), nI (k + 1), sI w 132 k (parV S M m k)) := by
        unfold fX8_bestMiles_j67 fX8_bestMiles_j128
        rw [if_pos (b10 hk10), nI_clamp (by omega)]
        simp only [nm, nI_1]
        rw [b74_m (f := parV S M m) hk10 (fun o ho => by
          by_cases e : o = k
          · subst e; exact sI_eq
          · rw [sI_ot e]; exact h5 o (by omega)), bd4s, mxA_s]
        show (if nI (aM S M m k) ≤ nI (mxA (aM S M m) k) then _ else _) = _
        by_cases hle : aM S M m k ≤ mxA (aM S M m) k
        · rw [if_pos (nI_le hle (by omega)), Nat.max_eq_left hle]
        · rw [if_neg (nI_ge (by omega) (by omega)), Nat.max_eq_right (by omega)]
          rfl
      have hb : (bd1 (fX8_has (nI M) (nI k) w) fun v2 => if v2 = 0 then fX8_bestMiles_j67 (nI p) kb (nI M) i4 i5 (nI m) (nI (mxA (aM S M m) k)) (nI k) ((-1) - nI k) (nI k) w else bd1 (fX8_saidAs (nI p) kb (nI k) (nI m) w) fun v13 => fX8_bestMiles_j67 (nI p) kb (nI M) i4 i5 (nI m) (nI (mxA (aM S M m) k)) (nI k) v13 (nI k) w) = fX8_bestMiles_j67 (nI p) kb (nI M) i4 i5 (nI m) (nI (mxA (aM S M m) k)) (nI k) (parV S M m k) (nI k) w := by
        rw [has_m w (by omega) (by omega), bd1s, hSw k m, bd1s]
        by_cases hmm : M / 2 ^ k % 2 = 1
        · rw [hmm, if_neg (show ¬ nI 1 = 0 by decide), show parV S M m k = S k m from if_pos (decide_eq_true hmm)]
        · rw [show M / 2 ^ k % 2 = 0 by omega, if_pos (show nI 0 = 0 from rfl), show parV S M m k = -1 - nI k from if_neg (fun h => hmm (of_decide_eq_true h))]
      rw [if_neg (by rw [ltl9 (by omega)]; omega), hb, j67]
      refine Or.inl ⟨hk10, _, rfl, rfl, rfl, fun r hr => by rw [sI_ne hr]; exact h3 r hr, h4, fun o ho => ?_⟩
      show (sI w 132 k _).1 132 o = _
      by_cases e : o = k
      · subst e; exact sI_eq
      · rw [sI_ot e]; exact h5 o (by omega)
    · have : k = 10 := by omega
      subst this
      rw [if_pos (by decide)]
      exact Or.inr ⟨1, _, by decide, rfl, rfl, rfl, rfl, h3, h4⟩) (s := ((0 : Int32), (0 : Int32), u)) ⟨rfl, rfl, fun _ _ => rfl, rfl, fun o ho => absurd ho (Nat.not_lt_zero o)⟩
  subst he
  obtain ⟨a1, a2, a3⟩ := q
  dsimp only at h0 h1 h2 h3
  subst h0; subst h1
  exact ⟨a3, h, h2, h3⟩
theorem try_m {u : Um} {p M f0 f1 : Nat} {kb : Int32} {S : Nat → Nat → Int32} (hS : SM u p kb S) (hM : M < 1024) (h9 : f1 ≤ 9) (hmem : ∀ o, o < 10 → memB M o = true → f0 ≤ o ∧ o ≤ f1) (hSn : ∀ o m, o < 10 → m < 10 → memB M o = true → ∃ x : Nat, x < 100000 ∧ S o m = nI x) : ∃ u', fX8_bestMiles (nI p) kb (nI M) u = some (if M = 0 then -4 else (bT (gP S M f0 f1) 99 10).1, u') ∧ (∀ r, r ≠ 132 → u'.1 r = u.1 r) ∧ u'.2 = u.2 := by
  unfold fX8_bestMiles
  by_cases h0 : M = 0
  · rw [if_pos h0]
    have hl : lp (fun s : Int32 × Int32 × Int32 × Um => fX8_bestMiles_b11 (nI p) kb (nI M) s.1 s.2.1 s.2.2.1 s.2.2.2) fuel ((-4 : Int32), (99 : Int32), (0 : Int32), u) = some (1, (-4 : Int32), (99 : Int32), (0 : Int32), u) := by
      refine lp_end (body := fun s : Int32 × Int32 × Int32 × Um => fX8_bestMiles_b11 (nI p) kb (nI M) s.1 s.2.1 s.2.2.1 s.2.2.2) (fun _ => ((-4 : Int32), (99 : Int32), (0 : Int32), u)) (m := 0) (e := 1) (by omega) (fun k hk => absurd hk (Nat.not_lt_zero k)) ?_ (by decide)
      show fX8_bestMiles_b11 (nI p) kb (nI M) (-4) 99 0 u = _
      unfold fX8_bestMiles_b11
      rw [if_neg (by decide), if_pos (by rw [h0]; rfl)]
    rw [hl, bd5s]
    exact ⟨u, rfl, fun _ _ => rfl, rfl⟩
  · rw [if_neg h0]
    have hn0 : ¬ nI M = 0 := nI_ne0 (by omega) (by omega)
    have pX := popX_le M
    have hG : ∀ k, gP S M f0 f1 k ≤ 99 := fun k => by have := gP_le S M f0 f1 k; omega
    obtain ⟨c0, c1, c2⟩ := mem_ne hM h0
    have key : ∀ m, m < 10 → mxA (aM S M m) 10 = gP S M f0 f1 m := by
      intro m hm
      have e1 : mxA (aM S M m) 10 = mxA (fun v => if memB M v = true then cnt (fun o => memB M o && decide (S o m = S v m)) (v + 1) else 1) 10 := by
        unfold mxA
        refine acc_ext (n := 10) (fun k x hk => ?_) 10 (Nat.le_refl _)
        show max x (aM S M m k) = _
        unfold aM
        rw [alike_eq hk (fun o ho hmo => hSn o m ho hm hmo)]
      rw [e1, parts_eq (mem := memB M) (S := fun o => S o m) h9 hmem c1 c2]
      rfl
    have hB0 : bT (gP S M f0 f1) 99 0 = (-4, 99) := rfl
    have hBs := bT_s (gP S M f0 f1) 99
    have hBb := bT_b (l0 := 99) hG (Nat.le_refl _)
    generalize bT (gP S M f0 f1) 99 = B at hB0 hBs hBb ⊢
    obtain ⟨e, q, h, he, h1, h2, h3⟩ := lp_inv (body := fun s : Int32 × Int32 × Int32 × Um => fX8_bestMiles_b11 (nI p) kb (nI M) s.1 s.2.1 s.2.2.1 s.2.2.2) (fun k s => s.1 = (B k).1 ∧ s.2.1 = nI (B k).2 ∧ s.2.2.1 = nI k ∧ (∀ r, r ≠ 132 → s.2.2.2.1 r = u.1 r) ∧ s.2.2.2.2 = u.2) (fun e s => e = 1 ∧ s.1 = (B 10).1 ∧ (∀ r, r ≠ 132 → s.2.2.2.1 r = u.1 r) ∧ s.2.2.2.2 = u.2) 10 (by omega) (fun k s hk hs' => by
      obtain ⟨x, y, z, w⟩ := s
      obtain ⟨h1, h2, h3, h4, h5⟩ := hs'
      dsimp only at h1 h2 h3 h4 h5
      subst h1; subst h2; subst h3
      show (_ ∧ ∃ s', fX8_bestMiles_b11 (nI p) kb (nI M) _ _ (nI k) w = _ ∧ _) ∨ (∃ e s', _ ∧ fX8_bestMiles_b11 (nI p) kb (nI M) _ _ (nI k) w = _ ∧ _)
      have b1 := hBb k
      have b2 := hG k
      unfold fX8_bestMiles_b11
      by_cases hk10 : k < 10
      · obtain ⟨w', e1, g1, g2⟩ := b28_m (i4 := (B k).1) (i5 := nI (B k).2) (m := k) (SM_fr hS (h4 122 (by decide))) hM
        rw [if_neg (by rw [ltl9 (by omega)]; omega), if_neg hn0, e1, bd4s, key k hk10]
        unfold fX8_bestMiles_j150 fX8_bestMiles_j166
        simp only [nm, nI_1]
        refine Or.inl ⟨hk10, ?_⟩
        rw [hBs]
        by_cases hg : gP S M f0 f1 k < (B k).2
        · rw [if_neg (nI_ge hg (by omega)), if_neg (nI_ge hg (by omega)), if_pos hg]
          exact ⟨_, rfl, rfl, rfl, rfl, fun r hr => by rw [g1 r hr]; exact h4 r hr, g2.trans h5⟩
        · rw [if_pos (nI_le (by omega) (by omega)), if_pos (nI_le (by omega) (by omega)), if_neg hg]
          exact ⟨_, rfl, rfl, rfl, rfl, fun r hr => by rw [g1 r hr]; exact h4 r hr, g2.trans h5⟩
      · have : k = 10 := by omega
        subst this
        rw [if_pos (by decide)]
        exact Or.inr ⟨1, _, by decide, rfl, rfl, rfl, h4, h5⟩) (s := ((-4 : Int32), (99 : Int32), (0 : Int32), u)) ⟨by rw [hB0], by rw [hB0]; rfl, rfl, fun _ _ => rfl, rfl⟩
    rw [h]
    obtain ⟨a1, a2, a3, a4⟩ := q
    dsimp only at h1 h2 h3
    subst h1
    exact ⟨a4, rfl, h2, h3⟩
/-! pairs in order, or refused -/
theorem guess_go {u : Um} (hI : Inv u) {P W dd : Nat} (hV : VR (u.1 122) P W dd) (hR : RC u 3 (u.1 122) P W) (a b c d e f kb : Int32) :
    (∃ r : Int32, ¬ r = 0 ∧ fX7_refusePairs a b c d e f u = some r ∧ fX8_partsBy a kb b c d e f u = some (r, u)) ∨
    (∃ p s i n z : Nat, ∃ mk : Nat → Nat, ∃ Y : Nat → Int64, p < P ∧ s < 4 ∧ i + 2 * n ≤ 24 ∧ z < 2 ∧ a = nI p ∧ b = nI s ∧ d = nI i ∧ e = nI n ∧ f = nI z ∧ fX7_refusePairs a b c d e f u = some 0 ∧ (∀ k, k < n → mk k < 10 ∧ u.2 (91 + 2 * s + 1) (i + 2 * k) = lN (mk k) ∧ u.2 (91 + 2 * s + 1) (i + 2 * k + 1) = Y k) ∧ (∀ k, k < n → u.2 120 (24 * s + i + 2 * k) = lN (mk k) ∧ u.2 120 (24 * s + i + 2 * k + 1) = Y k) ∧
      ∀ v : Um, v.1 122 = u.1 122 → v.1 118 = u.1 118 → v.1 119 = u.1 119 → v.2 = u.2 → fX8_partsBy a kb b c d e f v = (bd1 (fX8_fitBy (nI p) kb (nI (24 * s + i)) (nI n) v) fun v7 => if nI z = 0 then some (v7, v) else bd2 (fX8_bestMiles (nI p) kb v7 v) fun v9 u10 => some (v9, u10))) := by
  have hP := hV.2.2.2.1
  unfold fX7_refusePairs
  rcases ix_of a (n := P) (by omega) with ha | ⟨p, hp, rfl⟩
  · refine Or.inl ⟨-1, by decide, ?_, ?_⟩
    · rw [hasP_n (hR.1.trans hV.1) ha, bd1s, if_pos rfl]
    · unfold fX8_partsBy
      rw [one_n hV.1 hP ha, bd1s, if_pos rfl]
  rw [hasP_y (hR.1.trans hV.1) hP hp, bd1s, if_neg i10]
  have bad : ∀ v : Um, fX8_isOne (nI p) v = some 1 → (fX8_isSheet b v = some 0 ∨ fX8_in c 0 3 v = some 0 ∨ fX8_in e 1 10 v = some 0 ∨ fX8_in f 0 1 v = some 0) → fX8_partsBy (nI p) kb b c d e f v = some (-1, v) := by
    intro v ho hh
    unfold fX8_partsBy
    rw [ho, bd1s, if_neg i10]
    have hs01 : fX8_isSheet b v = some 0 ∨ fX8_isSheet b v = some 1 := by
      rcases ix_of b (n := 4) (by decide) with h | ⟨s, hs, rfl⟩
      · exact Or.inl (isS_n v h)
      · exact Or.inr (isS_y v hs)
    have hin01 : ∀ x lo hi : Int32, fX8_in x lo hi v = some 0 ∨ fX8_in x lo hi v = some 1 := by
      intro x lo hi
      by_cases h1 : x < lo
      · exact Or.inl (in_n (Or.inl h1))
      · by_cases h2 : hi < x
        · exact Or.inl (in_n (Or.inr h2))
        · exact Or.inr (in_y h1 h2)
    rcases hs01 with h1 | h1
    · rw [h1, bd1s, if_pos rfl]
    rw [h1, bd1s, if_neg i10]
    rcases hin01 c 0 3 with h2 | h2
    · rw [h2, bd1s, if_pos rfl]
    rw [h2, bd1s, if_neg i10]
    rcases hin01 e 1 10 with h3 | h3
    · rw [h3, bd1s, if_pos rfl]
    rw [h3, bd1s, if_neg i10]
    rcases hin01 f 0 1 with h4 | h4
    · rw [h4, bd1s, if_pos rfl]
    rw [h1, h2, h3, h4] at hh
    rcases hh with h | h | h | h <;> cases h
  have hone : ∀ v : Um, v.1 122 = u.1 122 → fX8_isOne (nI p) v = some 1 := fun v hv => one_y (by rw [hv]; exact hV.1) hP hp
  by_cases he1 : e < 1
  · rw [if_pos he1]
    exact Or.inl ⟨-1, by decide, rfl, bad u (hone u rfl) (Or.inr (Or.inr (Or.inl (in_n (Or.inl he1)))))⟩
  rw [if_neg he1]
  by_cases he10 : 10 < e
  · rw [if_pos he10]
    exact Or.inl ⟨-1, by decide, rfl, bad u (hone u rfl) (Or.inr (Or.inr (Or.inl (in_n (Or.inr he10)))))⟩
  rw [if_neg he10]
  obtain ⟨n, hn, rfl⟩ : ∃ j : Nat, j ≤ 10 ∧ e = nI j := nI_of2 (M := 10) (by decide) (fun h => he1 (Int32.lt_trans h (by decide))) (Int32.not_lt.mp he10)
  have hein : ∀ v : Um, fX8_in (nI n) 1 10 v = some 1 := fun v => in_y he1 he10
  rcases ix_of f (n := 2) (by decide) with hf | ⟨z, hz, rfl⟩
  · refine Or.inl ⟨-1, by decide, ?_, bad u (hone u rfl) (Or.inr (Or.inr (Or.inr (in01_n u hf))))⟩
    by_cases h0 : f < 0
    · rw [if_pos h0]
    · rw [if_neg h0, if_neg (show ¬ f ≤ 1 from fun h => Int32.not_le.mpr ((last_lt (P := 2) (by decide)).mpr (hf.resolve_left h0)) h)]
  rw [if_neg (nI_pos (n := z) (by omega)), if_pos ((ler1 (by omega)).mpr (by omega))]
  rcases ix_of b (n := 4) (by decide) with hb | ⟨s, hs, rfl⟩
  · refine Or.inl ⟨-1, by decide, ?_, bad u (hone u rfl) (Or.inl (isS_n u hb))⟩
    rw [sh_no u hb]
    rfl
  rw [sh_at u hs, bd1s, spl_e (sh_kd s hs)]
  have e2n : (2 * nI n : Int32) = nI (2 * n) := pk_mul 2 n
  rcases row_or hI.2.2.2.2 hs c with ⟨h1, h2⟩ | ⟨r, h0, h1, h2, h3⟩ | ⟨l, zz, hl, hzz, rfl, h1, h2, h3, h4, h5, h6, h7, h8⟩
  · refine Or.inl ⟨-1, by decide, ?_, bad u (hone u rfl) (Or.inr (Or.inl h2))⟩
    rw [h1]
    rfl
  · refine Or.inl ⟨r, h0, ?_, ?_⟩
    · rw [h1, bd1s, if_neg h0]
    · unfold fX8_partsBy
      rw [hone u rfl, bd1s, if_neg i10, isS_y u hs, bd1s, if_neg i10, h2, bd1s, if_neg i10, hein, bd1s, if_neg i10, in01_y u hz, bd1s, if_neg i10, h3, bd1s, if_neg h0]
  rw [h1, bd1s, if_pos rfl, e2n]
  have front : ∀ v : Um, v.1 122 = u.1 122 → v.1 118 = u.1 118 → v.1 119 = u.1 119 → fX8_partsBy (nI p) kb (nI s) (nI l) d (nI n) (nI z) v = bd1 (fX8_badRow (nI s) (nI l) d (nI (2 * n)) u) (fun v12 => if v12 = 0 then bd2 (fX8_foundBy (nI p) kb ((24 * nI s) + d) (nI n) (nI z) v) (fun v14 u15 => some (v14, u15)) else some (v12, v)) := by
    intro v e1 e2 e3
    unfold fX8_partsBy
    rw [hone v e1, bd1s, if_neg i10, isS_y v hs, bd1s, if_neg i10, in03_y v hl, bd1s, if_neg i10, hein, bd1s, if_neg i10, in01_y v hz, bd1s, if_neg i10, e2n]
    have hbr : fX8_badRow (nI s) (nI l) d (nI (2 * n)) v = fX8_badRow (nI s) (nI l) d (nI (2 * n)) u := by
      unfold fX8_badRow
      rw [e2, e3]
      rfl
    rw [hbr]
  rcases hol_c (i := d) (n := nI (2 * n)) h5 with ⟨hh, g⟩ | ⟨hh, g⟩
  rotate_left
  · refine Or.inl ⟨-13, by decide, ?_, ?_⟩
    · rw [g, bd1s, if_pos rfl]
    · rw [front u rfl rfl rfl, (h8 _ _).2 hh, bd1s, if_neg (by decide)]
  obtain ⟨i, n', hin, rfl, en⟩ := hol_nat hzz hh
  have hn' : 2 * n = n' := nI_eqb (by omega) en (by omega)
  subst hn'
  rw [g, bd1s, if_neg i10]
  have rowE : ∀ j, j < 24 → u.2 (91 + 2 * s + 1) j = u.2 120 (24 * s + j) := fun j hj => by
    rw [← h7 j hj, show 92 + 2 * s = 91 + 2 * s + 1 by omega]
  have body : ∀ k, k < n → fX7_refusePairs_b85 (nI p) (nI s) (nI l) (nI i) (nI n) (nI z) (91 + 2 * s) (nI k) u = if u.2 120 (24 * s + i + 2 * k) < 0 ∨ ¬ u.2 120 (24 * s + i + 2 * k) ≤ 9 then some (2, nI k) else some (0, nI (k + 1)) := by
    intro k hk
    unfold fX7_refusePairs_b85
    rw [if_neg (nI_ge hk (by omega)), e2k, get_c (show i + 2 * k < 24 by omega), bd1s, rowE _ (by omega), show 24 * s + (i + 2 * k) = 24 * s + i + 2 * k by omega]
    simp only [nm, nI_1]
    by_cases q1 : u.2 120 (24 * s + i + 2 * k) < 0
    · rw [if_pos ((lc_lt _ _).mpr q1), if_pos (Or.inl q1)]
    · rw [if_neg (fun h => q1 ((lc_lt _ _).mp h))]
      by_cases q2 : u.2 120 (24 * s + i + 2 * k) ≤ 9
      · rw [if_pos ((lc_le _ _).mpr q2), if_neg (fun h => h.elim q1 (fun h => h q2))]
      · rw [if_neg (fun h => q2 ((lc_le _ _).mp h)), if_pos (Or.inr q2)]
  have bodym : ∀ (v : Um) (k : Nat), v.2 = u.2 → k < n → fX8_foundBy_b3 (nI p) kb (nI (24 * s + i)) (nI n) (nI z) (nI k) v = if u.2 120 (24 * s + i + 2 * k) < 0 ∨ ¬ u.2 120 (24 * s + i + 2 * k) ≤ 9 then some (2, nI k, v) else some (0, nI (k + 1), v) := by
    intro v k hv hk
    unfold fX8_foundBy_b3
    rw [if_neg (nI_ge hk (by omega)), e2k, if_pos (inbN (by omega) (by decide)), if_pos (inbN (by omega) (by decide)), nI_clamp (by omega), hv]
    simp only [nm, nI_1]
    by_cases q1 : u.2 120 (24 * s + i + 2 * k) < 0
    · rw [if_pos ((lc_lt _ _).mpr q1), if_pos (Or.inl q1)]
    · rw [if_neg (fun h => q1 ((lc_lt _ _).mp h))]
      by_cases q2 : u.2 120 (24 * s + i + 2 * k) ≤ 9
      · rw [if_pos ((lc_le _ _).mpr q2), if_neg (fun h => h.elim q1 (fun h => h q2))]
      · rw [if_neg (fun h => q2 ((lc_le _ _).mp h)), if_pos (Or.inr q2)]
  obtain ⟨m, m1, m2, m3⟩ := first_of (fun k => u.2 120 (24 * s + i + 2 * k) < 0 ∨ ¬ u.2 120 (24 * s + i + 2 * k) ≤ 9) n
  rcases m3 with m3 | ⟨m3, m4⟩
  · subst m3
    refine Or.inr ⟨p, s, i, m, z, fun k => (u.2 120 (24 * s + i + 2 * k)).toInt.toNat, fun k => u.2 120 (24 * s + i + 2 * k + 1), hp, hs, by omega, hz, rfl, rfl, rfl, rfl, rfl, ?_, fun k hk => ?_, fun k hk => ?_, fun v e1 e2 e3 e4 => ?_⟩
    · have hl := lp_end (body := fun q => fX7_refusePairs_b85 (nI p) (nI s) (nI l) (nI i) (nI m) (nI z) (91 + 2 * s) q u) (fun k => nI k) (m := m) (e := 1) (s' := nI m) (by omega) (fun k hk => by
        show fX7_refusePairs_b85 (nI p) (nI s) (nI l) (nI i) (nI m) (nI z) (91 + 2 * s) (nI k) u = _
        rw [body k hk, if_neg (m2 k hk)]) (by
        show fX7_refusePairs_b85 (nI p) (nI s) (nI l) (nI i) (nI m) (nI z) (91 + 2 * s) (nI m) u = _
        unfold fX7_refusePairs_b85
        rw [if_pos (nI_le (Nat.le_refl _) (by omega))]) (by decide)
      rw [show (0 : Int32) = nI 0 from rfl, hl, bd2s, if_pos rfl]
    · have q1 : ¬ u.2 120 (24 * s + i + 2 * k) < 0 := fun h => m2 k hk (Or.inl h)
      have q2 : u.2 120 (24 * s + i + 2 * k) ≤ 9 := Classical.not_not.mp (fun h => m2 k hk (Or.inr h))
      obtain ⟨x, x1, x2⟩ := pk_lOf q1
      have x9 : x ≤ 9 := by
        rw [x2] at q2
        exact (pk_lLE (a := x) (b := 9) x1 (by decide)).mp q2
      refine ⟨?_, ?_, ?_⟩
      · show (u.2 120 (24 * s + i + 2 * k)).toInt.toNat < 10
        rw [x2, pk_lT x1]
        omega
      · show _ = lN ((u.2 120 (24 * s + i + 2 * k)).toInt.toNat)
        rw [rowE _ (by omega), show 24 * s + (i + 2 * k) = 24 * s + i + 2 * k by omega, x2, pk_lT x1]
        rfl
      · rw [rowE _ (by omega), show 24 * s + (i + 2 * k + 1) = 24 * s + i + 2 * k + 1 by omega]
    · have q1 : ¬ u.2 120 (24 * s + i + 2 * k) < 0 := fun h => m2 k hk (Or.inl h)
      obtain ⟨x, x1, x2⟩ := pk_lOf q1
      refine ⟨?_, rfl⟩
      show _ = lN ((u.2 120 (24 * s + i + 2 * k)).toInt.toNat)
      rw [x2, pk_lT x1]
      rfl
    · have hl := lp_end (body := fun q : Int32 × Um => fX8_foundBy_b3 (nI p) kb (nI (24 * s + i)) (nI m) (nI z) q.1 q.2) (fun k => (nI k, v)) (m := m) (e := 1) (s' := (nI m, v)) (by omega) (fun k hk => by
        show fX8_foundBy_b3 (nI p) kb (nI (24 * s + i)) (nI m) (nI z) (nI k) v = _
        rw [bodym v k e4 hk, if_neg (m2 k hk)]) (by
        show fX8_foundBy_b3 (nI p) kb (nI (24 * s + i)) (nI m) (nI z) (nI m) v = _
        unfold fX8_foundBy_b3
        rw [if_pos (nI_le (Nat.le_refl _) (by omega))]) (by decide)
      rw [front v e1 e2 e3, (h8 _ _).1 hh, bd1s, if_pos rfl, e24]
      unfold fX8_foundBy
      rw [show ((0 : Int32), v) = (nI 0, v) from rfl, hl, bd3s, if_pos rfl]
      cases fX8_fitBy (nI p) kb (nI (24 * s + i)) (nI m) v with
      | none => rfl
      | some q =>
        rw [bd1s]
        by_cases hz0 : nI z = 0
        · rw [if_pos hz0, bd2s]
        · rw [if_neg hz0]
          cases fX8_bestMiles (nI p) kb q v with
          | none => rfl
          | some r => rfl
  · refine Or.inl ⟨-2, by decide, ?_, ?_⟩
    · have hl := lp_end (body := fun q => fX7_refusePairs_b85 (nI p) (nI s) (nI l) (nI i) (nI n) (nI z) (91 + 2 * s) q u) (fun k => nI k) (m := m) (e := 2) (s' := nI m) (by omega) (fun k hk => by
        show fX7_refusePairs_b85 (nI p) (nI s) (nI l) (nI i) (nI n) (nI z) (91 + 2 * s) (nI k) u = _
        rw [body k (by omega), if_neg (m2 k hk)]) (by
        show fX7_refusePairs_b85 (nI p) (nI s) (nI l) (nI i) (nI n) (nI z) (91 + 2 * s) (nI m) u = _
        rw [body m m3, if_pos m4]) (by decide)
      rw [show (0 : Int32) = nI 0 from rfl, hl, bd2s, if_neg (by decide)]
    · have hl := lp_end (body := fun q : Int32 × Um => fX8_foundBy_b3 (nI p) kb (nI (24 * s + i)) (nI n) (nI z) q.1 q.2) (fun k => (nI k, u)) (m := m) (e := 2) (s' := (nI m, u)) (by omega) (fun k hk => by
        show fX8_foundBy_b3 (nI p) kb (nI (24 * s + i)) (nI n) (nI z) (nI k) u = _
        rw [bodym u k rfl (by omega), if_neg (m2 k hk)]) (by
        show fX8_foundBy_b3 (nI p) kb (nI (24 * s + i)) (nI n) (nI z) (nI m) u = _
        rw [bodym u m rfl m3, if_pos m4]) (by decide)
      rw [front u rfl rfl rfl, (h8 _ _).1 hh, bd1s, if_pos rfl, e24]
      unfold fX8_foundBy
      rw [show ((0 : Int32), u) = (nI 0, u) from rfl, hl, bd3s, if_neg (by decide), bd2s]
/-- the common end of skills and kinds -/
theorem guess_end {u u1 : Um} {kb : Int32} {S : Nat → Nat → Int32} {p s i n z f0 f1 : Nat} {mk : Nat → Nat} {Y : Nat → Int64} (hI : Inv u) (hfr : ∀ k, k ≠ 115 → k ≠ 116 → u1.1 k = u.1 k) (hfr2 : u1.2 = u.2) (hG : GT u1 S f0 f1) (hSM : SM u p kb S) (hk : (kb = 0 ∧ f0 = 0 ∧ f1 = 9) ∨ (kb = 1 ∧ f0 = 1 ∧ f1 = 5)) (hs : s < 4) (hi : i + 2 * n ≤ 24) (hSn : ∀ o m, f0 ≤ o → o ≤ f1 → m < 10 → ∃ x : Nat, x < 100000 ∧ S o m = nI x) (hr : ∀ k, k < n → mk k < 10 ∧ u.2 (91 + 2 * s + 1) (i + 2 * k) = lN (mk k) ∧ u.2 (91 + 2 * s + 1) (i + 2 * k + 1) = Y k) (hr2 : ∀ k, k < n → u.2 120 (24 * s + i + 2 * k) = lN (mk k) ∧ u.2 120 (24 * s + i + 2 * k + 1) = Y k) :
    ∃ r u2, fX1_answer (some (91 + 2 * s)) (nI i) (nI n) (nI z) u1 = some r ∧ (bd1 (fX8_fitBy (nI p) kb (nI (24 * s + i)) (nI n) u1) fun v7 => if nI z = 0 then some (v7, u1) else bd2 (fX8_bestMiles (nI p) kb v7 u1) fun v9 u10 => some (v9, u10)) = some (r, u2) ∧ Inv u2 := by
  obtain ⟨g1, g2, g3, g4, g5⟩ := id hG
  have hSM1 : SM u1 p kb S := SM_fr hSM (hfr 122 (by decide) (by decide))
  have hI1 : Inv u1 := Inv_fr hI (fun k hk => hfr k (by omega) (by omega)) (by rw [hfr 117 (by decide) (by decide)]) (by rw [hfr 117 (by decide) (by decide)]) hfr2
  have hM : setF (fitB S mk Y n) f0 (f1 + 1 - f0) < 1024 := by
    have h1 := setF_lt (fitB S mk Y n) f0 (f1 + 1 - f0)
    have h2 : 2 ^ (f0 + (f1 + 1 - f0)) ≤ 2 ^ 10 := Nat.pow_le_pow_right (by decide) (by omega)
    omega
  have hmem : ∀ o, o < 10 → memB (setF (fitB S mk Y n) f0 (f1 + 1 - f0)) o = true → f0 ≤ o ∧ o ≤ f1 := fun o _ h => by
    have := setF_mem _ _ _ _ h
    omega
  rw [fit_m (mk := mk) (Y := Y) hSM1 (by omega) (fun k hk => by rw [hfr2]; exact hr2 k hk) hk, bd1s]
  unfold fX1_answer
  rw [spl_e (sh_kd s hs), fitting_c (mk := mk) (Y := Y) hG hi (fun k hk => by rw [hfr2]; exact hr k hk), bd1s]
  by_cases hz0 : nI z = 0
  · rw [if_pos hz0, if_pos hz0]
    exact ⟨_, u1, rfl, rfl, hI1⟩
  · rw [if_neg hz0, if_neg hz0, try_c hG hM hmem, bd1s]
    obtain ⟨u2, e2, k1, k2⟩ := try_m (f0 := f0) (f1 := f1) hSM1 hM g4 hmem (fun o m ho hm hmo => hSn o m (hmem o ho hmo).1 (hmem o ho hmo).2 hm)
    rw [e2, bd2s]
    exact ⟨_, u2, rfl, rfl, Inv_fr hI1 (fun k hk => k1 k (by omega)) (by rw [k1 117 (by decide)]) (by rw [k1 117 (by decide)]) k2⟩
theorem say_b {k s ca m : Nat} (k1 : 1 ≤ k) (k5 : k ≤ 5) (hs : s ≤ 9) (hc : ca ≤ 20000) (hm : m < 10) : ∃ x : Nat, x < 100000 ∧ sSay (nI k) (nI s) (nI ca) (nI m) = nI x := by
  unfold sSay
  rcases (show k = 1 ∨ k = 2 ∨ k = 3 ∨ k = 4 ∨ k = 5 by omega) with rfl | rfl | rfl | rfl | rfl
  · exact ⟨s, by omega, rfl⟩
  · exact ⟨s + 2, by omega, nI_add s 2⟩
  · exact (small_dec s (by omega) m hm).1
  · exact ⟨ca + 2, by omega, nI_add ca 2⟩
  · exact (small_dec s (by omega) m hm).2
theorem s_skills (a b c d e f : Int32) : S22 (fX7_skills a b c d e f) (fX8_skills a b c d e f) := by
  intro u hI
  obtain ⟨P, W, dd, hV, hR, -, -⟩ := IvC_get hI.1
  have hP := hV.2.2.2.1
  have hdd := hV.2.2.2.2.2.1
  unfold fX7_skills fX8_skills
  rcases guess_go hI hV hR a b c d e f 0 with ⟨r, h0, h1, h2⟩ | ⟨p, s, i, n, z, mk, Y, hp, hs, hi, hz, rfl, rfl, rfl, rfl, rfl, h1, hr, hr2, hgo⟩
  · refine ⟨r, u, u, ?_, ?_, hI⟩
    · rw [h1, bd1s, if_neg h0]
    · rw [h2, bd2s]
  · obtain ⟨u1, e1, f1, f2, hG⟩ := ask_c hR hV hp
    obtain ⟨⟨kk, k1, k5, ek⟩, -, -, -, -, -, ⟨ca, ca1, ca2⟩, -⟩ := hV.2.2.2.2.2.2.1 p hp
    obtain ⟨r, u2, e2, e3, hI2⟩ := guess_end (kb := 0) (z := z) hI f1 f2 hG (SM_sk (by omega)) (Or.inl ⟨rfl, rfl, rfl⟩) hs hi (fun o m _ ho hm => by rw [ek, ca2]; exact say_b k1 k5 ho (by omega) hm) hr hr2
    rw [h1, bd1s, if_pos rfl, e1, bd1s, sh_at u1 hs, bd1s, spl_e (sh_kd s hs), e2, bd1s]
    refine ⟨r, u1, u2, rfl, ?_, hI2⟩
    rw [hgo u1 (f1 122 (by decide) (by decide)) (f1 118 (by decide) (by decide)) (f1 119 (by decide) (by decide)) f2, e3, bd2s]
theorem s_kinds (a b c d e f : Int32) : S22 (fX7_kinds a b c d e f) (fX8_kinds a b c d e f) := by
  intro u hI
  obtain ⟨P, W, dd, hV, hR, -, -⟩ := IvC_get hI.1
  have hP := hV.2.2.2.1
  have hdd := hV.2.2.2.2.2.1
  unfold fX7_kinds fX8_kinds
  rcases guess_go hI hV hR a b c d e f 1 with ⟨r, h0, h1, h2⟩ | ⟨p, s, i, n, z, mk, Y, hp, hs, hi, hz, rfl, rfl, rfl, rfl, rfl, h1, hr, hr2, hgo⟩
  · refine ⟨r, u, u, ?_, ?_, hI⟩
    · rw [h1, bd1s, if_neg h0]
    · rw [h2, bd2s]
  · obtain ⟨u1, e1, f1, f2, hG⟩ := akd_c hR hV hp
    obtain ⟨-, ⟨sk, sk1, sk2⟩, -, -, -, -, ⟨ca, ca1, ca2⟩, -⟩ := hV.2.2.2.2.2.2.1 p hp
    obtain ⟨r, u2, e2, e3, hI2⟩ := guess_end (kb := 1) (z := z) hI f1 f2 hG (SM_kd (by omega)) (Or.inr ⟨rfl, rfl, rfl⟩) hs hi (fun o m ho1 ho hm => by rw [sk2, ca2]; exact say_b ho1 ho sk1 (by omega) hm) hr hr2
    rw [h1, bd1s, if_pos rfl, e1, bd1s, sh_at u1 hs, bd1s, spl_e (sh_kd s hs), e2, bd1s]
    refine ⟨r, u1, u2, rfl, ?_, hI2⟩
    rw [hgo u1 (f1 122 (by decide) (by decide)) (f1 118 (by decide) (by decide)) (f1 119 (by decide) (by decide)) f2, e3, bd2s]
