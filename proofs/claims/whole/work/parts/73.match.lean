/-! ===== MATCH as numbers ===== -/
def vK (K : Nat) (q : Nat × Nat) : Nat := K * q.1 - q.2
def addp (o : Nat) (q : Nat × Nat) : Nat × Nat := if o = 1 then (q.1 + 1, q.2) else (q.1 + 1, q.2 + 1)
def okc (o : Nat → Nat → Nat) (w set p : Nat) : Bool := decide (0 < o w p) && !memB set p
def DD (o : Nat → Nat → Nat) (W : Nat) : Nat → Nat → Nat × Nat
  | 0, _ => (0, 0)
  | r + 1, set => acc (fun p q => if (okc o (W - (r + 1)) set p && decide (vK 16 q < vK 16 (addp (o (W - (r + 1)) p) (DD o W r (set ||| 2 ^ p))))) = true then addp (o (W - (r + 1)) p) (DD o W r (set ||| 2 ^ p)) else q) (DD o W r set) 6
def dStep (o : Nat → Nat → Nat) (W r set : Nat) : Nat → Nat × Nat := acc (fun p q => if (okc o (W - (r + 1)) set p && decide (vK 16 q < vK 16 (addp (o (W - (r + 1)) p) (DD o W r (set ||| 2 ^ p))))) = true then addp (o (W - (r + 1)) p) (DD o W r (set ||| 2 ^ p)) else q) (DD o W r set)
theorem DD_s (o : Nat → Nat → Nat) (W r set : Nat) : DD o W (r + 1) set = dStep o W r set 6 := rfl
theorem dStep_s (o : Nat → Nat → Nat) (W r set p : Nat) : dStep o W r set (p + 1) = if (okc o (W - (r + 1)) set p && decide (vK 16 (dStep o W r set p) < vK 16 (addp (o (W - (r + 1)) p) (DD o W r (set ||| 2 ^ p))))) = true then addp (o (W - (r + 1)) p) (DD o W r (set ||| 2 ^ p)) else dStep o W r set p := rfl
theorem addp_b {o r : Nat} {q : Nat × Nat} (h1 : q.2 ≤ q.1) (h2 : q.1 ≤ r) : (addp o q).2 ≤ (addp o q).1 ∧ (addp o q).1 ≤ r + 1 ∧ (addp o q).1 = q.1 + 1 := by
  unfold addp
  split
  · exact ⟨by show q.2 ≤ q.1 + 1; omega, by show q.1 + 1 ≤ r + 1; omega, rfl⟩
  · exact ⟨by show q.2 + 1 ≤ q.1 + 1; omega, by show q.1 + 1 ≤ r + 1; omega, rfl⟩
theorem dStep_b {o : Nat → Nat → Nat} {W r set : Nat} (h : ∀ set, (DD o W r set).2 ≤ (DD o W r set).1 ∧ (DD o W r set).1 ≤ r) : ∀ p, (dStep o W r set p).2 ≤ (dStep o W r set p).1 ∧ (dStep o W r set p).1 ≤ r + 1
  | 0 => ⟨(h set).1, by have := (h set).2; show (DD o W r set).1 ≤ r + 1; omega⟩
  | p + 1 => by
    rw [dStep_s]
    split
    · have := addp_b (o := o (W - (r + 1)) p) (h (set ||| 2 ^ p)).1 (h (set ||| 2 ^ p)).2
      exact ⟨this.1, this.2.1⟩
    · exact dStep_b h p
theorem DD_b (o : Nat → Nat → Nat) (W : Nat) : ∀ r set, (DD o W r set).2 ≤ (DD o W r set).1 ∧ (DD o W r set).1 ≤ r
  | 0, _ => ⟨Nat.le_refl _, Nat.le_refl _⟩
  | r + 1, set => by
    rw [DD_s]
    exact dStep_b (DD_b o W r) 6
theorem vK_ord {q q' : Nat × Nat} (a1 : q.2 ≤ q.1) (a2 : q.1 ≤ 8) (b1 : q'.2 ≤ q'.1) (b2 : q'.1 ≤ 8) : (vK 16 q < vK 16 q' ↔ vK 100 q < vK 100 q') ∧ (vK 16 q = vK 16 q' ↔ vK 100 q = vK 100 q') ∧ (vK 16 q = vK 16 q' → q = q') := by
  obtain ⟨x, y⟩ := q
  obtain ⟨x', y'⟩ := q'
  dsimp only at a1 a2 b1 b2
  unfold vK
  dsimp only
  rcases Nat.lt_trichotomy x x' with h | h | h
  · refine ⟨⟨fun _ => by omega, fun _ => by omega⟩, ⟨fun _ => by omega, fun _ => by omega⟩, fun _ => by omega⟩
  · subst h
    refine ⟨⟨fun _ => by omega, fun _ => by omega⟩, ⟨fun _ => by omega, fun _ => by omega⟩, fun h => ?_⟩
    rw [show y = y' by omega]
  · refine ⟨⟨fun _ => by omega, fun _ => by omega⟩, ⟨fun _ => by omega, fun _ => by omega⟩, fun _ => by omega⟩
theorem vK_add {K : Nat} {o : Nat} {q : Nat × Nat} (h : q.2 ≤ q.1) (hK : 1 ≤ K) : vK K (addp o q) = (if o = 1 then K else K - 1) + vK K q := by
  obtain ⟨x, y⟩ := q
  dsimp only at h
  unfold vK addp
  have hx : x ≤ K * x := Nat.le_mul_of_pos_left x hK
  split
  · show K * (x + 1) - y = K + (K * x - y)
    rw [Nat.mul_add]
    omega
  · show K * (x + 1) - (y + 1) = K - 1 + (K * x - y)
    rw [Nat.mul_add]
    omega
/-- the candidates' worths by the class's measure -/
def cV (o : Nat → Nat → Nat) (W r set p : Nat) : Nat := vK 16 (addp (o (W - (r + 1)) p) (DD o W r (set ||| 2 ^ p)))
theorem top_of {o : Nat → Nat → Nat} {W r set : Nat} : ∀ n, vK 16 (DD o W r set) ≤ vK 16 (dStep o W r set n) ∧ (∀ p, p < n → okc o (W - (r + 1)) set p = true → cV o W r set p ≤ vK 16 (dStep o W r set n)) ∧ (dStep o W r set n = DD o W r set ∨ ∃ p, p < n ∧ okc o (W - (r + 1)) set p = true ∧ dStep o W r set n = addp (o (W - (r + 1)) p) (DD o W r (set ||| 2 ^ p)))
  | 0 => ⟨Nat.le_refl _, fun p hp => absurd hp (Nat.not_lt_zero p), Or.inl rfl⟩
  | n + 1 => by
    obtain ⟨h1, h2, h3⟩ := top_of (o := o) (W := W) (r := r) (set := set) n
    rw [dStep_s]
    by_cases hb : (okc o (W - (r + 1)) set n && decide (vK 16 (dStep o W r set n) < vK 16 (addp (o (W - (r + 1)) n) (DD o W r (set ||| 2 ^ n))))) = true
    · rw [if_pos hb]
      obtain ⟨b1, b2⟩ := Bool.and_eq_true_iff.mp hb
      have b2 := of_decide_eq_true b2
      refine ⟨by omega, fun p hp hk => ?_, Or.inr ⟨n, by omega, b1, rfl⟩⟩
      by_cases e : p = n
      · subst e; exact Nat.le_refl _
      · have := h2 p (by omega) hk
        omega
    · rw [if_neg hb]
      refine ⟨h1, fun p hp hk => ?_, ?_⟩
      · by_cases e : p = n
        · subst e
          by_cases hlt : vK 16 (dStep o W r set p) < vK 16 (addp (o (W - (r + 1)) p) (DD o W r (set ||| 2 ^ p)))
          · exact absurd (Bool.and_eq_true_iff.mpr ⟨hk, decide_eq_true hlt⟩) hb
          · show vK 16 (addp (o (W - (r + 1)) p) (DD o W r (set ||| 2 ^ p))) ≤ _
            omega
        · exact h2 p (by omega) hk
      · rcases h3 with h3 | ⟨p, p1, p2, p3⟩
        · exact Or.inl h3
        · exact Or.inr ⟨p, by omega, p2, p3⟩
/-- the class's search: the first of those worth most -/
def fcL (ok : Nat → Bool) (c : Nat → Nat) : Nat → Int32 × Nat := acc (fun p q => if (ok p && decide (q.2 < c p + 1)) = true then (nI p, c p + 1) else q) (-4, 0)
theorem fcL_s (ok : Nat → Bool) (c : Nat → Nat) (p : Nat) : fcL ok c (p + 1) = if (ok p && decide ((fcL ok c p).2 < c p + 1)) = true then (nI p, c p + 1) else fcL ok c p := rfl
theorem fcL_spec (ok : Nat → Bool) (c : Nat → Nat) : ∀ n, (fcL ok c n = (-4, 0) ∧ ∀ p, p < n → ¬ ok p = true) ∨ (∃ p, p < n ∧ fcL ok c n = (nI p, c p + 1) ∧ ok p = true ∧ (∀ q, q < n → ok q = true → c q ≤ c p) ∧ ∀ q, q < p → ok q = true → c q < c p)
  | 0 => Or.inl ⟨rfl, fun p hp => absurd hp (Nat.not_lt_zero p)⟩
  | n + 1 => by
    rw [fcL_s]
    rcases fcL_spec ok c n with ⟨h1, h2⟩ | ⟨p, p1, p2, p3, p4, p5⟩
    · rw [h1]
      by_cases ho : ok n = true
      · rw [if_pos (by rw [ho]; simp)]
        refine Or.inr ⟨n, by omega, rfl, ho, fun q hq hk => ?_, fun q hq hk => absurd hk (h2 q hq)⟩
        by_cases e : q = n
        · subst e; exact Nat.le_refl _
        · exact absurd hk (h2 q (by omega))
      · rw [if_neg (fun h => ho (Bool.and_eq_true_iff.mp h).1)]
        refine Or.inl ⟨rfl, fun q hq => ?_⟩
        by_cases e : q = n
        · subst e; exact ho
        · exact h2 q (by omega)
    · rw [p2]
      by_cases ho : (ok n && decide (c p + 1 < c n + 1)) = true
      · rw [if_pos ho]
        obtain ⟨b1, b2⟩ := Bool.and_eq_true_iff.mp ho
        have b2 := of_decide_eq_true b2
        refine Or.inr ⟨n, by omega, rfl, b1, fun q hq hk => ?_, fun q hq hk => ?_⟩
        · by_cases e : q = n
          · subst e; exact Nat.le_refl _
          · have := p4 q (by omega) hk
            omega
        · have := p4 q hq hk
          omega
      · rw [if_neg ho]
        refine Or.inr ⟨p, by omega, rfl, p3, fun q hq hk => ?_, p5⟩
        by_cases e : q = n
        · subst e
          by_cases hlt : c p + 1 < c q + 1
          · exact absurd (Bool.and_eq_true_iff.mpr ⟨hk, decide_eq_true hlt⟩) ho
          · omega
        · exact p4 q (by omega) hk
/-- who carries: by the class -/
def pkC (o : Nat → Nat → Nat) (W r set : Nat) : Int32 := if vK 16 (DD o W r set) < (fcL (okc o (W - (r + 1)) set) (cV o W r set) 6).2 then (fcL (okc o (W - (r + 1)) set) (cV o W r set) 6).1 else -4
/-- the one who carries is the first by whom the best is reached; or nobody -/
theorem pkC_spec (o : Nat → Nat → Nat) (W r set : Nat) : (∃ p, p < 6 ∧ pkC o W r set = nI p ∧ okc o (W - (r + 1)) set p = true ∧ cV o W r set p = vK 16 (DD o W (r + 1) set) ∧ ∀ q, q < p → okc o (W - (r + 1)) set q = true → ¬ cV o W r set q = vK 16 (DD o W (r + 1) set)) ∨ (pkC o W r set = -4 ∧ DD o W (r + 1) set = DD o W r set ∧ ∀ p, p < 6 → okc o (W - (r + 1)) set p = true → ¬ cV o W r set p = vK 16 (DD o W (r + 1) set)) := by
  obtain ⟨t1, t2, t3⟩ := top_of (o := o) (W := W) (r := r) (set := set) 6
  rw [DD_s]
  unfold pkC
  rcases fcL_spec (okc o (W - (r + 1)) set) (cV o W r set) 6 with ⟨h1, h2⟩ | ⟨p, p1, p2, p3, p4, p5⟩
  · rw [h1, if_neg (Nat.not_lt_zero _)]
    refine Or.inr ⟨rfl, ?_, fun p hp hk => absurd hk (h2 p hp)⟩
    rcases t3 with t3 | ⟨p, q1, q2, q3⟩
    · exact t3
    · exact absurd q2 (h2 p q1)
  · rw [p2]
    have hp := t2 p p1 p3
    by_cases hlt : vK 16 (DD o W r set) < cV o W r set p + 1
    · rw [if_pos hlt]
      have hB : cV o W r set p = vK 16 (dStep o W r set 6) := by
        rcases t3 with t3 | ⟨q, q1, q2, q3⟩
        · rw [t3] at hp ⊢
          omega
        · have := p4 q q1 q2
          have e : vK 16 (dStep o W r set 6) = cV o W r set q := by rw [q3]; rfl
          omega
      refine Or.inl ⟨p, p1, rfl, p3, hB, fun q hq hk => ?_⟩
      have := p5 q hq hk
      omega
    · rw [if_neg hlt]
      have hall : ∀ q, q < 6 → okc o (W - (r + 1)) set q = true → cV o W r set q < vK 16 (DD o W r set) := fun q hq hk => by
        have := p4 q hq hk
        omega
      refine Or.inr ⟨rfl, ?_, fun q hq hk => ?_⟩
      · rcases t3 with t3 | ⟨q, q1, q2, q3⟩
        · exact t3
        · have := hall q q1 q2
          have e : vK 16 (dStep o W r set 6) = cV o W r set q := by rw [q3]; rfl
          omega
      · have := hall q hq hk
        omega
/-- the walk of the sets -/
def nxS (set : Nat) (x : Int32) : Nat := if x < 0 then set else set ||| 2 ^ nN x
def pS (o : Nat → Nat → Nat) (W : Nat) : Nat → Nat
  | 0 => 0
  | w + 1 => nxS (pS o W w) (pkC o W (W - (w + 1)) (pS o W w))
theorem nxS_lt {set : Nat} {x : Int32} (h : set < 64) (hx : x = -4 ∨ ∃ p, p < 6 ∧ x = nI p) : nxS set x < 64 := by
  unfold nxS
  rcases hx with rfl | ⟨p, hp, rfl⟩
  · rw [if_pos (by decide)]; exact h
  · rw [if_neg (nI_pos (by omega)), show nN (nI p) = p from nI_clamp (by omega)]
    exact Nat.or_lt_two_pow (n := 6) h (Nat.pow_lt_pow_right (by decide) hp)
theorem pkC_in (o : Nat → Nat → Nat) (W r set : Nat) : pkC o W r set = -4 ∨ ∃ p, p < 6 ∧ pkC o W r set = nI p := by
  rcases pkC_spec o W r set with ⟨p, p1, p2, -⟩ | ⟨h, -⟩
  · exact Or.inr ⟨p, p1, p2⟩
  · exact Or.inl h
theorem pS_lt (o : Nat → Nat → Nat) (W : Nat) : ∀ w, pS o W w < 64
  | 0 => show 0 < 64 by decide
  | w + 1 => nxS_lt (pS_lt o W w) (pkC_in o W _ _)
/-- how many have been carried on the walk -/
def nC (o : Nat → Nat → Nat) (W : Nat) : Nat → Nat
  | 0 => 0
  | w + 1 => nC o W w + (if pkC o W (W - (w + 1)) (pS o W w) < 0 then 0 else 1)
theorem nC_e (o : Nat → Nat → Nat) (W : Nat) (hW : W ≤ 8) : ∀ w, w ≤ W → nC o W w + (DD o W (W - w) (pS o W w)).1 = (DD o W W 0).1
  | 0, _ => by
    show 0 + (DD o W (W - 0) 0).1 = _
    rw [Nat.sub_zero, Nat.zero_add]
  | w + 1, hw => by
    have ih := nC_e o W hW w (by omega)
    have er : W - w = (W - (w + 1)) + 1 := by omega
    rw [er] at ih
    show nC o W w + (if pkC o W (W - (w + 1)) (pS o W w) < 0 then 0 else 1) + (DD o W (W - (w + 1)) (nxS (pS o W w) (pkC o W (W - (w + 1)) (pS o W w)))).1 = _
    rcases pkC_spec o W (W - (w + 1)) (pS o W w) with ⟨p, p1, p2, p3, p4, -⟩ | ⟨h, h2, -⟩
    · unfold nxS
      rw [p2, if_neg (nI_pos (n := p) (by omega)), if_neg (nI_pos (n := p) (by omega)), show nN (nI p) = p from nI_clamp (by omega)]
      have b1 := DD_b o W (W - (w + 1)) (pS o W w ||| 2 ^ p)
      have b2 := addp_b (o := o (W - (W - (w + 1) + 1)) p) b1.1 b1.2
      have b3 := DD_b o W (W - (w + 1) + 1) (pS o W w)
      have e := (vK_ord b2.1 (by omega) b3.1 (by omega)).2.2 p4
      rw [← e, b2.2.2] at ih
      omega
    · unfold nxS
      rw [h, if_pos (by decide), if_pos (by decide)]
      rw [h2] at ih
      omega
