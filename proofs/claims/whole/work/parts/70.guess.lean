/-! ===== counting ===== -/
def cnt (p : Nat → Bool) : Nat → Nat := acc (fun k x => if p k = true then x + 1 else x) 0
theorem cnt_s (p : Nat → Bool) (n : Nat) : cnt p (n + 1) = if p n = true then cnt p n + 1 else cnt p n := rfl
theorem cnt_mono {p q : Nat → Bool} : ∀ {n : Nat}, (∀ k, k < n → p k = true → q k = true) → cnt p n ≤ cnt q n
  | 0, _ => Nat.le_refl _
  | n + 1, h => by
    have ih := cnt_mono (p := p) (q := q) (n := n) (fun k hk => h k (by omega))
    have hn := h n (by omega)
    rw [cnt_s, cnt_s]
    by_cases hp : p n = true
    · rw [if_pos hp, if_pos (hn hp)]; omega
    · rw [if_neg hp]; split <;> omega
theorem cnt_congr {p q : Nat → Bool} {n : Nat} (h : ∀ k, k < n → p k = q k) : cnt p n = cnt q n :=
  Nat.le_antisymm (cnt_mono (fun k hk e => by rw [← h k hk]; exact e)) (cnt_mono (fun k hk e => by rw [h k hk]; exact e))
theorem cnt_zero {p : Nat → Bool} : ∀ {n : Nat}, (∀ k, k < n → ¬ p k = true) → cnt p n = 0
  | 0, _ => rfl
  | n + 1, h => by rw [cnt_s, if_neg (h n (by omega))]; exact cnt_zero (fun k hk => h k (by omega))
theorem cnt_up {p : Nat → Bool} {m : Nat} : ∀ {n : Nat}, m ≤ n → cnt p m ≤ cnt p n
  | 0, h => by rw [show m = 0 by omega]; exact Nat.le_refl _
  | n + 1, h => by
    by_cases e : m = n + 1
    · rw [e]; exact Nat.le_refl _
    · have := cnt_up (p := p) (m := m) (n := n) (by omega)
      rw [cnt_s]; split <;> omega
theorem cnt_pos {p : Nat → Bool} {k n : Nat} (hk : k < n) (hp : p k = true) : 1 ≤ cnt p n := by
  have h1 : cnt p (k + 1) = cnt p k + 1 := by rw [cnt_s, if_pos hp]
  have h2 := cnt_up (p := p) (m := k + 1) (n := n) hk
  omega
theorem cnt_stop {p : Nat → Bool} {m : Nat} : ∀ {n : Nat}, m ≤ n → (∀ k, m ≤ k → k < n → ¬ p k = true) → cnt p n = cnt p m
  | 0, h, _ => by rw [show m = 0 by omega]
  | n + 1, h, hk => by
    by_cases e : m = n + 1
    · rw [e]
    · rw [cnt_s, if_neg (hk n (by omega) (by omega))]
      exact cnt_stop (by omega) (fun k h1 h2 => hk k h1 (by omega))
theorem cnt_sh {p : Nat → Bool} {f : Nat} (h0 : cnt p f = 0) : ∀ n, acc (fun k x => if p (f + k) = true then x + 1 else x) 0 n = cnt p (f + n)
  | 0 => by rw [Nat.add_zero, h0]; rfl
  | n + 1 => by
    rw [acc_s, cnt_sh h0 n, show f + (n + 1) = (f + n) + 1 by omega, cnt_s]
def mxA (g : Nat → Nat) : Nat → Nat := acc (fun k x => max x (g k)) 0
theorem mxA_s (g : Nat → Nat) (n : Nat) : mxA g (n + 1) = max (mxA g n) (g n) := rfl
theorem mxA_ge {g : Nat → Nat} {k : Nat} : ∀ {n : Nat}, k < n → g k ≤ mxA g n
  | 0, h => by omega
  | n + 1, h => by
    rw [mxA_s]
    by_cases e : k = n
    · subst e; exact Nat.le_max_right _ _
    · exact Nat.le_trans (mxA_ge (g := g) (n := n) (by omega)) (Nat.le_max_left _ _)
theorem mxA_le {g : Nat → Nat} {b : Nat} : ∀ {n : Nat}, (∀ k, k < n → g k ≤ b) → mxA g n ≤ b
  | 0, _ => Nat.zero_le _
  | n + 1, h => by
    rw [mxA_s]
    exact Nat.max_le.mpr ⟨mxA_le (fun k hk => h k (by omega)), h n (by omega)⟩
/-- the greatest part, however it is reckoned -/
theorem parts_eq {mem : Nat → Bool} {S : Nat → Int32} {f0 f1 : Nat} (h9 : f1 ≤ 9) (hmem : ∀ o, o < 10 → mem o = true → f0 ≤ o ∧ o ≤ f1) {c0 : Nat} (h0 : c0 < 10) (hc0 : mem c0 = true) :
    mxA (fun v => if mem v = true then cnt (fun o => mem o && decide (S o = S v)) (v + 1) else 1) 10 = mxA (fun k => if mem (f0 + k) = true then cnt (fun o => mem o && decide (S o = S (f0 + k))) 10 else 0) (f1 + 1 - f0) := by
  have isG : ∀ c, c < 10 → mem c = true → cnt (fun o => mem o && decide (S o = S c)) 10 ≤ mxA (fun k => if mem (f0 + k) = true then cnt (fun o => mem o && decide (S o = S (f0 + k))) 10 else 0) (f1 + 1 - f0) := by
    intro c hc hm
    obtain ⟨a, b⟩ := hmem c hc hm
    have := mxA_ge (g := fun k => if mem (f0 + k) = true then cnt (fun o => mem o && decide (S o = S (f0 + k))) 10 else 0) (k := c - f0) (n := f1 + 1 - f0) (by omega)
    have e : f0 + (c - f0) = c := by omega
    simp only [e, hm, if_true] at this
    exact this
  have one : ∀ c, c < 10 → mem c = true → 1 ≤ cnt (fun o => mem o && decide (S o = S c)) 10 := fun c hc hm => cnt_pos (k := c) hc (by simp [hm])
  refine Nat.le_antisymm (mxA_le (fun v hv => ?_)) (mxA_le (fun k hk => ?_))
  · show (if mem v = true then cnt (fun o => mem o && decide (S o = S v)) (v + 1) else 1) ≤ _
    by_cases hm : mem v = true
    · rw [if_pos hm]
      exact Nat.le_trans (cnt_up (by omega)) (isG v hv hm)
    · rw [if_neg hm]
      exact Nat.le_trans (one c0 h0 hc0) (isG c0 h0 hc0)
  · show (if mem (f0 + k) = true then cnt (fun o => mem o && decide (S o = S (f0 + k))) 10 else 0) ≤ _
    by_cases hm : mem (f0 + k) = true
    rotate_left
    · rw [if_neg hm]; exact Nat.zero_le _
    · rw [if_pos hm]
      -- the last of its like
      obtain ⟨m, m1, m2, m3⟩ := first_of (fun j => (mem (9 - j) && decide (S (9 - j) = S (f0 + k))) = true) 10
      have hlast : m < 10 ∧ (mem (9 - m) && decide (S (9 - m) = S (f0 + k))) = true := by
        rcases m3 with e | e
        · have := m2 (9 - (f0 + k)) (by omega)
          rw [show 9 - (9 - (f0 + k)) = f0 + k by omega] at this
          exact absurd (by simp [hm]) this
        · exact e
      obtain ⟨hm10, hw⟩ := hlast
      have hw' : mem (9 - m) = true ∧ S (9 - m) = S (f0 + k) := by simpa using hw
      have e1 : cnt (fun o => mem o && decide (S o = S (f0 + k))) 10 = cnt (fun o => mem o && decide (S o = S (f0 + k))) (9 - m + 1) := cnt_stop (by omega) (fun j j1 j2 => by
        have := m2 (9 - j) (by omega)
        rw [show 9 - (9 - j) = j by omega] at this
        exact this)
      have := mxA_ge (g := fun v => if mem v = true then cnt (fun o => mem o && decide (S o = S v)) (v + 1) else 1) (k := 9 - m) (n := 10) (by omega)
      have e2 : (if mem (9 - m) = true then cnt (fun o => mem o && decide (S o = S (9 - m))) (9 - m + 1) else 1) = cnt (fun o => mem o && decide (S o = S (f0 + k))) (9 - m + 1) := by rw [if_pos hw'.1, hw'.2]
      rw [e1, ← e2]
      exact this
theorem lc_lt (x y : Int64) : lg_cmp x y < 0 ↔ x < y := by
  unfold lg_cmp
  by_cases h1 : x > y
  · rw [if_pos h1]
    exact ⟨fun h => absurd h (by decide), fun h => absurd (Int64.lt_trans h h1) (Int64.lt_irrefl)⟩
  · rw [if_neg h1]
    by_cases h2 : x = y
    · rw [if_pos h2, h2]
      exact ⟨fun h => absurd h (by decide), fun h => absurd h Int64.lt_irrefl⟩
    · rw [if_neg h2]
      refine ⟨fun _ => ?_, fun _ => by decide⟩
      rw [Int64.lt_iff_toInt_lt]
      have h3 : ¬ y.toInt < x.toInt := fun h => h1 (Int64.lt_iff_toInt_lt.mpr h)
      have h4 : ¬ x.toInt = y.toInt := fun h => h2 (Int64.toInt_inj.mp h)
      omega
theorem lc_eq (x y : Int64) : lg_cmp x y = 0 ↔ x = y := by
  unfold lg_cmp
  by_cases h1 : x > y
  · rw [if_pos h1]
    exact ⟨fun h => absurd h (by decide), fun h => by rw [h] at h1; exact absurd h1 Int64.lt_irrefl⟩
  · rw [if_neg h1]
    by_cases h2 : x = y
    · rw [if_pos h2]; exact ⟨fun _ => h2, fun _ => rfl⟩
    · rw [if_neg h2]; exact ⟨fun h => absurd h (by decide), fun h => absurd h h2⟩
theorem lc_le (x y : Int64) : lg_cmp x y ≤ 0 ↔ x ≤ y := by
  unfold lg_cmp
  by_cases h1 : x > y
  · rw [if_pos h1]
    exact ⟨fun h => absurd h (by decide), fun h => absurd h (Int64.not_le.mpr h1)⟩
  · rw [if_neg h1]
    refine ⟨fun _ => Int64.not_lt.mp h1, fun _ => ?_⟩
    split <;> decide
/-! bits of a set -/
def memB (M v : Nat) : Bool := decide (M / 2 ^ v % 2 = 1)
theorem memB_t (M v : Nat) : memB M v = M.testBit v := Nat.testBit_eq_decide_div_mod_eq.symm
theorem memB_or (M k v : Nat) : memB (M ||| 2 ^ k) v = (memB M v || decide (k = v)) := by rw [memB_t, memB_t, Nat.testBit_or, Nat.testBit_two_pow]
theorem memB_0 (v : Nat) : memB 0 v = false := by rw [memB_t, Nat.zero_testBit]
theorem bitB {M v : Nat} (hM : M < 2 ^ 31) (hv : v < 32) : (((nI M >>> (nI v &&& 31)) &&& 1 : Int32) = 0 ↔ ¬ memB M v = true) := by
  rw [bit_I hM hv]
  unfold memB
  rw [decide_eq_true_eq, eqr0 (by omega)]
  omega
def setF (fit : Nat → Bool) (f0 : Nat) : Nat → Nat := acc (fun k x => if fit (f0 + k) = true then x ||| 2 ^ (f0 + k) else x) 0
theorem setF_s (fit : Nat → Bool) (f0 k : Nat) : setF fit f0 (k + 1) = if fit (f0 + k) = true then setF fit f0 k ||| 2 ^ (f0 + k) else setF fit f0 k := rfl
theorem setF_lt (fit : Nat → Bool) (f0 : Nat) : ∀ k, setF fit f0 k < 2 ^ (f0 + k)
  | 0 => Nat.two_pow_pos _
  | k + 1 => by
    have ih := setF_lt fit f0 k
    have h2 : 2 ^ (f0 + k) < 2 ^ (f0 + (k + 1)) := Nat.pow_lt_pow_right (by decide) (by omega)
    rw [setF_s]
    split
    · exact Nat.or_lt_two_pow (by omega) h2
    · omega
theorem setF_mem (fit : Nat → Bool) (f0 v : Nat) : ∀ k, memB (setF fit f0 k) v = true → f0 ≤ v ∧ v < f0 + k
  | 0, h => by
    rw [show setF fit f0 0 = 0 from rfl, memB_0] at h
    cases h
  | k + 1, h => by
    rw [setF_s] at h
    by_cases hf : fit (f0 + k) = true
    · rw [if_pos hf, memB_or] at h
      rcases Bool.or_eq_true_iff.mp h with h | h
      · have := setF_mem fit f0 v k h
        omega
      · have := of_decide_eq_true h
        omega
    · rw [if_neg hf] at h
      have := setF_mem fit f0 v k h
      omega
theorem mem_ne {M : Nat} (hM : M < 1024) (h0 : M ≠ 0) : ∃ c, c < 10 ∧ memB M c = true := by
  have key : ∀ M, M < 1024 → M ≠ 0 → ∃ c, c < 10 ∧ memB M c = true := by decide +kernel
  exact key M hM h0
def popX (m : Nat) : Nat := cnt (memB m) 10
theorem popX_c : ∀ m, m < 1024 → fJ6_bitCount_0f7a4 (nI m) uZ = some (nI (popX m)) := by decide +kernel
theorem popX_u {m : Nat} (h : m < 1024) (u : Um) : fJ6_bitCount_0f7a4 (nI m) u = some (nI (popX m)) := popX_c m h
