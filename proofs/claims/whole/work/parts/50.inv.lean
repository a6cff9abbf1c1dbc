/-! ===== the invariant between the class's cells and the reference's ===== -/
abbrev nN (x : Int32) : Nat := x.toNatClampNeg
def PV (c : Nat → Int32) (P dd p : Nat) : Prop := (∃ k, 1 ≤ k ∧ k ≤ 5 ∧ c (3 + p) = nI k) ∧ (∃ k, k ≤ 9 ∧ c (9 + p) = nI k) ∧ (∃ k, k ≤ 9 ∧ c (15 + p) = nI k) ∧ (∃ k, k ≤ 9 ∧ c (21 + p) = nI k) ∧ (∃ k, k ≤ 9 ∧ c (27 + p) = nI k) ∧ (c (33 + p) = -4 ∨ ∃ q, q < P ∧ c (33 + p) = nI q) ∧ (∃ k, k ≤ dd ∧ c (39 + p) = nI k) ∧ (c (45 + p) = -4 ∨ ∃ q, q < P ∧ c (45 + p) = nI q)
def WV (c : Nat → Int32) (P w : Nat) : Prop := (∃ q, q < P ∧ c (51 + w) = nI q) ∧ (∃ q, q < P ∧ c (59 + w) = nI q) ∧ (∃ k, 1 ≤ k ∧ k ≤ 9 ∧ c (67 + w) = nI k) ∧ (c (75 + w) = -4 ∨ ∃ q, q < P ∧ c (75 + w) = nI q)
/-- a row is a COAST of P people, W wrongs, on day dd -/
def VR (c : Nat → Int32) (P W dd : Nat) : Prop := c 1 = nI P ∧ c 2 = nI W ∧ c 0 = nI dd ∧ P ≤ 6 ∧ W ≤ 8 ∧ dd ≤ 20000 ∧ (∀ p, p < P → PV c P dd p) ∧ (∀ w, w < W → WV c P w)
def VS (c : Nat → Int32) : Prop := ∃ P W dd : Nat, 2 ≤ P ∧ 1 ≤ W ∧ dd ≤ 9999 ∧ VR c P W dd
/-- the class's coast at cell a holds the row c of P people and W wrongs -/
def RC (u : Um) (a : Nat) (c : Nat → Int32) (P W : Nat) : Prop := u.1 a 2 = c 1 ∧ u.1 a 3 = c 2 ∧ u.1 a 4 = c 0 ∧ (∀ p k, p < P → k < 8 → u.1 (a + 1) (8 * p + k) = c (3 + 6 * k + p)) ∧ (∀ w k, w < W → k < 4 → u.1 (a + 2) (4 * w + k) = c (51 + 8 * k + w))
def CP (u : Um) (a : Nat) (c : Nat → Int32) : Prop := ∃ P W dd : Nat, 2 ≤ P ∧ 1 ≤ W ∧ dd ≤ 9999 ∧ VR c P W dd ∧ RC u a c P W
def IvC (u : Um) : Prop := (u.1 122 1 = 0 ∧ u.1 122 2 = 0 ∧ u.1 122 0 = 0 ∧ u.1 3 2 = 0 ∧ u.1 3 3 = 0 ∧ u.1 3 4 = 0) ∨ CP u 3 (u.1 122)
def IvP (u : Um) : Prop := ∃ n nx : Nat, n ≤ 24 ∧ nx < 24 ∧ u.1 9 2 = nI n ∧ u.1 117 12 = nI n ∧ u.1 9 1 = nI nx ∧ ∀ j, j < n → CP u (11 + 3 * ((nx + 24 - n + j) % 24)) (fun i => u.1 127 (83 * j + i))
def IvM (u : Um) : Prop := ∀ k, k < 2 → (u.1 126 k = 0 ∧ u.1 (84 + 3 * k) 2 = 0) ∨ (u.1 126 k = 1 ∧ CP u (84 + 3 * k) (fun i => u.1 125 (83 * k + i)))
def IvT (u : Um) : Prop := ∃ n : Nat, n ≤ 130 ∧ u.1 1 1 = nI n ∧ u.1 117 3 = nI n ∧ ∀ i, i < n → u.1 2 i = u.1 121 i ∧ ∃ b, b < 256 ∧ u.1 2 i = nI b
def IvS (u : Um) : Prop := ∀ s, s < 4 → (u.1 (91 + 2 * s) 1 = -1 ∧ u.1 118 s = -1) ∨ (∃ l z : Nat, l < 4 ∧ z ≤ 24 ∧ u.1 (91 + 2 * s) 1 = nI l ∧ u.1 118 s = nI l ∧ u.1 (91 + 2 * s) 2 = nI z ∧ u.1 119 s = nI z ∧ ∀ i, i < 24 → u.2 (92 + 2 * s) i = u.2 120 (24 * s + i))
def Inv (u : Um) : Prop := IvC u ∧ IvP u ∧ IvM u ∧ IvT u ∧ IvS u
theorem Inv_0 : Inv U0 := by
  refine ⟨Or.inl ⟨rfl, rfl, rfl, rfl, rfl, rfl⟩, ⟨0, 0, by decide, by decide, rfl, rfl, rfl, fun j h => absurd h (Nat.not_lt_zero j)⟩, fun k hk => Or.inl ?_, ⟨0, by decide, rfl, rfl, fun i h => absurd h (Nat.not_lt_zero i)⟩, fun s hs => Or.inl ?_⟩
  · rcases (show k = 0 ∨ k = 1 by omega) with rfl | rfl <;> exact ⟨rfl, rfl⟩
  · rcases (show s = 0 ∨ s = 1 ∨ s = 2 ∨ s = 3 by omega) with rfl | rfl | rfl | rfl <;> exact ⟨rfl, rfl⟩
/-- both pure; class pure; both write -/
def S11 (A B : Um → Option Int32) : Prop := ∀ u, Inv u → ∃ r, A u = some r ∧ B u = some r
def S12 (A : Um → Option Int32) (B : Um → Option (Int32 × Um)) : Prop := ∀ u, Inv u → ∃ r u2, A u = some r ∧ B u = some (r, u2) ∧ Inv u2
def S22 (A B : Um → Option (Int32 × Um)) : Prop := ∀ u, Inv u → ∃ r u1 u2, A u = some (r, u1) ∧ B u1 = some (r, u2) ∧ Inv u2
def S2L (A B : Um → Option (Int64 × Um)) : Prop := ∀ u, Inv u → ∃ r u1 u2, A u = some (r, u1) ∧ B u1 = some (r, u2) ∧ Inv u2
/-- what is owed of the methods, one by one -/
def STEPS : Prop :=
  (∀ a, S22 (fX7_feed a) (fX8_feed a)) ∧ S22 fX7_coast fX8_coast ∧ (∀ a b, S11 (fX7_person a b) (fX8_person a b)) ∧ (∀ a b, S11 (fX7_as a b) (fX8_as a b)) ∧ (∀ a b, S11 (fX7_wrong a b) (fX8_wrong a b)) ∧
  (∀ a b, S22 (fX7_carry a b) (fX8_carry a b)) ∧ (∀ a b, S22 (fX7_lend a b) (fX8_lend a b)) ∧ (∀ a b c, S22 (fX7_sin a b c) (fX8_sin a b c)) ∧ (∀ a b, S22 (fX7_harden a b) (fX8_harden a b)) ∧ S22 fX7_pass fX8_pass ∧ S22 fX7_undo fX8_undo ∧
  (∀ a, S22 (fX7_image a) (fX8_image a)) ∧ (∀ a, S22 (fX7_restore a) (fX8_restore a)) ∧ (∀ a b, S11 (fX7_said a b) (fX8_said a b)) ∧ (∀ a b, S11 (fX7_comes a b) (fX8_comes a b)) ∧ (∀ a b, S12 (fX7_least a b) (fX8_least a b)) ∧ (∀ a, S22 (fX7_match a) (fX8_match a)) ∧
  (∀ a b, S11 (fX7_chain a b) (fX8_chain a b)) ∧ (∀ a b, S12 (fX7_reach a b) (fX8_reach a b)) ∧ (∀ a b, S22 (fX7_plan a b) (fX8_plan a b)) ∧ (∀ a b c d, S11 (fX7_gusts a b c d) (fX8_gusts a b c d)) ∧ (∀ a b c, S22 (fX7_decades a b c) (fX8_decades a b c)) ∧
  (∀ a b c, S22 (fX7_sheet a b c) (fX8_sheet a b c)) ∧ (∀ a, S22 (fX7_drop a) (fX8_drop a)) ∧ (∀ a b c v, S2L (fX7_item a b c v) (fX8_item a b c v)) ∧ (∀ a b c d e, S22 (fX7_copy a b c d e) (fX8_copy a b c d e)) ∧ (∀ a b c d, S22 (fX7_log a b c d) (fX8_log a b c d)) ∧
  (∀ a b c d e f, S22 (fX7_skills a b c d e f) (fX8_skills a b c d e f)) ∧ (∀ a b c d e f, S22 (fX7_kinds a b c d e f) (fX8_kinds a b c d e f)) ∧ (∀ a, S11 (fX7_count a) (fX8_count a))
theorem inbN {n N : Nat} (h : n < N) (hN : N < 2 ^ 31) : inb (nI n) N = true := by
  have h1 := nI_toInt (n := n) (by omega)
  simp [inb, h1]
  omega
theorem nadd (a : Nat) (b : Nat) : nI a + nI b = nI (a + b) := nI_add a b
