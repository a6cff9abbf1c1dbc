/-! ===== a row's places one by one ===== -/
def okv (P dd i : Nat) (x : Int32) : Prop :=
  if i < 9 then ∃ k, 1 ≤ k ∧ k ≤ 5 ∧ x = nI k
  else if i < 33 then ∃ k, k ≤ 9 ∧ x = nI k
  else if i < 39 then x = -4 ∨ ∃ q, q < P ∧ x = nI q
  else if i < 45 then ∃ k, k ≤ dd ∧ x = nI k
  else if i < 51 then x = -4 ∨ ∃ q, q < P ∧ x = nI q
  else if i < 67 then ∃ q, q < P ∧ x = nI q
  else if i < 75 then ∃ k, 1 ≤ k ∧ k ≤ 9 ∧ x = nI k
  else x = -4 ∨ ∃ q, q < P ∧ x = nI q
def rel (P W i : Nat) : Prop := (∃ k p, k < 8 ∧ p < P ∧ i = 3 + 6 * k + p) ∨ (∃ k w, k < 4 ∧ w < W ∧ i = 51 + 8 * k + w)
theorem VR_iff {c : Nat → Int32} {P W dd : Nat} : VR c P W dd ↔ (c 1 = nI P ∧ c 2 = nI W ∧ c 0 = nI dd ∧ P ≤ 6 ∧ W ≤ 8 ∧ dd ≤ 20000 ∧ ∀ i, rel P W i → okv P dd i (c i)) := by
  constructor
  · rintro ⟨h1, h2, h3, h4, h5, h6, h7, h8⟩
    refine ⟨h1, h2, h3, h4, h5, h6, fun i hi => ?_⟩
    rcases hi with ⟨k, p, hk, hp, rfl⟩ | ⟨k, w, hk, hw, rfl⟩
    · obtain ⟨a0, a1, a2, a3, a4, a5, a6, a7⟩ := h7 p hp
      unfold okv
      rcases (show k = 0 ∨ k = 1 ∨ k = 2 ∨ k = 3 ∨ k = 4 ∨ k = 5 ∨ k = 6 ∨ k = 7 by omega) with rfl | rfl | rfl | rfl | rfl | rfl | rfl | rfl
      · rw [if_pos (by omega)]; exact a0
      · rw [if_neg (by omega), if_pos (by omega)]; exact a1
      · rw [if_neg (by omega), if_pos (by omega)]; exact a2
      · rw [if_neg (by omega), if_pos (by omega)]; exact a3
      · rw [if_neg (by omega), if_pos (by omega)]; exact a4
      · rw [if_neg (by omega), if_neg (by omega), if_pos (by omega)]; exact a5
      · rw [if_neg (by omega), if_neg (by omega), if_neg (by omega), if_pos (by omega)]; exact a6
      · rw [if_neg (by omega), if_neg (by omega), if_neg (by omega), if_neg (by omega), if_pos (by omega)]; exact a7
    · obtain ⟨a0, a1, a2, a3⟩ := h8 w hw
      unfold okv
      rw [if_neg (by omega), if_neg (by omega), if_neg (by omega), if_neg (by omega), if_neg (by omega)]
      rcases (show k = 0 ∨ k = 1 ∨ k = 2 ∨ k = 3 by omega) with rfl | rfl | rfl | rfl
      · rw [if_pos (by omega)]; exact a0
      · rw [if_pos (by omega)]; exact a1
      · rw [if_neg (by omega), if_pos (by omega)]; exact a2
      · rw [if_neg (by omega), if_neg (by omega)]; exact a3
  · rintro ⟨h1, h2, h3, h4, h5, h6, h7⟩
    refine ⟨h1, h2, h3, h4, h5, h6, fun p hp => ?_, fun w hw => ?_⟩
    · have g := fun k (hk : k < 8) => h7 (3 + 6 * k + p) (Or.inl ⟨k, p, hk, hp, rfl⟩)
      have g0 := g 0 (by decide)
      have g1 := g 1 (by decide)
      have g2 := g 2 (by decide)
      have g3 := g 3 (by decide)
      have g4 := g 4 (by decide)
      have g5 := g 5 (by decide)
      have g6 := g 6 (by decide)
      have g7 := g 7 (by decide)
      unfold okv at g0 g1 g2 g3 g4 g5 g6 g7
      rw [if_pos (by omega)] at g0
      rw [if_neg (by omega), if_pos (by omega)] at g1 g2 g3 g4
      rw [if_neg (by omega), if_neg (by omega), if_pos (by omega)] at g5
      rw [if_neg (by omega), if_neg (by omega), if_neg (by omega), if_pos (by omega)] at g6
      rw [if_neg (by omega), if_neg (by omega), if_neg (by omega), if_neg (by omega), if_pos (by omega)] at g7
      exact ⟨g0, g1, g2, g3, g4, g5, g6, g7⟩
    · have g := fun k (hk : k < 4) => h7 (51 + 8 * k + w) (Or.inr ⟨k, w, hk, hw, rfl⟩)
      have g0 := g 0 (by decide)
      have g1 := g 1 (by decide)
      have g2 := g 2 (by decide)
      have g3 := g 3 (by decide)
      unfold okv at g0 g1 g2 g3
      rw [if_neg (by omega), if_neg (by omega), if_neg (by omega), if_neg (by omega), if_neg (by omega)] at g0 g1 g2 g3
      rw [if_pos (by omega)] at g0 g1
      rw [if_neg (by omega), if_pos (by omega)] at g2
      rw [if_neg (by omega), if_neg (by omega)] at g3
      exact ⟨g0, g1, g2, g3⟩
theorem VR_set {c : Nat → Int32} {P W dd k : Nat} {v : Int32} (h : VR c P W dd) (hk : 3 ≤ k) (hv : okv P dd k v) : VR (upd c k v) P W dd := by
  obtain ⟨h1, h2, h3, h4, h5, h6, h7⟩ := VR_iff.mp h
  refine VR_iff.mpr ⟨by rw [pk_un (by omega)]; exact h1, by rw [pk_un (by omega)]; exact h2, by rw [pk_un (by omega)]; exact h3, h4, h5, h6, fun i hi => ?_⟩
  by_cases e : i = k
  · subst e; rw [pk_us]; exact hv
  · rw [pk_un e]; exact h7 i hi
theorem okv_day {P dd dd' i : Nat} {x : Int32} (h : okv P dd i x) (hd : dd ≤ dd') : okv P dd' i x := by
  unfold okv at h ⊢
  split at h <;> rename_i g1
  · rw [if_pos g1]; exact h
  rw [if_neg g1]
  split at h <;> rename_i g2
  · rw [if_pos g2]; exact h
  rw [if_neg g2]
  split at h <;> rename_i g3
  · rw [if_pos g3]; exact h
  rw [if_neg g3]
  split at h <;> rename_i g4
  · rw [if_pos g4]
    obtain ⟨k, hk, e⟩ := h
    exact ⟨k, by omega, e⟩
  rw [if_neg g4]
  exact h
theorem VR_day {c : Nat → Int32} {P W dd : Nat} (h : VR c P W dd) (hd : dd + 1 ≤ 20000) : VR (upd c 0 (nI (dd + 1))) P W (dd + 1) := by
  obtain ⟨h1, h2, h3, h4, h5, h6, h7⟩ := VR_iff.mp h
  refine VR_iff.mpr ⟨by rw [pk_un (by omega)]; exact h1, by rw [pk_un (by omega)]; exact h2, pk_us, h4, h5, hd, fun i hi => ?_⟩
  have hi0 : i ≠ 0 := by rcases hi with ⟨k, p, hk, hp, rfl⟩ | ⟨k, w, hk, hw, rfl⟩ <;> omega
  rw [pk_un hi0]
  exact okv_day (h7 i hi) (by omega)
theorem RC_setT {u : Um} {a P W p k : Nat} {c : Nat → Int32} {v : Int32} (h : RC u a c P W) (hP : P ≤ 6) (hW : W ≤ 8) (hp : p < P) (hk : k < 8) : RC (sI u (a + 1) (8 * p + k) v) a (upd c (3 + 6 * k + p) v) P W := by
  refine ⟨?_, ?_, ?_, fun p' k' hp' hk' => ?_, fun w k' hw hk' => ?_⟩
  · rw [sI_ne (by omega), pk_un (by omega)]; exact h.1
  · rw [sI_ne (by omega), pk_un (by omega)]; exact h.2.1
  · rw [sI_ne (by omega), pk_un (by omega)]; exact h.2.2.1
  · by_cases e : p' = p ∧ k' = k
    · obtain ⟨rfl, rfl⟩ := e
      rw [sI_eq, pk_us]
    · rw [sI_ot (by omega), pk_un (by omega)]; exact h.2.2.2.1 p' k' hp' hk'
  · rw [sI_ne (by omega), pk_un (by omega)]; exact h.2.2.2.2 w k' hw hk'
theorem RC_setP {u : Um} {a P W w k : Nat} {c : Nat → Int32} {v : Int32} (h : RC u a c P W) (hP : P ≤ 6) (hW : W ≤ 8) (hw : w < W) (hk : k < 4) : RC (sI u (a + 2) (4 * w + k) v) a (upd c (51 + 8 * k + w) v) P W := by
  refine ⟨?_, ?_, ?_, fun p k' hp hk' => ?_, fun w' k' hw' hk' => ?_⟩
  · rw [sI_ne (by omega), pk_un (by omega)]; exact h.1
  · rw [sI_ne (by omega), pk_un (by omega)]; exact h.2.1
  · rw [sI_ne (by omega), pk_un (by omega)]; exact h.2.2.1
  · rw [sI_ne (by omega), pk_un (by omega)]; exact h.2.2.2.1 p k' hp hk'
  · by_cases e : w' = w ∧ k' = k
    · obtain ⟨rfl, rfl⟩ := e
      rw [sI_eq, pk_us]
    · rw [sI_ot (by omega), pk_un (by omega)]; exact h.2.2.2.2 w' k' hw' hk'
theorem RC_day {u : Um} {a P W : Nat} {c : Nat → Int32} {v : Int32} (h : RC u a c P W) (hP : P ≤ 6) (hW : W ≤ 8) : RC (sI u a 4 v) a (upd c 0 v) P W := by
  refine ⟨?_, ?_, ?_, fun p k hp hk => ?_, fun w k hw hk => ?_⟩
  · rw [sI_ot (by decide), pk_un (by decide)]; exact h.1
  · rw [sI_ot (by decide), pk_un (by decide)]; exact h.2.1
  · rw [sI_eq, pk_us]
  · rw [sI_ne (by omega), pk_un (by omega)]; exact h.2.2.2.1 p k hp hk
  · rw [sI_ne (by omega), pk_un (by omega)]; exact h.2.2.2.2 w k hw hk
/-! frames of the invariant's parts -/
theorem IvM_fr {u u' : Um} (h : IvM u) (e : ∀ k, (84 ≤ k ∧ k ≤ 89) ∨ k = 125 ∨ k = 126 → u'.1 k = u.1 k) : IvM u' := by
  intro k hk
  rcases h k hk with ⟨h1, h2⟩ | ⟨h1, h2⟩
  · exact Or.inl ⟨by rw [e 126 (by omega)]; exact h1, by rw [e (84 + 3 * k) (by omega)]; exact h2⟩
  · exact Or.inr ⟨by rw [e 126 (by omega)]; exact h1, CP_fr h2 (e _ (by omega)) (e _ (by omega)) (e _ (by omega)) (fun i _ => by rw [e 125 (by omega)])⟩
theorem IvT_fr {u u' : Um} (h : IvT u) (e1 : u'.1 1 = u.1 1) (e2 : u'.1 2 = u.1 2) (e3 : u'.1 121 = u.1 121) (e4 : u'.1 117 3 = u.1 117 3) : IvT u' := by
  obtain ⟨n, h1, h2, h3, h4⟩ := h
  exact ⟨n, h1, by rw [e1]; exact h2, by rw [e4]; exact h3, fun i hi => by rw [e2, e3]; exact h4 i hi⟩
theorem IvS_fr {u u' : Um} (h : IvS u) (e : ∀ k, (91 ≤ k ∧ k ≤ 98) ∨ k = 118 ∨ k = 119 → u'.1 k = u.1 k) (e2 : u'.2 = u.2) : IvS u' := by
  intro s hs
  rcases h s hs with ⟨h1, h2⟩ | ⟨l, z, h1, h2, h3, h4, h5, h6, h7⟩
  · exact Or.inl ⟨by rw [e _ (by omega)]; exact h1, by rw [e _ (by omega)]; exact h2⟩
  · exact Or.inr ⟨l, z, h1, h2, by rw [e _ (by omega)]; exact h3, by rw [e _ (by omega)]; exact h4, by rw [e _ (by omega)]; exact h5, by rw [e _ (by omega)]; exact h6, fun i hi => by rw [e2]; exact h7 i hi⟩
theorem IvP_fr {u u' : Um} (h : IvP u) (e : ∀ k, k = 9 ∨ (11 ≤ k ∧ k ≤ 82) ∨ k = 127 → u'.1 k = u.1 k) (e2 : u'.1 117 12 = u.1 117 12) : IvP u' := by
  obtain ⟨n, nx, h1, h2, h3, h4, h5, h6⟩ := h
  refine ⟨n, nx, h1, h2, by rw [e 9 (by omega)]; exact h3, by rw [e2]; exact h4, by rw [e 9 (by omega)]; exact h5, fun j hj => ?_⟩
  have hm : (nx + 24 - n + j) % 24 < 24 := Nat.mod_lt _ (by decide)
  exact CP_fr (h6 j hj) (e _ (by omega)) (e _ (by omega)) (e _ (by omega)) (fun i _ => by rw [e 127 (by omega)])
theorem IvC_fr {u u' : Um} (h : IvC u) (e3 : u'.1 3 = u.1 3) (e4 : u'.1 4 = u.1 4) (e5 : u'.1 5 = u.1 5) (e : u'.1 122 = u.1 122) : IvC u' := by
  rcases h with ⟨h1, h2, h3, h4, h5, h6⟩ | h
  · exact Or.inl ⟨by rw [e]; exact h1, by rw [e]; exact h2, by rw [e]; exact h3, by rw [e3]; exact h4, by rw [e3]; exact h5, by rw [e3]; exact h6⟩
  · exact Or.inr (CP_fr h e3 e4 e5 (fun i _ => by rw [e]))
/-- an act: kept, done, noted, done -/
theorem act_Inv {u u1 u2 u3 u4 : Um} (hI : Inv u) (hC : CP u 3 (u.1 122)) (hk : fX3_keep 3 u = some u1) (h2 : ∀ k, k ≠ 3 → k ≠ 4 → k ≠ 5 → u2.1 k = u1.1 k) (h22 : u2.2 = u1.2) (hn : fX8_note u2 = some u3) (h4 : ∀ k, k ≠ 122 → u4.1 k = u3.1 k) (h42 : u4.2 = u3.2) (hCP : CP u4 3 (u4.1 122)) : Inv u4 := by
  obtain ⟨i1, i2, i3, i4, i5⟩ := hI
  have i2' := i2
  obtain ⟨n, nx, hn24, hx, a1, a2, a3, a4⟩ := i2
  obtain ⟨u1', e1, f1, f2, -, -, -, -, -, -, -⟩ := keep_spec hn24 hx a1 a3
  rw [hk] at e1
  cases e1
  have hvn : u2.1 117 12 = nI n := by rw [h2 117 (by decide) (by decide) (by decide), f1 117 (by decide) (by omega) (by omega) (by omega)]; exact a2
  obtain ⟨v', e2, g1, g2, g3, -⟩ := note_spec hn24 hvn
  rw [hn] at e2
  cases e2
  have all : ∀ k, k ≠ 3 → k ≠ 4 → k ≠ 5 → k ≠ 9 → ¬ (11 ≤ k ∧ k ≤ 82) → k ≠ 117 → k ≠ 122 → k ≠ 127 → u4.1 k = u.1 k := fun k b1 b2 b3 b4 b5 b6 b7 b8 => by
    rw [h4 k b7, g1 k b6 b8, h2 k b1 b2 b3, f1 k b4 (by omega) (by omega) (by omega)]
  refine ⟨Or.inr hCP, ?_, ?_, ?_, ?_⟩
  · refine act_IvP i2' hC hk (h2 9 (by decide) (by decide) (by decide)) (fun k b1 b2 => h2 k (by omega) (by omega) (by omega)) (h2 122 (by decide) (by decide) (by decide)) (h2 127 (by decide) (by decide) (by decide)) (by rw [h2 117 (by decide) (by decide) (by decide)]) hn (h4 9 (by decide)) (fun k b1 b2 => h4 k (by omega)) (h4 127 (by decide)) (by rw [h4 117 (by decide)])
  · exact IvM_fr i3 (fun k hk => all k (by omega) (by omega) (by omega) (by omega) (by omega) (by omega) (by omega) (by omega))
  · exact IvT_fr i4 (all 1 (by decide) (by decide) (by decide) (by decide) (by decide) (by decide) (by decide) (by decide)) (all 2 (by decide) (by decide) (by decide) (by decide) (by decide) (by decide) (by decide) (by decide)) (all 121 (by decide) (by decide) (by decide) (by decide) (by decide) (by decide) (by decide) (by decide)) (by rw [h4 117 (by decide), g3 3 (by decide), h2 117 (by decide) (by decide) (by decide), f1 117 (by decide) (by omega) (by omega) (by omega)])
  · exact IvS_fr i5 (fun k hk => all k (by omega) (by omega) (by omega) (by omega) (by omega) (by omega) (by omega) (by omega)) (by rw [h42, g2, h22, f2])
