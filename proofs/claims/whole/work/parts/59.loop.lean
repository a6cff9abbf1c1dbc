/-! ===== loops; count and as ===== -/
theorem lp_0 {S : Type} {body : S → Option (Nat × S)} {N : Nat} {s s' : S} (h : body s = some (0, s')) : lp body (N + 1) s = lp body N s' := by
  show (body s).bind _ = _
  rw [h]
  rfl
theorem lp_1 {S : Type} {body : S → Option (Nat × S)} {N e : Nat} {s s' : S} (he : e ≠ 0) (h : body s = some (e, s')) : lp body (N + 1) s = some (e, s') := by
  show (body s).bind _ = _
  rw [h]
  show (if e = 0 then _ else _) = _
  rw [if_neg he]
theorem lp_run {S : Type} {body : S → Option (Nat × S)} (st : Nat → S) {m e : Nat} {s' : S} (h0 : ∀ k, k < m → body (st k) = some (0, st (k + 1))) (h1 : body (st m) = some (e, s')) (he : e ≠ 0) : ∀ (N k : Nat), k ≤ m → m - k < N → lp body N (st k) = some (e, s')
  | 0, k, _, h => by omega
  | N + 1, k, hk, h => by
    by_cases hkm : k = m
    · subst hkm; exact lp_1 he h1
    · rw [lp_0 (h0 k (by omega))]
      exact lp_run st h0 h1 he N (k + 1) (by omega) (by omega)
theorem lp_end {S : Type} {body : S → Option (Nat × S)} (st : Nat → S) {m e : Nat} {s' : S} (hm : m < 4990) (h0 : ∀ k, k < m → body (st k) = some (0, st (k + 1))) (h1 : body (st m) = some (e, s')) (he : e ≠ 0) : lp body fuel (st 0) = some (e, s') :=
  lp_run st h0 h1 he fuel 0 (Nat.zero_le _) (by rw [fuel_eq]; omega)
theorem lp_inv0 {S : Type} {body : S → Option (Nat × S)} (I : Nat → S → Prop) (Q : Nat → S → Prop) (m : Nat) (h : ∀ k s, k ≤ m → I k s → (k < m ∧ ∃ s', body s = some (0, s') ∧ I (k + 1) s') ∨ (∃ e s', e ≠ 0 ∧ body s = some (e, s') ∧ Q e s')) : ∀ (N k : Nat) (s : S), k ≤ m → m - k < N → I k s → ∃ e s', lp body N s = some (e, s') ∧ Q e s'
  | 0, k, s, _, hN, _ => by omega
  | N + 1, k, s, hk, hN, hs => by
    rcases h k s hk hs with ⟨hlt, s', e1, hI'⟩ | ⟨e, s', he, e1, hQ⟩
    · rw [lp_0 e1]
      exact lp_inv0 I Q m h N (k + 1) s' (by omega) (by omega) hI'
    · exact ⟨e, s', lp_1 he e1, hQ⟩
theorem lp_inv {S : Type} {body : S → Option (Nat × S)} (I : Nat → S → Prop) (Q : Nat → S → Prop) (m : Nat) (hm : m < 4990) (h : ∀ k s, k ≤ m → I k s → (k < m ∧ ∃ s', body s = some (0, s') ∧ I (k + 1) s') ∨ (∃ e s', e ≠ 0 ∧ body s = some (e, s') ∧ Q e s')) {s : S} (hs : I 0 s) : ∃ e s', lp body fuel s = some (e, s') ∧ Q e s' :=
  lp_inv0 I Q m h fuel 0 s (Nat.zero_le _) (by rw [fuel_eq]; omega) hs
def acc {α : Type} (f : Nat → α → α) (a : α) : Nat → α
  | 0 => a
  | k + 1 => f k (acc f a k)
theorem acc_s {α : Type} (f : Nat → α → α) (a : α) (k : Nat) : acc f a (k + 1) = f k (acc f a k) := rfl
theorem acc_ext {α : Type} {f g : Nat → α → α} {a : α} {n : Nat} (h : ∀ k x, k < n → f k x = g k x) : ∀ k, k ≤ n → acc f a k = acc g a k
  | 0, _ => rfl
  | k + 1, hk => by rw [acc_s, acc_s, acc_ext h k (by omega), h k _ (by omega)]
theorem b183 : inb 1 83 = true := by decide
/-! sets and sums of a row -/
def bitI (k : Nat) : Int32 := (1 : Int32) <<< (nI k &&& 31)
def fOpen (c : Nat → Int32) (k : Nat) (x : Int32) : Int32 := if c (75 + k) = -4 then x ||| bitI k else x
def fWt (c : Nat → Int32) (k : Nat) (x : Int32) : Int32 := if c (75 + k) = -4 then x + c (67 + k) else x
def fWon (c : Nat → Int32) (k : Nat) (x : Int32) : Int32 := if c (45 + k) = -4 then x else x ||| bitI k
def fCar (c : Nat → Int32) (k : Nat) (x : Int32) : Int32 := x + c (39 + k)
theorem openS_c {u : Um} {a P W dd : Nat} {c : Nat → Int32} (hR : RC u a c P W) (hV : VR c P W dd) : fX0_openSet a u = some (acc (fOpen c) 0 W) := by
  have hW := hV.2.2.2.2.1
  unfold fX0_openSet
  have h := lp_end (body := fun s => fX0_openSet_b4 a s.1 s.2 u) (fun k => (acc (fOpen c) 0 k, nI k)) (m := W) (e := 1) (s' := (acc (fOpen c) 0 W, nI W)) (by omega) (fun k hk => ?_) ?_ (by decide)
  · rw [show ((0 : Int32), (0 : Int32)) = (acc (fOpen c) 0 0, nI 0) from rfl, h]; rfl
  · show fX0_openSet_b4 a (acc (fOpen c) 0 k) (nI k) u = _
    unfold fX0_openSet_b4 fX0_openSet_j26
    rw [hR.2.1, hV.2.1, if_neg (nI_ge hk (by omega)), open_c hR hV hk, bd1s, acc_s]
    unfold fOpen
    simp only [nm, nI_1]
    by_cases h4 : c (75 + k) = -4
    · rw [if_pos h4, if_neg i10, if_pos h4]; rfl
    · rw [if_neg h4, if_pos rfl, if_neg h4]
  · show fX0_openSet_b4 a (acc (fOpen c) 0 W) (nI W) u = _
    unfold fX0_openSet_b4
    rw [hR.2.1, hV.2.1, if_pos (nI_le (Nat.le_refl _) (by omega))]
theorem openW_c {u : Um} {a P W dd : Nat} {c : Nat → Int32} (hR : RC u a c P W) (hV : VR c P W dd) : fX0_openWeight a u = some (acc (fWt c) 0 W) := by
  have hW := hV.2.2.2.2.1
  unfold fX0_openWeight
  have h := lp_end (body := fun s => fX0_openWeight_b4 a s.1 s.2 u) (fun k => (acc (fWt c) 0 k, nI k)) (m := W) (e := 1) (s' := (acc (fWt c) 0 W, nI W)) (by omega) (fun k hk => ?_) ?_ (by decide)
  · rw [show ((0 : Int32), (0 : Int32)) = (acc (fWt c) 0 0, nI 0) from rfl, h]; rfl
  · show fX0_openWeight_b4 a (acc (fWt c) 0 k) (nI k) u = _
    unfold fX0_openWeight_b4 fX0_openWeight_j29
    rw [hR.2.1, hV.2.1, if_neg (nI_ge hk (by omega)), open_c hR hV hk, bd1s, acc_s, pR2 hR hW hk, bd1s]
    unfold fWt
    simp only [nm, nI_1]
    by_cases h4 : c (75 + k) = -4
    · rw [if_pos h4, if_neg i10, if_pos h4]
    · rw [if_neg h4, if_pos rfl, if_neg h4]
  · show fX0_openWeight_b4 a (acc (fWt c) 0 W) (nI W) u = _
    unfold fX0_openWeight_b4
    rw [hR.2.1, hV.2.1, if_pos (nI_le (Nat.le_refl _) (by omega))]
theorem wonS_c {u : Um} {a P W dd : Nat} {c : Nat → Int32} (hR : RC u a c P W) (hV : VR c P W dd) : fX0_wonSet a u = some (acc (fWon c) 0 P) := by
  have hP := hV.2.2.2.1
  unfold fX0_wonSet
  have h := lp_end (body := fun s => fX0_wonSet_b4 a s.1 s.2 u) (fun k => (acc (fWon c) 0 k, nI k)) (m := P) (e := 1) (s' := (acc (fWon c) 0 P, nI P)) (by omega) (fun k hk => ?_) ?_ (by decide)
  · rw [show ((0 : Int32), (0 : Int32)) = (acc (fWon c) 0 0, nI 0) from rfl, h]; rfl
  · show fX0_wonSet_b4 a (acc (fWon c) 0 k) (nI k) u = _
    unfold fX0_wonSet_b4 fX0_wonSet_j30
    rw [hR.1, hV.1, if_neg (nI_ge hk (by omega)), tR7 hR hP hk, bd1s, acc_s]
    unfold fWon
    simp only [nm, nI_1]
    by_cases h4 : c (45 + k) = -4
    · rw [if_pos h4, if_pos h4]
    · rw [if_neg h4, if_neg h4]; rfl
  · show fX0_wonSet_b4 a (acc (fWon c) 0 P) (nI P) u = _
    unfold fX0_wonSet_b4
    rw [hR.1, hV.1, if_pos (nI_le (Nat.le_refl _) (by omega))]
theorem carS_c {u : Um} {a P W dd : Nat} {c : Nat → Int32} (hR : RC u a c P W) (hV : VR c P W dd) : fX0_carriedByAll a u = some (acc (fCar c) 0 P) := by
  have hP := hV.2.2.2.1
  unfold fX0_carriedByAll
  have h := lp_end (body := fun s => fX0_carriedByAll_b4 a s.1 s.2 u) (fun k => (acc (fCar c) 0 k, nI k)) (m := P) (e := 1) (s' := (acc (fCar c) 0 P, nI P)) (by omega) (fun k hk => ?_) ?_ (by decide)
  · rw [show ((0 : Int32), (0 : Int32)) = (acc (fCar c) 0 0, nI 0) from rfl, h]; rfl
  · show fX0_carriedByAll_b4 a (acc (fCar c) 0 k) (nI k) u = _
    unfold fX0_carriedByAll_b4
    rw [hR.1, hV.1, if_neg (nI_ge hk (by omega)), tR6 hR hP hk, bd1s, acc_s]
    simp only [nm, nI_1]
    rfl
  · show fX0_carriedByAll_b4 a (acc (fCar c) 0 P) (nI P) u = _
    unfold fX0_carriedByAll_b4
    rw [hR.1, hV.1, if_pos (nI_le (Nat.le_refl _) (by omega))]
theorem wonS_m {u : Um} {s P W dd : Nat} (hs : ln s = 83) (hV : VR (u.1 s) P W dd) : fX8_wonOnes s u = some (acc (fWon (u.1 s)) 0 P) := by
  have hP := hV.2.2.2.1
  have b1 : inb 1 (ln s) = true := by rw [hs]; exact b183
  unfold fX8_wonOnes
  have h := lp_end (body := fun q => fX8_wonOnes_b4 s q.1 q.2 u) (fun k => (acc (fWon (u.1 s)) 0 k, nI k)) (m := P) (e := 1) (s' := (acc (fWon (u.1 s)) 0 P, nI P)) (by omega) (fun k hk => ?_) ?_ (by decide)
  · rw [show ((0 : Int32), (0 : Int32)) = (acc (fWon (u.1 s)) 0 0, nI 0) from rfl, h]; rfl
  · show fX8_wonOnes_b4 s (acc (fWon (u.1 s)) 0 k) (nI k) u = _
    unfold fX8_wonOnes_b4 fX8_wonOnes_j30
    rw [if_pos b1, cl1, hV.1, if_neg (nI_ge hk (by omega)), if_pos (ib45 hs (by omega)), ix45 (by omega), acc_s]
    unfold fWon
    simp only [nm, nI_1]
    by_cases h4 : u.1 s (45 + k) = -4
    · rw [if_pos h4, if_pos h4, Int32.or_zero]
    · rw [if_neg h4, if_neg h4]; rfl
  · show fX8_wonOnes_b4 s (acc (fWon (u.1 s)) 0 P) (nI P) u = _
    unfold fX8_wonOnes_b4
    rw [if_pos b1, cl1, hV.1, if_pos (nI_le (Nat.le_refl _) (by omega))]
theorem s_count (a : Int32) : S11 (fX7_count a) (fX8_count a) := by
  intro u hI
  obtain ⟨P, W, dd, hV, hR, -, -⟩ := IvC_get hI.1
  have hP := hV.2.2.2.1
  have hW := hV.2.2.2.2.1
  unfold fX7_count fX8_count
  by_cases q0 : a = 0
  · rw [if_pos q0, if_pos q0, if_pos b183, cl1]
    exact ⟨u.1 122 1, by rw [← hR.1]; rfl, rfl⟩
  rw [if_neg q0, if_neg q0]
  by_cases q1 : a = 1
  · rw [if_pos q1, if_pos q1, if_pos b283, cl2]
    exact ⟨u.1 122 2, by rw [← hR.2.1]; rfl, rfl⟩
  rw [if_neg q1, if_neg q1]
  by_cases q2 : a = 2
  · rw [if_pos q2, if_pos q2, openS_c hR hV, bd1s]
    refine ⟨_, rfl, ?_⟩
    have h := lp_end (body := fun s => fX8_count_b68 a s.1 s.2 u) (fun k => (acc (fOpen (u.1 122)) 0 k, nI k)) (m := W) (e := 1) (s' := (acc (fOpen (u.1 122)) 0 W, nI W)) (by omega) (fun k hk => ?_) ?_ (by decide)
    · rw [show ((0 : Int32), (0 : Int32)) = (acc (fOpen (u.1 122)) 0 0, nI 0) from rfl, h]; rfl
    · show fX8_count_b68 a (acc (fOpen (u.1 122)) 0 k) (nI k) u = _
      unfold fX8_count_b68 fX8_count_j100
      rw [if_pos b283, cl2, hV.2.1, if_neg (nI_ge hk (by omega)), if_pos (ic75 (by omega)), ix75 (by omega), acc_s]
      unfold fOpen
      simp only [nm, nI_1]
      by_cases h4 : u.1 122 (75 + k) = -4
      · rw [if_pos h4, if_pos h4]; rfl
      · rw [if_neg h4, if_neg h4, Int32.or_zero]
    · show fX8_count_b68 a (acc (fOpen (u.1 122)) 0 W) (nI W) u = _
      unfold fX8_count_b68
      rw [if_pos b283, cl2, hV.2.1, if_pos (nI_le (Nat.le_refl _) (by omega))]
  rw [if_neg q2, if_neg q2]
  by_cases q3 : a = 3
  · rw [if_pos q3, if_pos q3, if_pos b083, cl0]
    exact ⟨u.1 122 0, by rw [← hR.2.2.1]; rfl, rfl⟩
  rw [if_neg q3, if_neg q3]
  by_cases q4 : a = 4
  · rw [if_pos q4, if_pos q4, carS_c hR hV, bd1s]
    refine ⟨_, rfl, ?_⟩
    have h := lp_end (body := fun s => fX8_count_b119 a s.1 s.2 u) (fun k => (acc (fCar (u.1 122)) 0 k, nI k)) (m := P) (e := 1) (s' := (acc (fCar (u.1 122)) 0 P, nI P)) (by omega) (fun k hk => ?_) ?_ (by decide)
    · rw [show ((0 : Int32), (0 : Int32)) = (acc (fCar (u.1 122)) 0 0, nI 0) from rfl, h]; rfl
    · show fX8_count_b119 a (acc (fCar (u.1 122)) 0 k) (nI k) u = _
      unfold fX8_count_b119
      rw [if_pos b183, cl1, hV.1, if_neg (nI_ge hk (by omega)), if_pos (ic39 (by omega)), ix39 (by omega), acc_s]
      simp only [nm, nI_1]
      rfl
    · show fX8_count_b119 a (acc (fCar (u.1 122)) 0 P) (nI P) u = _
      unfold fX8_count_b119
      rw [if_pos b183, cl1, hV.1, if_pos (nI_le (Nat.le_refl _) (by omega))]
  rw [if_neg q4, if_neg q4]
  by_cases q5 : a = 5
  · rw [if_pos q5, if_pos q5, wonS_c hR hV, wonS_m ln122 hV]
    exact ⟨_, rfl, rfl⟩
  rw [if_neg q5, if_neg q5]
  by_cases q6 : a = 6
  · rw [if_pos q6, if_pos q6, openW_c hR hV, bd1s]
    refine ⟨_, rfl, ?_⟩
    have h := lp_end (body := fun s => fX8_count_b159 a s.1 s.2 u) (fun k => (acc (fWt (u.1 122)) 0 k, nI k)) (m := W) (e := 1) (s' := (acc (fWt (u.1 122)) 0 W, nI W)) (by omega) (fun k hk => ?_) ?_ (by decide)
    · rw [show ((0 : Int32), (0 : Int32)) = (acc (fWt (u.1 122)) 0 0, nI 0) from rfl, h]; rfl
    · show fX8_count_b159 a (acc (fWt (u.1 122)) 0 k) (nI k) u = _
      unfold fX8_count_b159 fX8_count_j197
      rw [if_pos b283, cl2, hV.2.1, if_neg (nI_ge hk (by omega)), if_pos (ic75 (by omega)), ix75 (by omega), if_pos (ic67 (by omega)), ix67 (by omega), acc_s]
      unfold fWt
      simp only [nm, nI_1]
      by_cases h4 : u.1 122 (75 + k) = -4
      · rw [if_pos h4, if_pos h4]
      · rw [if_neg h4, if_neg h4, Int32.add_zero]
    · show fX8_count_b159 a (acc (fWt (u.1 122)) 0 W) (nI W) u = _
      unfold fX8_count_b159
      rw [if_pos b283, cl2, hV.2.1, if_pos (nI_le (Nat.le_refl _) (by omega))]
  rw [if_neg q6, if_neg q6]
  by_cases q7 : a = 7
  · rw [if_pos q7, if_pos q7]
    obtain ⟨n, nx, -, -, a1, a2, -⟩ := hI.2.1
    exact ⟨nI n, by rw [← a1]; rfl, by rw [a2]⟩
  rw [if_neg q7, if_neg q7]
  by_cases q8 : a = 8
  · rw [if_pos q8, if_pos q8]
    obtain ⟨n, -, a1, a2, -⟩ := hI.2.2.2.1
    exact ⟨nI n, by rw [← a1]; rfl, by rw [a2]⟩
  rw [if_neg q8, if_neg q8]
  exact ⟨-1, rfl, rfl⟩
def underB (k o : Nat) : Bool := o == 0 || o == k || (o == 1 && k != 4) || (o == 2 && k == 5)
theorem under_c (u : Um) {k o : Nat} (h1 : 1 ≤ k) (h5 : k ≤ 5) (ho : o < 6) : fX7_isUnder (nI k) (nI o) u = some (if underB k o then 1 else 0) := by
  unfold fX7_isUnder
  rw [fuel_eq]
  rcases (show k = 1 ∨ k = 2 ∨ k = 3 ∨ k = 4 ∨ k = 5 by omega) with rfl | rfl | rfl | rfl | rfl <;>
  rcases (show o = 0 ∨ o = 1 ∨ o = 2 ∨ o = 3 ∨ o = 4 ∨ o = 5 by omega) with rfl | rfl | rfl | rfl | rfl | rfl <;> rfl
theorem under_m (u : Um) (x : Int32) {k o : Nat} (h1 : 1 ≤ k) (h5 : k ≤ 5) (ho : o < 6) : (if nI o = 1 then (if nI k = 4 then fX8_as_j42 x (nI o) (nI k) u else fX8_as_j43 x (nI o) (nI k) 1 u) else fX8_as_j42 x (nI o) (nI k) u) = some (if underB k o then x else -12) := by
  rcases (show k = 1 ∨ k = 2 ∨ k = 3 ∨ k = 4 ∨ k = 5 by omega) with rfl | rfl | rfl | rfl | rfl <;>
  rcases (show o = 0 ∨ o = 1 ∨ o = 2 ∨ o = 3 ∨ o = 4 ∨ o = 5 by omega) with rfl | rfl | rfl | rfl | rfl | rfl <;> rfl
theorem s_as (a b : Int32) : S11 (fX7_as a b) (fX8_as a b) := by
  intro u hI
  obtain ⟨P, W, dd, hV, hR, -, -⟩ := IvC_get hI.1
  have hP := hV.2.2.2.1
  unfold fX7_as fX8_as
  rcases ix_of a (n := P) (by omega) with ha | ⟨p, hp, rfl⟩
  · rw [hasP_n (hR.1.trans hV.1) ha, one_n hV.1 hP ha]
    exact ⟨-1, rfl, rfl⟩
  · rw [hasP_y (hR.1.trans hV.1) hP hp, one_y hV.1 hP hp, bd1s, bd1s, if_neg i10, if_neg i10]
    rcases ix_of b (n := 6) (by decide) with hb | ⟨o, ho, rfl⟩
    · rw [in_n (hi := 5) (hb.imp id (fun h => (last_lt (P := 6) (by decide)).mpr h)), bd1s, if_pos rfl]
      refine ⟨-1, ?_, rfl⟩
      by_cases h0 : b < 0
      · rw [if_pos h0]
      · rw [if_neg h0, if_neg (show ¬ b < 6 from fun h => Int32.not_le.mpr h (hb.resolve_left h0))]
    · obtain ⟨k, k1, k5, ek⟩ := (hV.2.2.2.2.2.2.1 p hp).1
      rw [in_y (hi := 5) (nI_pos (by omega)) (by rw [ltl5 (by omega)]; omega), bd1s, if_neg i10, if_neg (nI_pos (n := o) (by omega)), if_pos ((ltr6 (by omega)).mpr ho), tR0 hR hP hp, bd1s, ek, under_c u k1 k5 ho, bd1s, if_pos (ic3 (by omega)), ix3 (by omega), ek]
      refine ⟨if underB k o then nI p else -12, ?_, under_m u (nI p) k1 k5 ho⟩
      cases underB k o <;> rfl
