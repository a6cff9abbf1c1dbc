def SETL : List (Nat × Nat) := [(1, 0), (0, 0), (3, 0), (3, 1), (0, 1), (6, 0), (6, 1), (0, 2), (9, 0), (11, 0), (11, 1), (10, 0), (14, 0), (14, 1), (10, 1), (17, 0), (17, 1), (10, 2), (20, 0), (20, 1), (10, 3), (23, 0), (23, 1), (10, 4), (26, 0), (26, 1), (10, 5), (29, 0), (29, 1), (10, 6), (32, 0), (32, 1), (10, 7), (35, 0), (35, 1), (10, 8), (38, 0), (38, 1), (10, 9), (41, 0), (41, 1), (10, 10), (44, 0), (44, 1), (10, 11), (47, 0), (47, 1), (10, 12), (50, 0), (50, 1), (10, 13), (53, 0), (53, 1), (10, 14), (56, 0), (56, 1), (10, 15), (59, 0), (59, 1), (10, 16), (62, 0), (62, 1), (10, 17), (65, 0), (65, 1), (10, 18), (68, 0), (68, 1), (10, 19), (71, 0), (71, 1), (10, 20), (74, 0), (74, 1), (10, 21), (77, 0), (77, 1), (10, 22), (80, 0), (80, 1), (10, 23), (0, 3), (84, 0), (84, 1), (83, 0), (87, 0), (87, 1), (83, 1), (0, 4), (91, 0), (90, 0), (93, 0), (90, 1), (95, 0), (90, 2), (97, 0), (90, 3), (0, 5), (99, 0), (99, 1), (99, 2), (0, 6), (105, 0), (105, 1), (104, 0), (108, 0), (108, 1), (104, 1), (111, 0), (111, 1), (104, 2), (103, 0), (103, 1), (0, 7), (115, 0), (0, 8), (117, 0), (117, 1), (117, 2), (117, 4), (117, 6), (117, 7), (117, 8), (117, 9), (117, 10), (117, 11), (117, 13), (117, 14), (117, 15), (117, 16), (117, 18)]
def Pt (t : Nat) : Pm := fun k j => if (k, j) ∈ SETL.take t then Pst k j else none
theorem Pt_set {t k j v : Nat} (h : SETL[t]? = some (k, j)) (hv : Pst k j = some v) : sP (Pt t) k j (some v) = Pt (t + 1) := by
  have ht : SETL.take (t + 1) = SETL.take t ++ [(k, j)] := by rw [List.take_add_one, h]; rfl
  funext k' j'
  show (if k' = k then va_up (Pt t k) j (some v) else Pt t k') j' = if (k', j') ∈ SETL.take (t + 1) then Pst k' j' else none
  rw [ht]
  by_cases hk : k' = k
  · subst hk
    rw [if_pos rfl]
    by_cases hj : j' = j
    · subst hj
      simp [va_up, hv]
    · simp [va_up, hj, Pt]
  · rw [if_neg hk]
    simp [Pt, hk]
theorem Pt_fresh {t nx : Nat} (h : (SETL.take t).all (fun q => decide (q.1 < nx)) = true) : ∀ i, Pt t nx i = none := by
  intro i
  unfold Pt
  rw [if_neg]
  intro hm
  have := List.all_eq_true.mp h _ hm
  simp at this
def ZB (u : Um) (n : Nat) : Prop := ∀ k, n ≤ k → (∀ i, u.1 k i = 0) ∧ ∀ i, u.2 k i = 0
theorem ZB_sI {u : Um} {n a i : Nat} {x : Int32} (h : ZB u n) (ha : a < n) : ZB (sI u a i x) n := by
  intro k hk
  have hne : k ≠ a := by omega
  refine ⟨fun j => ?_, fun j => (h k hk).2 j⟩
  simp [sI, sIr, hne, (h k hk).1 j]
section GD
variable {w : Wc} {X : MX} {cs sl nx t : Nat} {o : String} {cc : ByteArray} {d pc : Nat} {lv lv' : List (Option Value)} {st : List Value} {u : Um}
theorem G_putRt (hX : OKc w X o cc d) {a c i idx x : Nat} (hk : kd a = c) (hc : c < 9) (hx : a < nx) (hi : (fty c)[i]? = some true) (hl : FL o idx c i) (hw : FR o c i) (hin : X.2.2.2.2.2.2.2.2.1.name = "<init>") (hs : SETL[t]? = some (a, i)) (hv : Pst a i = some x) (hd : decode cc pc = .ok (.putfield idx, 3)) (k : G w X (cs, sl, Pt (t + 1), nx, true) (pc + 3) lv st u) : G w X (cs, sl, Pt t, nx, true) pc lv (.ref x :: .ref a :: st) u :=
  G_putR hX hk hc hx hi hl hw hin hd (by rw [Pt_set hs hv]; exact k)
theorem G_aastCt (hX : OKc w X o cc d) {a n x j : Nat} {i : Int32} (hk : kd a = 12) (hn : ln a = n) (hx : a < nx) (hkt : kd x = 0) (hxt : x < nx) (hb : inb i n = true) (hj : i.toNatClampNeg = j) (hs : SETL[t]? = some (a, j)) (hv : Pst a j = some x) (hd : decode cc pc = .ok (.aastore, 1)) (k : G w X (cs, sl, Pt (t + 1), nx, true) (pc + 1) lv st u) : G w X (cs, sl, Pt t, nx, true) pc lv (.ref x :: .int i :: .ref a :: st) u :=
  G_aastC hX hk hn hx hkt hxt hb hd (by rw [hj, Pt_set hs hv]; exact k)
theorem G_aastSt (hX : OKc w X o cc d) {a n x j : Nat} {i : Int32} (hk : kd a = 13) (hn : ln a = n) (hx : a < nx) (hkt : kd x = 5) (hxt : x < nx) (hb : inb i n = true) (hj : i.toNatClampNeg = j) (hs : SETL[t]? = some (a, j)) (hv : Pst a j = some x) (hd : decode cc pc = .ok (.aastore, 1)) (k : G w X (cs, sl, Pt (t + 1), nx, true) (pc + 1) lv st u) : G w X (cs, sl, Pt t, nx, true) pc lv (.ref x :: .int i :: .ref a :: st) u :=
  G_aastS hX hk hn hx hkt hxt hb hd (by rw [hj, Pt_set hs hv]; exact k)
end GD
theorem kA0 : kd 0 = 7 := by decide +kernel
theorem kA1 : kd 1 = 6 := by decide +kernel
theorem kA2 : kd 2 = 9 := by decide +kernel
theorem lA2 : ln 2 = 130 := by decide +kernel
theorem kA3 : kd 3 = 0 := by decide +kernel
theorem kA6 : kd 6 = 0 := by decide +kernel
theorem kA9 : kd 9 = 3 := by decide +kernel
theorem kA10 : kd 10 = 12 := by decide +kernel
theorem lA10 : ln 10 = 24 := by decide +kernel
theorem kA11 : kd 11 = 0 := by decide +kernel
theorem kA14 : kd 14 = 0 := by decide +kernel
theorem kA17 : kd 17 = 0 := by decide +kernel
theorem kA20 : kd 20 = 0 := by decide +kernel
theorem kA23 : kd 23 = 0 := by decide +kernel
theorem kA26 : kd 26 = 0 := by decide +kernel
theorem kA29 : kd 29 = 0 := by decide +kernel
theorem kA32 : kd 32 = 0 := by decide +kernel
theorem kA35 : kd 35 = 0 := by decide +kernel
theorem kA38 : kd 38 = 0 := by decide +kernel
theorem kA41 : kd 41 = 0 := by decide +kernel
theorem kA44 : kd 44 = 0 := by decide +kernel
theorem kA47 : kd 47 = 0 := by decide +kernel
theorem kA50 : kd 50 = 0 := by decide +kernel
theorem kA53 : kd 53 = 0 := by decide +kernel
theorem kA56 : kd 56 = 0 := by decide +kernel
theorem kA59 : kd 59 = 0 := by decide +kernel
theorem kA62 : kd 62 = 0 := by decide +kernel
theorem kA65 : kd 65 = 0 := by decide +kernel
theorem kA68 : kd 68 = 0 := by decide +kernel
theorem kA71 : kd 71 = 0 := by decide +kernel
theorem kA74 : kd 74 = 0 := by decide +kernel
theorem kA77 : kd 77 = 0 := by decide +kernel
theorem kA80 : kd 80 = 0 := by decide +kernel
theorem kA83 : kd 83 = 12 := by decide +kernel
theorem lA83 : ln 83 = 2 := by decide +kernel
theorem kA84 : kd 84 = 0 := by decide +kernel
theorem kA87 : kd 87 = 0 := by decide +kernel
theorem kA90 : kd 90 = 13 := by decide +kernel
theorem lA90 : ln 90 = 4 := by decide +kernel
theorem kA91 : kd 91 = 5 := by decide +kernel
theorem kA93 : kd 93 = 5 := by decide +kernel
theorem kA95 : kd 95 = 5 := by decide +kernel
theorem kA97 : kd 97 = 5 := by decide +kernel
theorem kA99 : kd 99 = 2 := by decide +kernel
theorem kA100 : kd 100 = 9 := by decide +kernel
theorem lA100 : ln 100 = 48 := by decide +kernel
theorem kA101 : kd 101 = 9 := by decide +kernel
theorem lA101 : ln 101 = 576 := by decide +kernel
theorem kA102 : kd 102 = 9 := by decide +kernel
theorem lA102 : ln 102 = 8 := by decide +kernel
theorem kA103 : kd 103 = 4 := by decide +kernel
theorem kA104 : kd 104 = 12 := by decide +kernel
theorem lA104 : ln 104 = 3 := by decide +kernel
theorem kA105 : kd 105 = 0 := by decide +kernel
theorem kA108 : kd 108 = 0 := by decide +kernel
theorem kA111 : kd 111 = 0 := by decide +kernel
theorem kA114 : kd 114 = 9 := by decide +kernel
theorem lA114 : ln 114 = 12 := by decide +kernel
theorem kA115 : kd 115 = 1 := by decide +kernel
theorem kA116 : kd 116 = 9 := by decide +kernel
theorem lA116 : ln 116 = 100 := by decide +kernel
theorem kA117 : kd 117 = 8 := by decide +kernel
theorem kA118 : kd 118 = 9 := by decide +kernel
theorem lA118 : ln 118 = 4 := by decide +kernel
theorem kA119 : kd 119 = 9 := by decide +kernel
theorem lA119 : ln 119 = 4 := by decide +kernel
theorem kA120 : kd 120 = 10 := by decide +kernel
theorem lA120 : ln 120 = 96 := by decide +kernel
theorem kA121 : kd 121 = 9 := by decide +kernel
theorem lA121 : ln 121 = 130 := by decide +kernel
theorem kA122 : kd 122 = 9 := by decide +kernel
theorem lA122 : ln 122 = 83 := by decide +kernel
theorem kA123 : kd 123 = 9 := by decide +kernel
theorem lA123 : ln 123 = 83 := by decide +kernel
theorem kA124 : kd 124 = 9 := by decide +kernel
theorem lA124 : ln 124 = 83 := by decide +kernel
theorem kA125 : kd 125 = 9 := by decide +kernel
theorem lA125 : ln 125 = 166 := by decide +kernel
theorem kA126 : kd 126 = 11 := by decide +kernel
theorem lA126 : ln 126 = 2 := by decide +kernel
theorem kA127 : kd 127 = 9 := by decide +kernel
theorem lA127 : ln 127 = 1992 := by decide +kernel
theorem kA128 : kd 128 = 9 := by decide +kernel
theorem lA128 : ln 128 = 576 := by decide +kernel
theorem kA129 : kd 129 = 9 := by decide +kernel
theorem lA129 : ln 129 = 10 := by decide +kernel
theorem kA130 : kd 130 = 9 := by decide +kernel
theorem lA130 : ln 130 = 10 := by decide +kernel
theorem kA131 : kd 131 = 9 := by decide +kernel
theorem lA131 : ln 131 = 3 := by decide +kernel
theorem kA132 : kd 132 = 9 := by decide +kernel
theorem lA132 : ln 132 = 10 := by decide +kernel
theorem wAI : Cond.arrayClass .int ∈ tw := tw_in (List.mem_of_getElem? (i := 101) (by decide +kernel)) rfl
theorem wAJ : Cond.arrayClass .long ∈ tw := tw_in (List.mem_of_getElem? (i := 160) (by decide +kernel)) rfl
theorem wAZ : Cond.arrayClass .boolean ∈ tw := tw_in (List.mem_of_getElem? (i := 881) (by decide +kernel)) rfl
theorem coX7_1 : CO RX7 1 := ⟨tw_in (List.mem_of_getElem? (i := 82) (by decide +kernel)) rfl, tw_in (List.mem_of_getElem? (i := 83) (by decide +kernel)) rfl, tw_in (List.mem_of_getElem? (i := 84) (by decide +kernel)) rfl⟩
theorem coX0_3 : CO RX0 3 := ⟨tw_in (List.mem_of_getElem? (i := 107) (by decide +kernel)) rfl, tw_in (List.mem_of_getElem? (i := 83) (by decide +kernel)) rfl, tw_in (List.mem_of_getElem? (i := 84) (by decide +kernel)) rfl⟩
theorem coX1_3 : CO RX1 3 := ⟨tw_in (List.mem_of_getElem? (i := 200) (by decide +kernel)) rfl, tw_in (List.mem_of_getElem? (i := 83) (by decide +kernel)) rfl, tw_in (List.mem_of_getElem? (i := 84) (by decide +kernel)) rfl⟩
theorem coX2_3 : CO RX2 3 := ⟨tw_in (List.mem_of_getElem? (i := 166) (by decide +kernel)) rfl, tw_in (List.mem_of_getElem? (i := 83) (by decide +kernel)) rfl, tw_in (List.mem_of_getElem? (i := 84) (by decide +kernel)) rfl⟩
theorem coX3_3 : CO RX3 3 := ⟨tw_in (List.mem_of_getElem? (i := 129) (by decide +kernel)) rfl, tw_in (List.mem_of_getElem? (i := 83) (by decide +kernel)) rfl, tw_in (List.mem_of_getElem? (i := 84) (by decide +kernel)) rfl⟩
theorem coX4_3 : CO RX4 3 := ⟨tw_in (List.mem_of_getElem? (i := 185) (by decide +kernel)) rfl, tw_in (List.mem_of_getElem? (i := 83) (by decide +kernel)) rfl, tw_in (List.mem_of_getElem? (i := 84) (by decide +kernel)) rfl⟩
theorem coX5_3 : CO RX5 3 := ⟨tw_in (List.mem_of_getElem? (i := 149) (by decide +kernel)) rfl, tw_in (List.mem_of_getElem? (i := 83) (by decide +kernel)) rfl, tw_in (List.mem_of_getElem? (i := 84) (by decide +kernel)) rfl⟩
theorem coX6_3 : CO RX6 3 := ⟨tw_in (List.mem_of_getElem? (i := 90) (by decide +kernel)) rfl, tw_in (List.mem_of_getElem? (i := 83) (by decide +kernel)) rfl, tw_in (List.mem_of_getElem? (i := 84) (by decide +kernel)) rfl⟩
theorem coX8_1 : CO RX8 1 := ⟨tw_in (List.mem_of_getElem? (i := 822) (by decide +kernel)) rfl, tw_in (List.mem_of_getElem? (i := 83) (by decide +kernel)) rfl, tw_in (List.mem_of_getElem? (i := 84) (by decide +kernel)) rfl⟩
theorem frX0_0 : FR RX0 0 0 := ⟨RX0, TX0, 5, tyX0, tyX0 0, rfl, tyX0_ok, nmX0, rfl, rfl, tyX0_ok 0 (by decide), fun _ => ⟨rfl, rfl⟩⟩
theorem frX0_1 : FR RX0 0 1 := ⟨RX0, TX0, 5, tyX0, tyX0 1, rfl, tyX0_ok, nmX0, rfl, rfl, tyX0_ok 1 (by decide), fun _ => ⟨rfl, rfl⟩⟩
theorem frX1_0 : FR RX1 1 0 := ⟨RX1, TX1, 3, tyX1, tyX1 0, rfl, tyX1_ok, nmX1, rfl, rfl, tyX1_ok 0 (by decide), fun _ => ⟨rfl, rfl⟩⟩
theorem frX2_0 : FR RX2 2 0 := ⟨RX2, TX2, 4, tyX2, tyX2 0, rfl, tyX2_ok, nmX2, rfl, rfl, tyX2_ok 0 (by decide), fun _ => ⟨rfl, rfl⟩⟩
theorem frX2_1 : FR RX2 2 1 := ⟨RX2, TX2, 4, tyX2, tyX2 1, rfl, tyX2_ok, nmX2, rfl, rfl, tyX2_ok 1 (by decide), fun _ => ⟨rfl, rfl⟩⟩
theorem frX2_2 : FR RX2 2 2 := ⟨RX2, TX2, 4, tyX2, tyX2 2, rfl, tyX2_ok, nmX2, rfl, rfl, tyX2_ok 2 (by decide), fun _ => ⟨rfl, rfl⟩⟩
theorem frX3_0 : FR RX3 3 0 := ⟨RX3, TX3, 3, tyX3, tyX3 0, rfl, tyX3_ok, nmX3, rfl, rfl, tyX3_ok 0 (by decide), fun _ => ⟨rfl, rfl⟩⟩
theorem frX4_0 : FR RX4 4 0 := ⟨RX4, TX4, 2, tyX4, tyX4 0, rfl, tyX4_ok, nmX4, rfl, rfl, tyX4_ok 0 (by decide), fun _ => ⟨rfl, rfl⟩⟩
theorem frX4_1 : FR RX4 4 1 := ⟨RX4, TX4, 2, tyX4, tyX4 1, rfl, tyX4_ok, nmX4, rfl, rfl, tyX4_ok 1 (by decide), fun _ => ⟨rfl, rfl⟩⟩
theorem frX5_0 : FR RX5 5 0 := ⟨RX5, TX5, 3, tyX5, tyX5 0, rfl, tyX5_ok, nmX5, rfl, rfl, tyX5_ok 0 (by decide), fun _ => ⟨rfl, rfl⟩⟩
theorem frX6_0 : FR RX6 6 0 := ⟨RX6, TX6, 3, tyX6, tyX6 0, rfl, tyX6_ok, nmX6, rfl, rfl, tyX6_ok 0 (by decide), fun _ => ⟨rfl, rfl⟩⟩
theorem frX7_0 : FR RX7 7 0 := ⟨RX7, TX7, 9, tyX7, tyX7 0, rfl, tyX7_ok, nmX7, rfl, rfl, tyX7_ok 0 (by decide), fun _ => ⟨rfl, rfl⟩⟩
theorem frX7_1 : FR RX7 7 1 := ⟨RX7, TX7, 9, tyX7, tyX7 1, rfl, tyX7_ok, nmX7, rfl, rfl, tyX7_ok 1 (by decide), fun _ => ⟨rfl, rfl⟩⟩
theorem frX7_2 : FR RX7 7 2 := ⟨RX7, TX7, 9, tyX7, tyX7 2, rfl, tyX7_ok, nmX7, rfl, rfl, tyX7_ok 2 (by decide), fun _ => ⟨rfl, rfl⟩⟩
theorem frX7_3 : FR RX7 7 3 := ⟨RX7, TX7, 9, tyX7, tyX7 3, rfl, tyX7_ok, nmX7, rfl, rfl, tyX7_ok 3 (by decide), fun _ => ⟨rfl, rfl⟩⟩
theorem frX7_4 : FR RX7 7 4 := ⟨RX7, TX7, 9, tyX7, tyX7 4, rfl, tyX7_ok, nmX7, rfl, rfl, tyX7_ok 4 (by decide), fun _ => ⟨rfl, rfl⟩⟩
theorem frX7_5 : FR RX7 7 5 := ⟨RX7, TX7, 9, tyX7, tyX7 5, rfl, tyX7_ok, nmX7, rfl, rfl, tyX7_ok 5 (by decide), fun _ => ⟨rfl, rfl⟩⟩
theorem frX7_6 : FR RX7 7 6 := ⟨RX7, TX7, 9, tyX7, tyX7 6, rfl, tyX7_ok, nmX7, rfl, rfl, tyX7_ok 6 (by decide), fun _ => ⟨rfl, rfl⟩⟩
theorem frX7_7 : FR RX7 7 7 := ⟨RX7, TX7, 9, tyX7, tyX7 7, rfl, tyX7_ok, nmX7, rfl, rfl, tyX7_ok 7 (by decide), fun _ => ⟨rfl, rfl⟩⟩
theorem frX7_8 : FR RX7 7 8 := ⟨RX7, TX7, 9, tyX7, tyX7 8, rfl, tyX7_ok, nmX7, rfl, rfl, tyX7_ok 8 (by decide), fun _ => ⟨rfl, rfl⟩⟩
theorem frX8_0 : FR RX8 8 0 := ⟨RX8, TX8, 19, tyX8, tyX8 0, rfl, tyX8_ok, nmX8, rfl, rfl, tyX8_ok 0 (by decide), fun _ => ⟨rfl, rfl⟩⟩
theorem frX8_1 : FR RX8 8 1 := ⟨RX8, TX8, 19, tyX8, tyX8 1, rfl, tyX8_ok, nmX8, rfl, rfl, tyX8_ok 1 (by decide), fun _ => ⟨rfl, rfl⟩⟩
theorem frX8_2 : FR RX8 8 2 := ⟨RX8, TX8, 19, tyX8, tyX8 2, rfl, tyX8_ok, nmX8, rfl, rfl, tyX8_ok 2 (by decide), fun _ => ⟨rfl, rfl⟩⟩
theorem frX8_4 : FR RX8 8 4 := ⟨RX8, TX8, 19, tyX8, tyX8 4, rfl, tyX8_ok, nmX8, rfl, rfl, tyX8_ok 4 (by decide), fun _ => ⟨rfl, rfl⟩⟩
theorem frX8_6 : FR RX8 8 6 := ⟨RX8, TX8, 19, tyX8, tyX8 6, rfl, tyX8_ok, nmX8, rfl, rfl, tyX8_ok 6 (by decide), fun _ => ⟨rfl, rfl⟩⟩
theorem frX8_7 : FR RX8 8 7 := ⟨RX8, TX8, 19, tyX8, tyX8 7, rfl, tyX8_ok, nmX8, rfl, rfl, tyX8_ok 7 (by decide), fun _ => ⟨rfl, rfl⟩⟩
theorem frX8_8 : FR RX8 8 8 := ⟨RX8, TX8, 19, tyX8, tyX8 8, rfl, tyX8_ok, nmX8, rfl, rfl, tyX8_ok 8 (by decide), fun _ => ⟨rfl, rfl⟩⟩
theorem frX8_9 : FR RX8 8 9 := ⟨RX8, TX8, 19, tyX8, tyX8 9, rfl, tyX8_ok, nmX8, rfl, rfl, tyX8_ok 9 (by decide), fun _ => ⟨rfl, rfl⟩⟩
theorem frX8_10 : FR RX8 8 10 := ⟨RX8, TX8, 19, tyX8, tyX8 10, rfl, tyX8_ok, nmX8, rfl, rfl, tyX8_ok 10 (by decide), fun _ => ⟨rfl, rfl⟩⟩
theorem frX8_11 : FR RX8 8 11 := ⟨RX8, TX8, 19, tyX8, tyX8 11, rfl, tyX8_ok, nmX8, rfl, rfl, tyX8_ok 11 (by decide), fun _ => ⟨rfl, rfl⟩⟩
theorem frX8_13 : FR RX8 8 13 := ⟨RX8, TX8, 19, tyX8, tyX8 13, rfl, tyX8_ok, nmX8, rfl, rfl, tyX8_ok 13 (by decide), fun _ => ⟨rfl, rfl⟩⟩
theorem frX8_14 : FR RX8 8 14 := ⟨RX8, TX8, 19, tyX8, tyX8 14, rfl, tyX8_ok, nmX8, rfl, rfl, tyX8_ok 14 (by decide), fun _ => ⟨rfl, rfl⟩⟩
theorem frX8_15 : FR RX8 8 15 := ⟨RX8, TX8, 19, tyX8, tyX8 15, rfl, tyX8_ok, nmX8, rfl, rfl, tyX8_ok 15 (by decide), fun _ => ⟨rfl, rfl⟩⟩
theorem frX8_16 : FR RX8 8 16 := ⟨RX8, TX8, 19, tyX8, tyX8 16, rfl, tyX8_ok, nmX8, rfl, rfl, tyX8_ok 16 (by decide), fun _ => ⟨rfl, rfl⟩⟩
theorem frX8_18 : FR RX8 8 18 := ⟨RX8, TX8, 19, tyX8, tyX8 18, rfl, tyX8_ok, nmX8, rfl, rfl, tyX8_ok 18 (by decide), fun _ => ⟨rfl, rfl⟩⟩
theorem wlX7_16 : Cond.classLink RX7 16 RX0 ∈ tw := tw_in (List.mem_of_getElem? (i := 102) (by decide +kernel)) rfl
theorem wlX7_37 : Cond.classLink RX7 37 RX5 ∈ tw := tw_in (List.mem_of_getElem? (i := 143) (by decide +kernel)) rfl
theorem wlX3_9 : Cond.classLink RX3 9 RX0 ∈ tw := tw_in (List.mem_of_getElem? (i := 130) (by decide +kernel)) rfl
theorem wlX4_9 : Cond.classLink RX4 9 RX0 ∈ tw := tw_in (List.mem_of_getElem? (i := 186) (by decide +kernel)) rfl
theorem noX7_7 : NO RX7 7 6 3 := ⟨RX6, TX6, tyX6, rfl, tw_in (List.mem_of_getElem? (i := 85) (by decide +kernel)) rfl, tw_in (List.mem_of_getElem? (i := 86) (by decide +kernel)) rfl, tw_in (List.mem_of_getElem? (i := 65) (by decide +kernel)) rfl, uwX6, tyX6_ok, fun j hj => by rcases (show j = 0 ∨ j = 1 ∨ j = 2 by omega) with rfl | rfl | rfl <;> rfl⟩
theorem noX7_16 : NO RX7 16 0 5 := ⟨RX0, TX0, tyX0, rfl, tw_in (List.mem_of_getElem? (i := 102) (by decide +kernel)) rfl, tw_in (List.mem_of_getElem? (i := 103) (by decide +kernel)) rfl, tw_in (List.mem_of_getElem? (i := 66) (by decide +kernel)) rfl, uwX0, tyX0_ok, fun j hj => by rcases (show j = 0 ∨ j = 1 ∨ j = 2 ∨ j = 3 ∨ j = 4 by omega) with rfl | rfl | rfl | rfl | rfl <;> rfl⟩
theorem noX7_26 : NO RX7 26 3 3 := ⟨RX3, TX3, tyX3, rfl, tw_in (List.mem_of_getElem? (i := 124) (by decide +kernel)) rfl, tw_in (List.mem_of_getElem? (i := 125) (by decide +kernel)) rfl, tw_in (List.mem_of_getElem? (i := 67) (by decide +kernel)) rfl, uwX3, tyX3_ok, fun j hj => by rcases (show j = 0 ∨ j = 1 ∨ j = 2 by omega) with rfl | rfl | rfl <;> rfl⟩
theorem noX7_37 : NO RX7 37 5 3 := ⟨RX5, TX5, tyX5, rfl, tw_in (List.mem_of_getElem? (i := 143) (by decide +kernel)) rfl, tw_in (List.mem_of_getElem? (i := 145) (by decide +kernel)) rfl, tw_in (List.mem_of_getElem? (i := 68) (by decide +kernel)) rfl, uwX5, tyX5_ok, fun j hj => by rcases (show j = 0 ∨ j = 1 ∨ j = 2 by omega) with rfl | rfl | rfl <;> rfl⟩
theorem noX7_44 : NO RX7 44 2 4 := ⟨RX2, TX2, tyX2, rfl, tw_in (List.mem_of_getElem? (i := 161) (by decide +kernel)) rfl, tw_in (List.mem_of_getElem? (i := 162) (by decide +kernel)) rfl, tw_in (List.mem_of_getElem? (i := 69) (by decide +kernel)) rfl, uwX2, tyX2_ok, fun j hj => by rcases (show j = 0 ∨ j = 1 ∨ j = 2 ∨ j = 3 by omega) with rfl | rfl | rfl | rfl <;> rfl⟩
theorem noX7_51 : NO RX7 51 4 2 := ⟨RX4, TX4, tyX4, rfl, tw_in (List.mem_of_getElem? (i := 180) (by decide +kernel)) rfl, tw_in (List.mem_of_getElem? (i := 181) (by decide +kernel)) rfl, tw_in (List.mem_of_getElem? (i := 70) (by decide +kernel)) rfl, uwX4, tyX4_ok, fun j hj => by rcases (show j = 0 ∨ j = 1 by omega) with rfl | rfl <;> rfl⟩
theorem noX7_58 : NO RX7 58 1 3 := ⟨RX1, TX1, tyX1, rfl, tw_in (List.mem_of_getElem? (i := 195) (by decide +kernel)) rfl, tw_in (List.mem_of_getElem? (i := 196) (by decide +kernel)) rfl, tw_in (List.mem_of_getElem? (i := 71) (by decide +kernel)) rfl, uwX1, tyX1_ok, fun j hj => by rcases (show j = 0 ∨ j = 1 ∨ j = 2 by omega) with rfl | rfl | rfl <;> rfl⟩
theorem noX3_9 : NO RX3 9 0 5 := ⟨RX0, TX0, tyX0, rfl, tw_in (List.mem_of_getElem? (i := 130) (by decide +kernel)) rfl, tw_in (List.mem_of_getElem? (i := 103) (by decide +kernel)) rfl, tw_in (List.mem_of_getElem? (i := 66) (by decide +kernel)) rfl, uwX0, tyX0_ok, fun j hj => by rcases (show j = 0 ∨ j = 1 ∨ j = 2 ∨ j = 3 ∨ j = 4 by omega) with rfl | rfl | rfl | rfl | rfl <;> rfl⟩
theorem noX4_9 : NO RX4 9 0 5 := ⟨RX0, TX0, tyX0, rfl, tw_in (List.mem_of_getElem? (i := 186) (by decide +kernel)) rfl, tw_in (List.mem_of_getElem? (i := 103) (by decide +kernel)) rfl, tw_in (List.mem_of_getElem? (i := 66) (by decide +kernel)) rfl, uwX0, tyX0_ok, fun j hj => by rcases (show j = 0 ∨ j = 1 ∨ j = 2 ∨ j = 3 ∨ j = 4 by omega) with rfl | rfl | rfl | rfl | rfl <;> rfl⟩
theorem noL_7 : NO RL 7 7 9 := ⟨RX7, TX7, tyX7, rfl, tw_in (List.mem_of_getElem? (i := 77) (by decide +kernel)) rfl, tw_in (List.mem_of_getElem? (i := 78) (by decide +kernel)) rfl, tw_in (List.mem_of_getElem? (i := 64) (by decide +kernel)) rfl, uwX7, tyX7_ok, fun j hj => by rcases (show j = 0 ∨ j = 1 ∨ j = 2 ∨ j = 3 ∨ j = 4 ∨ j = 5 ∨ j = 6 ∨ j = 7 ∨ j = 8 by omega) with rfl | rfl | rfl | rfl | rfl | rfl | rfl | rfl | rfl <;> rfl⟩
theorem noL_10 : NO RL 10 8 19 := ⟨RX8, TX8, tyX8, rfl, tw_in (List.mem_of_getElem? (i := 817) (by decide +kernel)) rfl, tw_in (List.mem_of_getElem? (i := 818) (by decide +kernel)) rfl, tw_in (List.mem_of_getElem? (i := 72) (by decide +kernel)) rfl, uwX8, tyX8_ok, fun j hj => by rcases (show j = 0 ∨ j = 1 ∨ j = 2 ∨ j = 3 ∨ j = 4 ∨ j = 5 ∨ j = 6 ∨ j = 7 ∨ j = 8 ∨ j = 9 ∨ j = 10 ∨ j = 11 ∨ j = 12 ∨ j = 13 ∨ j = 14 ∨ j = 15 ∨ j = 16 ∨ j = 17 ∨ j = 18 by omega) with rfl | rfl | rfl | rfl | rfl | rfl | rfl | rfl | rfl | rfl | rfl | rfl | rfl | rfl | rfl | rfl | rfl | rfl | rfl <;> rfl⟩
abbrev qX0_init : MI := (yX0_init, cX0_init, 1, none)
theorem cqX0_init : CQ qX0_init 0 := ⟨tw_in (List.mem_of_getElem? (i := 66) (by decide +kernel)) rfl, tw_in (List.mem_of_getElem? (i := 106) (by decide +kernel)) rfl, by decide +kernel, by decide⟩
abbrev qX1_init : MI := (yX1_init, cX1_init, 1, none)
theorem cqX1_init : CQ qX1_init 0 := ⟨tw_in (List.mem_of_getElem? (i := 71) (by decide +kernel)) rfl, tw_in (List.mem_of_getElem? (i := 199) (by decide +kernel)) rfl, by decide +kernel, by decide⟩
abbrev qX2_init : MI := (yX2_init, cX2_init, 1, none)
theorem cqX2_init : CQ qX2_init 0 := ⟨tw_in (List.mem_of_getElem? (i := 69) (by decide +kernel)) rfl, tw_in (List.mem_of_getElem? (i := 165) (by decide +kernel)) rfl, by decide +kernel, by decide⟩
abbrev qX3_init : MI := (yX3_init, cX3_init, 2, none)
theorem cqX3_init : CQ qX3_init 0 := ⟨tw_in (List.mem_of_getElem? (i := 67) (by decide +kernel)) rfl, tw_in (List.mem_of_getElem? (i := 128) (by decide +kernel)) rfl, by decide +kernel, by decide⟩
abbrev qX4_init : MI := (yX4_init, cX4_init, 1, none)
theorem cqX4_init : CQ qX4_init 0 := ⟨tw_in (List.mem_of_getElem? (i := 70) (by decide +kernel)) rfl, tw_in (List.mem_of_getElem? (i := 184) (by decide +kernel)) rfl, by decide +kernel, by decide⟩
abbrev qX5_init : MI := (yX5_init, cX5_init, 1, none)
theorem cqX5_init : CQ qX5_init 0 := ⟨tw_in (List.mem_of_getElem? (i := 68) (by decide +kernel)) rfl, tw_in (List.mem_of_getElem? (i := 148) (by decide +kernel)) rfl, by decide +kernel, by decide⟩
abbrev qX6_init : MI := (yX6_init, cX6_init, 1, none)
theorem cqX6_init : CQ qX6_init 0 := ⟨tw_in (List.mem_of_getElem? (i := 65) (by decide +kernel)) rfl, tw_in (List.mem_of_getElem? (i := 89) (by decide +kernel)) rfl, by decide +kernel, by decide⟩
abbrev qX7_init : MI := (yX7_init, cX7_init, 1, none)
theorem cqX7_init : CQ qX7_init 0 := ⟨tw_in (List.mem_of_getElem? (i := 64) (by decide +kernel)) rfl, tw_in (List.mem_of_getElem? (i := 81) (by decide +kernel)) rfl, by decide +kernel, by decide⟩
abbrev qX8_init : MI := (yX8_init, cX8_init, 2, none)
theorem cqX8_init : CQ qX8_init 0 := ⟨tw_in (List.mem_of_getElem? (i := 72) (by decide +kernel)) rfl, tw_in (List.mem_of_getElem? (i := 821) (by decide +kernel)) rfl, by decide +kernel, by decide⟩
theorem ciX7_28 : CI RX7 28 qX3_init := ⟨tw_in (List.mem_of_getElem? (i := 126) (by decide +kernel)) rfl, tw_in (List.mem_of_getElem? (i := 127) (by decide +kernel)) rfl, rfl, rfl, cqX3_init⟩
theorem ciL_9 : CI RL 9 qX7_init := ⟨tw_in (List.mem_of_getElem? (i := 79) (by decide +kernel)) rfl, tw_in (List.mem_of_getElem? (i := 80) (by decide +kernel)) rfl, rfl, rfl, cqX7_init⟩
theorem ciL_12 : CI RL 12 qX8_init := ⟨tw_in (List.mem_of_getElem? (i := 819) (by decide +kernel)) rfl, tw_in (List.mem_of_getElem? (i := 820) (by decide +kernel)) rfl, rfl, rfl, cqX8_init⟩
theorem cinX7_9 : CIN RX7 9 qX6_init := ⟨by decide +kernel, tw_in (List.mem_of_getElem? (i := 88) (by decide +kernel)) rfl, rfl, rfl, cqX6_init⟩
theorem cinX7_18 : CIN RX7 18 qX0_init := ⟨by decide +kernel, tw_in (List.mem_of_getElem? (i := 105) (by decide +kernel)) rfl, rfl, rfl, cqX0_init⟩
theorem cinX7_39 : CIN RX7 39 qX5_init := ⟨by decide +kernel, tw_in (List.mem_of_getElem? (i := 147) (by decide +kernel)) rfl, rfl, rfl, cqX5_init⟩
theorem cinX7_46 : CIN RX7 46 qX2_init := ⟨by decide +kernel, tw_in (List.mem_of_getElem? (i := 164) (by decide +kernel)) rfl, rfl, rfl, cqX2_init⟩
theorem cinX7_53 : CIN RX7 53 qX4_init := ⟨by decide +kernel, tw_in (List.mem_of_getElem? (i := 183) (by decide +kernel)) rfl, rfl, rfl, cqX4_init⟩
theorem cinX7_60 : CIN RX7 60 qX1_init := ⟨by decide +kernel, tw_in (List.mem_of_getElem? (i := 198) (by decide +kernel)) rfl, rfl, rfl, cqX1_init⟩
theorem cinX3_17 : CIN RX3 17 qX0_init := ⟨by decide +kernel, tw_in (List.mem_of_getElem? (i := 105) (by decide +kernel)) rfl, rfl, rfl, cqX0_init⟩
theorem cinX4_11 : CIN RX4 11 qX0_init := ⟨by decide +kernel, tw_in (List.mem_of_getElem? (i := 105) (by decide +kernel)) rfl, rfl, rfl, cqX0_init⟩
set_option maxHeartbeats 4000000 in
theorem cX0 (w : Wc) {a t : Nat} {u : Um} (ha : kd a = 0) (s0 : SETL[t]? = some (a, 0)) (s1 : SETL[t + 1]? = some (a, 1)) (hz : ZB u (a + 1)) : MCg w 1 qX0_init 2 80 (Pt t) (a + 1) (Pt (t + 2)) (a + 3) true [.ref a] u none u := by
  refine MC_intro pnX0 (Nat.le_of_ble_eq_true rfl) (fun X hX hR hc hin => ?_)
  have hX : OKc w X RX0 cX0_init 1 := hX
  have hR : RT w X none 2 80 (Pt (t + 2)) (a + 3) true none u := hR
  refine G_eql (lv' := [some (.ref a)]) rfl ?_
  refine G_aload_n hX dX0_init_0 rfl ?_
  refine G_objI hX coX0_3 (Nat.le_of_ble_eq_true rfl) (Nat.le_of_ble_eq_true rfl) dX0_init_1 ?_
  refine G_aload_n hX dX0_init_4 rfl ?_
  refine G_bipush (v := 48) hX dX0_init_5 rfl ?_
  refine G_newI hX (kC1 ha) (lC1 ha) (fun i => (hz (a + 1) (Nat.le_refl _)).1 i) wAI (by decide) (by decide) (Nat.le_of_ble_eq_true rfl) (by rw [hc.1]; exact (Nat.le_of_ble_eq_true rfl)) (by rw [hc.2]; exact (Nat.le_of_ble_eq_true rfl)) dX0_init_7 ?_
  refine G_putRt (i := 0) hX ha (Nat.le_of_ble_eq_true rfl) (by omega) rfl flX0_9 frX0_0 hin s0 (PC1 ha) dX0_init_9 ?_
  refine G_aload_n hX dX0_init_12 rfl ?_
  refine G_bipush (v := 32) hX dX0_init_13 rfl ?_
  refine G_newI (nx := a + 2) hX (kC2 ha) (lC2 ha) (fun i => (hz (a + 2) (by omega)).1 i) wAI (by decide) (by decide) (Nat.le_of_ble_eq_true rfl) (by rw [hc.1]; exact (Nat.le_of_ble_eq_true rfl)) (by rw [hc.2]; exact (Nat.le_of_ble_eq_true rfl)) dX0_init_15 ?_
  refine G_putRt (i := 1) hX ha (Nat.le_of_ble_eq_true rfl) (by omega) rfl flX0_15 frX0_1 hin s1 (PC2 ha) dX0_init_17 ?_
  exact G_vret hX hR dX0_init_20
set_option maxHeartbeats 4000000 in
theorem cX5 (w : Wc) {a t : Nat} {u : Um} (ha : kd a = 5) (s0 : SETL[t]? = some (a, 0)) (hz : ZB u (a + 1)) : MCg w 1 qX5_init 1 24 (Pt t) (a + 1) (Pt (t + 1)) (a + 2) true [.ref a] u none (sI u a 1 (-1)) := by
  refine MC_intro pnX5 (Nat.le_of_ble_eq_true rfl) (fun X hX hR hc hin => ?_)
  have hX : OKc w X RX5 cX5_init 1 := hX
  have hR : RT w X none 1 24 (Pt (t + 1)) (a + 2) true none (sI u a 1 (-1)) := hR
  refine G_eql (lv' := [some (.ref a)]) rfl ?_
  refine G_aload_n hX dX5_init_0 rfl ?_
  refine G_objI hX coX5_3 (Nat.le_of_ble_eq_true rfl) (Nat.le_of_ble_eq_true rfl) dX5_init_1 ?_
  refine G_aload_n hX dX5_init_4 rfl ?_
  refine G_bipush (v := 24) hX dX5_init_5 rfl ?_
  refine G_newJ hX (kS1 ha) (lS1 ha) (fun i => (hz (a + 1) (Nat.le_refl _)).2 i) wAJ (by decide) (by decide) (Nat.le_of_ble_eq_true rfl) (by rw [hc.1]; exact (Nat.le_of_ble_eq_true rfl)) (by rw [hc.2]; exact (Nat.le_of_ble_eq_true rfl)) dX5_init_7 ?_
  refine G_putRt (i := 0) hX ha (Nat.le_of_ble_eq_true rfl) (by omega) rfl flX5_9 frX5_0 hin s0 (PS1 ha) dX5_init_9 ?_
  refine G_aload_n hX dX5_init_12 rfl ?_
  refine G_iconst (v := (-1)) hX dX5_init_13 rfl ?_
  refine G_putT (i := 1) hX ha (Nat.le_of_ble_eq_true rfl) (by omega) rfl flX5_15 fwX5_1 dX5_init_14 ?_
  exact G_vret hX hR dX5_init_17
theorem kd_none {k : Nat} (h : 133 ≤ k) : kd k = 99 := by
  unfold kd
  rw [List.getD_eq_getElem?_getD, List.getElem?_eq_none (by show 133 ≤ k; exact h)]
  rfl
theorem Pst_big {k j : Nat} (h : 30 ≤ j) : Pst k j = none := by
  have hl : ∀ k, k < 133 → (kd k = 12 ∨ kd k = 13) → ln k ≤ 24 := by decide +kernel
  have hk12 : (kd k = 12 ∨ kd k = 13) → ln k ≤ 24 := fun hh => hl k (by rcases hh with hh | hh <;> exact kd_lt hh (by decide)) hh
  unfold Pst
  split <;> first | rfl | (rw [if_neg (by omega), if_neg (by omega)]; done) | (rw [if_neg (by omega)]; done) | (rw [List.getElem?_eq_none (by simp; omega)]; done) | (rw [List.getD_eq_getElem?_getD, List.getElem?_eq_none (by simp; omega)]; rfl) | (rename_i hh; have := hk12 (by omega); rw [if_neg (by omega)])
set_option maxHeartbeats 4000000 in
set_option maxRecDepth 100000 in
theorem cX6 (w : Wc) {u : Um} (hz : ZB u 2) : MCg w 1 qX6_init 1 130 (Pt 0) 2 (Pt 1) 3 true [.ref 1] u none u := by
  refine MC_intro pnX6 (Nat.le_of_ble_eq_true rfl) (fun X hX hR hc hin => ?_)
  have hX : OKc w X RX6 cX6_init 1 := hX
  have hR : RT w X none 1 130 (Pt 1) 3 true none u := hR
  refine G_eql (lv' := [some (.ref 1)]) rfl ?_
  refine G_aload_n hX dX6_init_0 rfl ?_
  refine G_objI hX coX6_3 (Nat.le_of_ble_eq_true rfl) (Nat.le_of_ble_eq_true rfl) dX6_init_1 ?_
  refine G_aload_n hX dX6_init_4 rfl ?_
  refine G_sipush (v := 130) hX dX6_init_5 rfl ?_
  refine G_newI hX kA2 lA2 (fun i => (hz 2 (Nat.le_of_ble_eq_true rfl)).1 i) wAI (by decide) (by decide) (Nat.le_of_ble_eq_true rfl) (by rw [hc.1]; exact (Nat.le_of_ble_eq_true rfl)) (by rw [hc.2]; exact (Nat.le_of_ble_eq_true rfl)) dX6_init_8 ?_
  refine G_putRt (i := 0) hX kA1 (Nat.le_of_ble_eq_true rfl) (Nat.le_of_ble_eq_true rfl) rfl flX6_9 frX6_0 hin (by decide +kernel) (by decide +kernel) dX6_init_10 ?_
  exact G_vret hX hR dX6_init_13
set_option maxHeartbeats 4000000 in
set_option maxRecDepth 100000 in
theorem cX3 (w : Wc) {u : Um} (hz : ZB u 10) : MCg w 2 qX3_init 73 2064 (Pt 8) 10 (Pt 81) 83 true [.ref 9] u none u := by
  refine MC_intro pnX3 (Nat.le_of_ble_eq_true rfl) (fun X hX hR hc hin => ?_)
  have hX : OKc w X RX3 cX3_init 2 := hX
  have hR : RT w X none 73 2064 (Pt 81) 83 true none u := hR
  refine G_eql (lv' := [some (.ref 9), none]) rfl ?_
  refine G_aload_n hX dX3_init_0 rfl ?_
  refine G_objI hX coX3_3 (Nat.le_of_ble_eq_true rfl) (Nat.le_of_ble_eq_true rfl) dX3_init_1 ?_
  refine G_aload_n hX dX3_init_4 rfl ?_
  refine G_bipush (v := 24) hX dX3_init_5 rfl ?_
  refine G_newRC hX kA10 lA10 (Pt_fresh (by decide +kernel)) wlX3_9 (by decide) (by decide) (Nat.le_of_ble_eq_true rfl) (by rw [hc.1]; exact (Nat.le_of_ble_eq_true rfl)) (by rw [hc.2]; exact (Nat.le_of_ble_eq_true rfl)) dX3_init_7 ?_
  refine G_putRt (i := 0) hX kA9 (Nat.le_of_ble_eq_true rfl) (Nat.le_of_ble_eq_true rfl) rfl flX3_11 frX3_0 hin (by decide +kernel) (by decide +kernel) dX3_init_10 ?_
  refine G_iconst (v := 0) hX dX3_init_13 rfl ?_
  refine G_istore_n (lv' := [some (.ref 9), some (.int 0)]) hX dX3_init_14 rfl (Nat.le_of_ble_eq_true rfl) rfl ?_
  refine G_iload_n hX dX3_init_15 rfl ?_
  refine G_aload_n hX dX3_init_16 rfl ?_
  refine G_getR (i := 0) (t := 10) hX kA9 (Nat.le_of_ble_eq_true rfl) (Nat.le_of_ble_eq_true rfl) rfl (by decide +kernel) flX3_11 dX3_init_17 ?_
  refine G_alenC (n := 24) (v := 24) hX kA10 lA10 (Nat.le_of_ble_eq_true rfl) dX3_init_20 rfl ?_
  refine G_icmp_ge (A := (none : Option Unit)) (B := some ()) (r := ()) (tgt := 43) hX dX3_init_21 rfl (by decide) (fun h => by cases h) (fun _ => ?_)
  refine G_aload_n hX dX3_init_24 rfl ?_
  refine G_getR (i := 0) (t := 10) hX kA9 (Nat.le_of_ble_eq_true rfl) (Nat.le_of_ble_eq_true rfl) rfl (by decide +kernel) flX3_11 dX3_init_25 ?_
  refine G_iload_n hX dX3_init_28 rfl ?_
  refine G_newO (N := 5) hX noX3_9 kA11 (Nat.le_of_ble_eq_true rfl) (fun i => (hz 11 (Nat.le_of_ble_eq_true rfl)).1 i) (Pt_fresh (by decide +kernel)) (by rw [hc.1]; exact (Nat.le_of_ble_eq_true rfl)) (by rw [hc.2]; exact (Nat.le_of_ble_eq_true rfl)) dX3_init_29 ?_
  refine G_dup hX dX3_init_32 rfl ?_
  refine G_callIN (mc := 2) (ms := 80) (u' := u) hX cinX3_17 (cX0 w kA11 (by decide +kernel) (by decide +kernel) (fun k hk => hz k (Nat.le_trans (Nat.le_of_ble_eq_true rfl) hk))) (Nat.le_of_ble_eq_true rfl) (Nat.le_of_ble_eq_true rfl) dX3_init_33 ⟨by rw [hc.1]; exact (Nat.le_of_ble_eq_true rfl), by rw [hc.2]; exact (Nat.le_of_ble_eq_true rfl)⟩ ?_
  refine G_aastCt (j := 0) hX kA10 lA10 (Nat.le_of_ble_eq_true rfl) kA11 (Nat.le_of_ble_eq_true rfl) (by decide) rfl (by decide +kernel) (by decide +kernel) dX3_init_36 ?_
  refine G_iinc (v := 1) (lv' := [some (.ref 9), some (.int 1)]) hX dX3_init_37 rfl (by decide) rfl (Nat.le_of_ble_eq_true rfl) rfl ?_
  refine G_goto (tgt := 15) hX dX3_init_40 rfl ?_
  refine G_iload_n hX dX3_init_15 rfl ?_
  refine G_aload_n hX dX3_init_16 rfl ?_
  refine G_getR (i := 0) (t := 10) hX kA9 (Nat.le_of_ble_eq_true rfl) (Nat.le_of_ble_eq_true rfl) rfl (by decide +kernel) flX3_11 dX3_init_17 ?_
  refine G_alenC (n := 24) (v := 24) hX kA10 lA10 (Nat.le_of_ble_eq_true rfl) dX3_init_20 rfl ?_
  refine G_icmp_ge (A := (none : Option Unit)) (B := some ()) (r := ()) (tgt := 43) hX dX3_init_21 rfl (by decide) (fun h => by cases h) (fun _ => ?_)
  refine G_aload_n hX dX3_init_24 rfl ?_
  refine G_getR (i := 0) (t := 10) hX kA9 (Nat.le_of_ble_eq_true rfl) (Nat.le_of_ble_eq_true rfl) rfl (by decide +kernel) flX3_11 dX3_init_25 ?_
  refine G_iload_n hX dX3_init_28 rfl ?_
  refine G_newO (N := 5) hX noX3_9 kA14 (Nat.le_of_ble_eq_true rfl) (fun i => (hz 14 (Nat.le_of_ble_eq_true rfl)).1 i) (Pt_fresh (by decide +kernel)) (by rw [hc.1]; exact (Nat.le_of_ble_eq_true rfl)) (by rw [hc.2]; exact (Nat.le_of_ble_eq_true rfl)) dX3_init_29 ?_
  refine G_dup hX dX3_init_32 rfl ?_
  refine G_callIN (mc := 2) (ms := 80) (u' := u) hX cinX3_17 (cX0 w kA14 (by decide +kernel) (by decide +kernel) (fun k hk => hz k (Nat.le_trans (Nat.le_of_ble_eq_true rfl) hk))) (Nat.le_of_ble_eq_true rfl) (Nat.le_of_ble_eq_true rfl) dX3_init_33 ⟨by rw [hc.1]; exact (Nat.le_of_ble_eq_true rfl), by rw [hc.2]; exact (Nat.le_of_ble_eq_true rfl)⟩ ?_
  refine G_aastCt (j := 1) hX kA10 lA10 (Nat.le_of_ble_eq_true rfl) kA14 (Nat.le_of_ble_eq_true rfl) (by decide) rfl (by decide +kernel) (by decide +kernel) dX3_init_36 ?_
  refine G_iinc (v := 2) (lv' := [some (.ref 9), some (.int 2)]) hX dX3_init_37 rfl (by decide) rfl (Nat.le_of_ble_eq_true rfl) rfl ?_
  refine G_goto (tgt := 15) hX dX3_init_40 rfl ?_
  refine G_iload_n hX dX3_init_15 rfl ?_
  refine G_aload_n hX dX3_init_16 rfl ?_
  refine G_getR (i := 0) (t := 10) hX kA9 (Nat.le_of_ble_eq_true rfl) (Nat.le_of_ble_eq_true rfl) rfl (by decide +kernel) flX3_11 dX3_init_17 ?_
  refine G_alenC (n := 24) (v := 24) hX kA10 lA10 (Nat.le_of_ble_eq_true rfl) dX3_init_20 rfl ?_
  refine G_icmp_ge (A := (none : Option Unit)) (B := some ()) (r := ()) (tgt := 43) hX dX3_init_21 rfl (by decide) (fun h => by cases h) (fun _ => ?_)
  refine G_aload_n hX dX3_init_24 rfl ?_
  refine G_getR (i := 0) (t := 10) hX kA9 (Nat.le_of_ble_eq_true rfl) (Nat.le_of_ble_eq_true rfl) rfl (by decide +kernel) flX3_11 dX3_init_25 ?_
  refine G_iload_n hX dX3_init_28 rfl ?_
  refine G_newO (N := 5) hX noX3_9 kA17 (Nat.le_of_ble_eq_true rfl) (fun i => (hz 17 (Nat.le_of_ble_eq_true rfl)).1 i) (Pt_fresh (by decide +kernel)) (by rw [hc.1]; exact (Nat.le_of_ble_eq_true rfl)) (by rw [hc.2]; exact (Nat.le_of_ble_eq_true rfl)) dX3_init_29 ?_
  refine G_dup hX dX3_init_32 rfl ?_
  refine G_callIN (mc := 2) (ms := 80) (u' := u) hX cinX3_17 (cX0 w kA17 (by decide +kernel) (by decide +kernel) (fun k hk => hz k (Nat.le_trans (Nat.le_of_ble_eq_true rfl) hk))) (Nat.le_of_ble_eq_true rfl) (Nat.le_of_ble_eq_true rfl) dX3_init_33 ⟨by rw [hc.1]; exact (Nat.le_of_ble_eq_true rfl), by rw [hc.2]; exact (Nat.le_of_ble_eq_true rfl)⟩ ?_
  refine G_aastCt (j := 2) hX kA10 lA10 (Nat.le_of_ble_eq_true rfl) kA17 (Nat.le_of_ble_eq_true rfl) (by decide) rfl (by decide +kernel) (by decide +kernel) dX3_init_36 ?_
  refine G_iinc (v := 3) (lv' := [some (.ref 9), some (.int 3)]) hX dX3_init_37 rfl (by decide) rfl (Nat.le_of_ble_eq_true rfl) rfl ?_
  refine G_goto (tgt := 15) hX dX3_init_40 rfl ?_
  refine G_iload_n hX dX3_init_15 rfl ?_
  refine G_aload_n hX dX3_init_16 rfl ?_
  refine G_getR (i := 0) (t := 10) hX kA9 (Nat.le_of_ble_eq_true rfl) (Nat.le_of_ble_eq_true rfl) rfl (by decide +kernel) flX3_11 dX3_init_17 ?_
  refine G_alenC (n := 24) (v := 24) hX kA10 lA10 (Nat.le_of_ble_eq_true rfl) dX3_init_20 rfl ?_
  refine G_icmp_ge (A := (none : Option Unit)) (B := some ()) (r := ()) (tgt := 43) hX dX3_init_21 rfl (by decide) (fun h => by cases h) (fun _ => ?_)
  refine G_aload_n hX dX3_init_24 rfl ?_
  refine G_getR (i := 0) (t := 10) hX kA9 (Nat.le_of_ble_eq_true rfl) (Nat.le_of_ble_eq_true rfl) rfl (by decide +kernel) flX3_11 dX3_init_25 ?_
  refine G_iload_n hX dX3_init_28 rfl ?_
  refine G_newO (N := 5) hX noX3_9 kA20 (Nat.le_of_ble_eq_true rfl) (fun i => (hz 20 (Nat.le_of_ble_eq_true rfl)).1 i) (Pt_fresh (by decide +kernel)) (by rw [hc.1]; exact (Nat.le_of_ble_eq_true rfl)) (by rw [hc.2]; exact (Nat.le_of_ble_eq_true rfl)) dX3_init_29 ?_
  refine G_dup hX dX3_init_32 rfl ?_
  refine G_callIN (mc := 2) (ms := 80) (u' := u) hX cinX3_17 (cX0 w kA20 (by decide +kernel) (by decide +kernel) (fun k hk => hz k (Nat.le_trans (Nat.le_of_ble_eq_true rfl) hk))) (Nat.le_of_ble_eq_true rfl) (Nat.le_of_ble_eq_true rfl) dX3_init_33 ⟨by rw [hc.1]; exact (Nat.le_of_ble_eq_true rfl), by rw [hc.2]; exact (Nat.le_of_ble_eq_true rfl)⟩ ?_
  refine G_aastCt (j := 3) hX kA10 lA10 (Nat.le_of_ble_eq_true rfl) kA20 (Nat.le_of_ble_eq_true rfl) (by decide) rfl (by decide +kernel) (by decide +kernel) dX3_init_36 ?_
  refine G_iinc (v := 4) (lv' := [some (.ref 9), some (.int 4)]) hX dX3_init_37 rfl (by decide) rfl (Nat.le_of_ble_eq_true rfl) rfl ?_
  refine G_goto (tgt := 15) hX dX3_init_40 rfl ?_
  refine G_iload_n hX dX3_init_15 rfl ?_
  refine G_aload_n hX dX3_init_16 rfl ?_
  refine G_getR (i := 0) (t := 10) hX kA9 (Nat.le_of_ble_eq_true rfl) (Nat.le_of_ble_eq_true rfl) rfl (by decide +kernel) flX3_11 dX3_init_17 ?_
  refine G_alenC (n := 24) (v := 24) hX kA10 lA10 (Nat.le_of_ble_eq_true rfl) dX3_init_20 rfl ?_
  refine G_icmp_ge (A := (none : Option Unit)) (B := some ()) (r := ()) (tgt := 43) hX dX3_init_21 rfl (by decide) (fun h => by cases h) (fun _ => ?_)
  refine G_aload_n hX dX3_init_24 rfl ?_
  refine G_getR (i := 0) (t := 10) hX kA9 (Nat.le_of_ble_eq_true rfl) (Nat.le_of_ble_eq_true rfl) rfl (by decide +kernel) flX3_11 dX3_init_25 ?_
  refine G_iload_n hX dX3_init_28 rfl ?_
  refine G_newO (N := 5) hX noX3_9 kA23 (Nat.le_of_ble_eq_true rfl) (fun i => (hz 23 (Nat.le_of_ble_eq_true rfl)).1 i) (Pt_fresh (by decide +kernel)) (by rw [hc.1]; exact (Nat.le_of_ble_eq_true rfl)) (by rw [hc.2]; exact (Nat.le_of_ble_eq_true rfl)) dX3_init_29 ?_
  refine G_dup hX dX3_init_32 rfl ?_
  refine G_callIN (mc := 2) (ms := 80) (u' := u) hX cinX3_17 (cX0 w kA23 (by decide +kernel) (by decide +kernel) (fun k hk => hz k (Nat.le_trans (Nat.le_of_ble_eq_true rfl) hk))) (Nat.le_of_ble_eq_true rfl) (Nat.le_of_ble_eq_true rfl) dX3_init_33 ⟨by rw [hc.1]; exact (Nat.le_of_ble_eq_true rfl), by rw [hc.2]; exact (Nat.le_of_ble_eq_true rfl)⟩ ?_
  refine G_aastCt (j := 4) hX kA10 lA10 (Nat.le_of_ble_eq_true rfl) kA23 (Nat.le_of_ble_eq_true rfl) (by decide) rfl (by decide +kernel) (by decide +kernel) dX3_init_36 ?_
  refine G_iinc (v := 5) (lv' := [some (.ref 9), some (.int 5)]) hX dX3_init_37 rfl (by decide) rfl (Nat.le_of_ble_eq_true rfl) rfl ?_
  refine G_goto (tgt := 15) hX dX3_init_40 rfl ?_
  refine G_iload_n hX dX3_init_15 rfl ?_
  refine G_aload_n hX dX3_init_16 rfl ?_
  refine G_getR (i := 0) (t := 10) hX kA9 (Nat.le_of_ble_eq_true rfl) (Nat.le_of_ble_eq_true rfl) rfl (by decide +kernel) flX3_11 dX3_init_17 ?_
  refine G_alenC (n := 24) (v := 24) hX kA10 lA10 (Nat.le_of_ble_eq_true rfl) dX3_init_20 rfl ?_
  refine G_icmp_ge (A := (none : Option Unit)) (B := some ()) (r := ()) (tgt := 43) hX dX3_init_21 rfl (by decide) (fun h => by cases h) (fun _ => ?_)
  refine G_aload_n hX dX3_init_24 rfl ?_
  refine G_getR (i := 0) (t := 10) hX kA9 (Nat.le_of_ble_eq_true rfl) (Nat.le_of_ble_eq_true rfl) rfl (by decide +kernel) flX3_11 dX3_init_25 ?_
  refine G_iload_n hX dX3_init_28 rfl ?_
  refine G_newO (N := 5) hX noX3_9 kA26 (Nat.le_of_ble_eq_true rfl) (fun i => (hz 26 (Nat.le_of_ble_eq_true rfl)).1 i) (Pt_fresh (by decide +kernel)) (by rw [hc.1]; exact (Nat.le_of_ble_eq_true rfl)) (by rw [hc.2]; exact (Nat.le_of_ble_eq_true rfl)) dX3_init_29 ?_
  refine G_dup hX dX3_init_32 rfl ?_
  refine G_callIN (mc := 2) (ms := 80) (u' := u) hX cinX3_17 (cX0 w kA26 (by decide +kernel) (by decide +kernel) (fun k hk => hz k (Nat.le_trans (Nat.le_of_ble_eq_true rfl) hk))) (Nat.le_of_ble_eq_true rfl) (Nat.le_of_ble_eq_true rfl) dX3_init_33 ⟨by rw [hc.1]; exact (Nat.le_of_ble_eq_true rfl), by rw [hc.2]; exact (Nat.le_of_ble_eq_true rfl)⟩ ?_
  refine G_aastCt (j := 5) hX kA10 lA10 (Nat.le_of_ble_eq_true rfl) kA26 (Nat.le_of_ble_eq_true rfl) (by decide) rfl (by decide +kernel) (by decide +kernel) dX3_init_36 ?_
  refine G_iinc (v := 6) (lv' := [some (.ref 9), some (.int 6)]) hX dX3_init_37 rfl (by decide) rfl (Nat.le_of_ble_eq_true rfl) rfl ?_
  refine G_goto (tgt := 15) hX dX3_init_40 rfl ?_
  refine G_iload_n hX dX3_init_15 rfl ?_
  refine G_aload_n hX dX3_init_16 rfl ?_
  refine G_getR (i := 0) (t := 10) hX kA9 (Nat.le_of_ble_eq_true rfl) (Nat.le_of_ble_eq_true rfl) rfl (by decide +kernel) flX3_11 dX3_init_17 ?_
  refine G_alenC (n := 24) (v := 24) hX kA10 lA10 (Nat.le_of_ble_eq_true rfl) dX3_init_20 rfl ?_
  refine G_icmp_ge (A := (none : Option Unit)) (B := some ()) (r := ()) (tgt := 43) hX dX3_init_21 rfl (by decide) (fun h => by cases h) (fun _ => ?_)
  refine G_aload_n hX dX3_init_24 rfl ?_
  refine G_getR (i := 0) (t := 10) hX kA9 (Nat.le_of_ble_eq_true rfl) (Nat.le_of_ble_eq_true rfl) rfl (by decide +kernel) flX3_11 dX3_init_25 ?_
  refine G_iload_n hX dX3_init_28 rfl ?_
  refine G_newO (N := 5) hX noX3_9 kA29 (Nat.le_of_ble_eq_true rfl) (fun i => (hz 29 (Nat.le_of_ble_eq_true rfl)).1 i) (Pt_fresh (by decide +kernel)) (by rw [hc.1]; exact (Nat.le_of_ble_eq_true rfl)) (by rw [hc.2]; exact (Nat.le_of_ble_eq_true rfl)) dX3_init_29 ?_
  refine G_dup hX dX3_init_32 rfl ?_
  refine G_callIN (mc := 2) (ms := 80) (u' := u) hX cinX3_17 (cX0 w kA29 (by decide +kernel) (by decide +kernel) (fun k hk => hz k (Nat.le_trans (Nat.le_of_ble_eq_true rfl) hk))) (Nat.le_of_ble_eq_true rfl) (Nat.le_of_ble_eq_true rfl) dX3_init_33 ⟨by rw [hc.1]; exact (Nat.le_of_ble_eq_true rfl), by rw [hc.2]; exact (Nat.le_of_ble_eq_true rfl)⟩ ?_
  refine G_aastCt (j := 6) hX kA10 lA10 (Nat.le_of_ble_eq_true rfl) kA29 (Nat.le_of_ble_eq_true rfl) (by decide) rfl (by decide +kernel) (by decide +kernel) dX3_init_36 ?_
  refine G_iinc (v := 7) (lv' := [some (.ref 9), some (.int 7)]) hX dX3_init_37 rfl (by decide) rfl (Nat.le_of_ble_eq_true rfl) rfl ?_
  refine G_goto (tgt := 15) hX dX3_init_40 rfl ?_
  refine G_iload_n hX dX3_init_15 rfl ?_
  refine G_aload_n hX dX3_init_16 rfl ?_
  refine G_getR (i := 0) (t := 10) hX kA9 (Nat.le_of_ble_eq_true rfl) (Nat.le_of_ble_eq_true rfl) rfl (by decide +kernel) flX3_11 dX3_init_17 ?_
  refine G_alenC (n := 24) (v := 24) hX kA10 lA10 (Nat.le_of_ble_eq_true rfl) dX3_init_20 rfl ?_
  refine G_icmp_ge (A := (none : Option Unit)) (B := some ()) (r := ()) (tgt := 43) hX dX3_init_21 rfl (by decide) (fun h => by cases h) (fun _ => ?_)
  refine G_aload_n hX dX3_init_24 rfl ?_
  refine G_getR (i := 0) (t := 10) hX kA9 (Nat.le_of_ble_eq_true rfl) (Nat.le_of_ble_eq_true rfl) rfl (by decide +kernel) flX3_11 dX3_init_25 ?_
  refine G_iload_n hX dX3_init_28 rfl ?_
  refine G_newO (N := 5) hX noX3_9 kA32 (Nat.le_of_ble_eq_true rfl) (fun i => (hz 32 (Nat.le_of_ble_eq_true rfl)).1 i) (Pt_fresh (by decide +kernel)) (by rw [hc.1]; exact (Nat.le_of_ble_eq_true rfl)) (by rw [hc.2]; exact (Nat.le_of_ble_eq_true rfl)) dX3_init_29 ?_
  refine G_dup hX dX3_init_32 rfl ?_
  refine G_callIN (mc := 2) (ms := 80) (u' := u) hX cinX3_17 (cX0 w kA32 (by decide +kernel) (by decide +kernel) (fun k hk => hz k (Nat.le_trans (Nat.le_of_ble_eq_true rfl) hk))) (Nat.le_of_ble_eq_true rfl) (Nat.le_of_ble_eq_true rfl) dX3_init_33 ⟨by rw [hc.1]; exact (Nat.le_of_ble_eq_true rfl), by rw [hc.2]; exact (Nat.le_of_ble_eq_true rfl)⟩ ?_
  refine G_aastCt (j := 7) hX kA10 lA10 (Nat.le_of_ble_eq_true rfl) kA32 (Nat.le_of_ble_eq_true rfl) (by decide) rfl (by decide +kernel) (by decide +kernel) dX3_init_36 ?_
  refine G_iinc (v := 8) (lv' := [some (.ref 9), some (.int 8)]) hX dX3_init_37 rfl (by decide) rfl (Nat.le_of_ble_eq_true rfl) rfl ?_
  refine G_goto (tgt := 15) hX dX3_init_40 rfl ?_
  refine G_iload_n hX dX3_init_15 rfl ?_
  refine G_aload_n hX dX3_init_16 rfl ?_
  refine G_getR (i := 0) (t := 10) hX kA9 (Nat.le_of_ble_eq_true rfl) (Nat.le_of_ble_eq_true rfl) rfl (by decide +kernel) flX3_11 dX3_init_17 ?_
  refine G_alenC (n := 24) (v := 24) hX kA10 lA10 (Nat.le_of_ble_eq_true rfl) dX3_init_20 rfl ?_
  refine G_icmp_ge (A := (none : Option Unit)) (B := some ()) (r := ()) (tgt := 43) hX dX3_init_21 rfl (by decide) (fun h => by cases h) (fun _ => ?_)
  refine G_aload_n hX dX3_init_24 rfl ?_
  refine G_getR (i := 0) (t := 10) hX kA9 (Nat.le_of_ble_eq_true rfl) (Nat.le_of_ble_eq_true rfl) rfl (by decide +kernel) flX3_11 dX3_init_25 ?_
  refine G_iload_n hX dX3_init_28 rfl ?_
  refine G_newO (N := 5) hX noX3_9 kA35 (Nat.le_of_ble_eq_true rfl) (fun i => (hz 35 (Nat.le_of_ble_eq_true rfl)).1 i) (Pt_fresh (by decide +kernel)) (by rw [hc.1]; exact (Nat.le_of_ble_eq_true rfl)) (by rw [hc.2]; exact (Nat.le_of_ble_eq_true rfl)) dX3_init_29 ?_
  refine G_dup hX dX3_init_32 rfl ?_
  refine G_callIN (mc := 2) (ms := 80) (u' := u) hX cinX3_17 (cX0 w kA35 (by decide +kernel) (by decide +kernel) (fun k hk => hz k (Nat.le_trans (Nat.le_of_ble_eq_true rfl) hk))) (Nat.le_of_ble_eq_true rfl) (Nat.le_of_ble_eq_true rfl) dX3_init_33 ⟨by rw [hc.1]; exact (Nat.le_of_ble_eq_true rfl), by rw [hc.2]; exact (Nat.le_of_ble_eq_true rfl)⟩ ?_
  refine G_aastCt (j := 8) hX kA10 lA10 (Nat.le_of_ble_eq_true rfl) kA35 (Nat.le_of_ble_eq_true rfl) (by decide) rfl (by decide +kernel) (by decide +kernel) dX3_init_36 ?_
  refine G_iinc (v := 9) (lv' := [some (.ref 9), some (.int 9)]) hX dX3_init_37 rfl (by decide) rfl (Nat.le_of_ble_eq_true rfl) rfl ?_
  refine G_goto (tgt := 15) hX dX3_init_40 rfl ?_
  refine G_iload_n hX dX3_init_15 rfl ?_
  refine G_aload_n hX dX3_init_16 rfl ?_
  refine G_getR (i := 0) (t := 10) hX kA9 (Nat.le_of_ble_eq_true rfl) (Nat.le_of_ble_eq_true rfl) rfl (by decide +kernel) flX3_11 dX3_init_17 ?_
  refine G_alenC (n := 24) (v := 24) hX kA10 lA10 (Nat.le_of_ble_eq_true rfl) dX3_init_20 rfl ?_
  refine G_icmp_ge (A := (none : Option Unit)) (B := some ()) (r := ()) (tgt := 43) hX dX3_init_21 rfl (by decide) (fun h => by cases h) (fun _ => ?_)
  refine G_aload_n hX dX3_init_24 rfl ?_
  refine G_getR (i := 0) (t := 10) hX kA9 (Nat.le_of_ble_eq_true rfl) (Nat.le_of_ble_eq_true rfl) rfl (by decide +kernel) flX3_11 dX3_init_25 ?_
  refine G_iload_n hX dX3_init_28 rfl ?_
  refine G_newO (N := 5) hX noX3_9 kA38 (Nat.le_of_ble_eq_true rfl) (fun i => (hz 38 (Nat.le_of_ble_eq_true rfl)).1 i) (Pt_fresh (by decide +kernel)) (by rw [hc.1]; exact (Nat.le_of_ble_eq_true rfl)) (by rw [hc.2]; exact (Nat.le_of_ble_eq_true rfl)) dX3_init_29 ?_
  refine G_dup hX dX3_init_32 rfl ?_
  refine G_callIN (mc := 2) (ms := 80) (u' := u) hX cinX3_17 (cX0 w kA38 (by decide +kernel) (by decide +kernel) (fun k hk => hz k (Nat.le_trans (Nat.le_of_ble_eq_true rfl) hk))) (Nat.le_of_ble_eq_true rfl) (Nat.le_of_ble_eq_true rfl) dX3_init_33 ⟨by rw [hc.1]; exact (Nat.le_of_ble_eq_true rfl), by rw [hc.2]; exact (Nat.le_of_ble_eq_true rfl)⟩ ?_
  refine G_aastCt (j := 9) hX kA10 lA10 (Nat.le_of_ble_eq_true rfl) kA38 (Nat.le_of_ble_eq_true rfl) (by decide) rfl (by decide +kernel) (by decide +kernel) dX3_init_36 ?_
  refine G_iinc (v := 10) (lv' := [some (.ref 9), some (.int 10)]) hX dX3_init_37 rfl (by decide) rfl (Nat.le_of_ble_eq_true rfl) rfl ?_
  refine G_goto (tgt := 15) hX dX3_init_40 rfl ?_
  refine G_iload_n hX dX3_init_15 rfl ?_
  refine G_aload_n hX dX3_init_16 rfl ?_
  refine G_getR (i := 0) (t := 10) hX kA9 (Nat.le_of_ble_eq_true rfl) (Nat.le_of_ble_eq_true rfl) rfl (by decide +kernel) flX3_11 dX3_init_17 ?_
  refine G_alenC (n := 24) (v := 24) hX kA10 lA10 (Nat.le_of_ble_eq_true rfl) dX3_init_20 rfl ?_
  refine G_icmp_ge (A := (none : Option Unit)) (B := some ()) (r := ()) (tgt := 43) hX dX3_init_21 rfl (by decide) (fun h => by cases h) (fun _ => ?_)
  refine G_aload_n hX dX3_init_24 rfl ?_
  refine G_getR (i := 0) (t := 10) hX kA9 (Nat.le_of_ble_eq_true rfl) (Nat.le_of_ble_eq_true rfl) rfl (by decide +kernel) flX3_11 dX3_init_25 ?_
  refine G_iload_n hX dX3_init_28 rfl ?_
  refine G_newO (N := 5) hX noX3_9 kA41 (Nat.le_of_ble_eq_true rfl) (fun i => (hz 41 (Nat.le_of_ble_eq_true rfl)).1 i) (Pt_fresh (by decide +kernel)) (by rw [hc.1]; exact (Nat.le_of_ble_eq_true rfl)) (by rw [hc.2]; exact (Nat.le_of_ble_eq_true rfl)) dX3_init_29 ?_
  refine G_dup hX dX3_init_32 rfl ?_
  refine G_callIN (mc := 2) (ms := 80) (u' := u) hX cinX3_17 (cX0 w kA41 (by decide +kernel) (by decide +kernel) (fun k hk => hz k (Nat.le_trans (Nat.le_of_ble_eq_true rfl) hk))) (Nat.le_of_ble_eq_true rfl) (Nat.le_of_ble_eq_true rfl) dX3_init_33 ⟨by rw [hc.1]; exact (Nat.le_of_ble_eq_true rfl), by rw [hc.2]; exact (Nat.le_of_ble_eq_true rfl)⟩ ?_
  refine G_aastCt (j := 10) hX kA10 lA10 (Nat.le_of_ble_eq_true rfl) kA41 (Nat.le_of_ble_eq_true rfl) (by decide) rfl (by decide +kernel) (by decide +kernel) dX3_init_36 ?_
  refine G_iinc (v := 11) (lv' := [some (.ref 9), some (.int 11)]) hX dX3_init_37 rfl (by decide) rfl (Nat.le_of_ble_eq_true rfl) rfl ?_
  refine G_goto (tgt := 15) hX dX3_init_40 rfl ?_
  refine G_iload_n hX dX3_init_15 rfl ?_
  refine G_aload_n hX dX3_init_16 rfl ?_
  refine G_getR (i := 0) (t := 10) hX kA9 (Nat.le_of_ble_eq_true rfl) (Nat.le_of_ble_eq_true rfl) rfl (by decide +kernel) flX3_11 dX3_init_17 ?_
  refine G_alenC (n := 24) (v := 24) hX kA10 lA10 (Nat.le_of_ble_eq_true rfl) dX3_init_20 rfl ?_
  refine G_icmp_ge (A := (none : Option Unit)) (B := some ()) (r := ()) (tgt := 43) hX dX3_init_21 rfl (by decide) (fun h => by cases h) (fun _ => ?_)
  refine G_aload_n hX dX3_init_24 rfl ?_
  refine G_getR (i := 0) (t := 10) hX kA9 (Nat.le_of_ble_eq_true rfl) (Nat.le_of_ble_eq_true rfl) rfl (by decide +kernel) flX3_11 dX3_init_25 ?_
  refine G_iload_n hX dX3_init_28 rfl ?_
  refine G_newO (N := 5) hX noX3_9 kA44 (Nat.le_of_ble_eq_true rfl) (fun i => (hz 44 (Nat.le_of_ble_eq_true rfl)).1 i) (Pt_fresh (by decide +kernel)) (by rw [hc.1]; exact (Nat.le_of_ble_eq_true rfl)) (by rw [hc.2]; exact (Nat.le_of_ble_eq_true rfl)) dX3_init_29 ?_
  refine G_dup hX dX3_init_32 rfl ?_
  refine G_callIN (mc := 2) (ms := 80) (u' := u) hX cinX3_17 (cX0 w kA44 (by decide +kernel) (by decide +kernel) (fun k hk => hz k (Nat.le_trans (Nat.le_of_ble_eq_true rfl) hk))) (Nat.le_of_ble_eq_true rfl) (Nat.le_of_ble_eq_true rfl) dX3_init_33 ⟨by rw [hc.1]; exact (Nat.le_of_ble_eq_true rfl), by rw [hc.2]; exact (Nat.le_of_ble_eq_true rfl)⟩ ?_
  refine G_aastCt (j := 11) hX kA10 lA10 (Nat.le_of_ble_eq_true rfl) kA44 (Nat.le_of_ble_eq_true rfl) (by decide) rfl (by decide +kernel) (by decide +kernel) dX3_init_36 ?_
  refine G_iinc (v := 12) (lv' := [some (.ref 9), some (.int 12)]) hX dX3_init_37 rfl (by decide) rfl (Nat.le_of_ble_eq_true rfl) rfl ?_
  refine G_goto (tgt := 15) hX dX3_init_40 rfl ?_
  refine G_iload_n hX dX3_init_15 rfl ?_
  refine G_aload_n hX dX3_init_16 rfl ?_
  refine G_getR (i := 0) (t := 10) hX kA9 (Nat.le_of_ble_eq_true rfl) (Nat.le_of_ble_eq_true rfl) rfl (by decide +kernel) flX3_11 dX3_init_17 ?_
  refine G_alenC (n := 24) (v := 24) hX kA10 lA10 (Nat.le_of_ble_eq_true rfl) dX3_init_20 rfl ?_
  refine G_icmp_ge (A := (none : Option Unit)) (B := some ()) (r := ()) (tgt := 43) hX dX3_init_21 rfl (by decide) (fun h => by cases h) (fun _ => ?_)
  refine G_aload_n hX dX3_init_24 rfl ?_
  refine G_getR (i := 0) (t := 10) hX kA9 (Nat.le_of_ble_eq_true rfl) (Nat.le_of_ble_eq_true rfl) rfl (by decide +kernel) flX3_11 dX3_init_25 ?_
  refine G_iload_n hX dX3_init_28 rfl ?_
  refine G_newO (N := 5) hX noX3_9 kA47 (Nat.le_of_ble_eq_true rfl) (fun i => (hz 47 (Nat.le_of_ble_eq_true rfl)).1 i) (Pt_fresh (by decide +kernel)) (by rw [hc.1]; exact (Nat.le_of_ble_eq_true rfl)) (by rw [hc.2]; exact (Nat.le_of_ble_eq_true rfl)) dX3_init_29 ?_
  refine G_dup hX dX3_init_32 rfl ?_
  refine G_callIN (mc := 2) (ms := 80) (u' := u) hX cinX3_17 (cX0 w kA47 (by decide +kernel) (by decide +kernel) (fun k hk => hz k (Nat.le_trans (Nat.le_of_ble_eq_true rfl) hk))) (Nat.le_of_ble_eq_true rfl) (Nat.le_of_ble_eq_true rfl) dX3_init_33 ⟨by rw [hc.1]; exact (Nat.le_of_ble_eq_true rfl), by rw [hc.2]; exact (Nat.le_of_ble_eq_true rfl)⟩ ?_
  refine G_aastCt (j := 12) hX kA10 lA10 (Nat.le_of_ble_eq_true rfl) kA47 (Nat.le_of_ble_eq_true rfl) (by decide) rfl (by decide +kernel) (by decide +kernel) dX3_init_36 ?_
  refine G_iinc (v := 13) (lv' := [some (.ref 9), some (.int 13)]) hX dX3_init_37 rfl (by decide) rfl (Nat.le_of_ble_eq_true rfl) rfl ?_
  refine G_goto (tgt := 15) hX dX3_init_40 rfl ?_
  refine G_iload_n hX dX3_init_15 rfl ?_
  refine G_aload_n hX dX3_init_16 rfl ?_
  refine G_getR (i := 0) (t := 10) hX kA9 (Nat.le_of_ble_eq_true rfl) (Nat.le_of_ble_eq_true rfl) rfl (by decide +kernel) flX3_11 dX3_init_17 ?_
  refine G_alenC (n := 24) (v := 24) hX kA10 lA10 (Nat.le_of_ble_eq_true rfl) dX3_init_20 rfl ?_
  refine G_icmp_ge (A := (none : Option Unit)) (B := some ()) (r := ()) (tgt := 43) hX dX3_init_21 rfl (by decide) (fun h => by cases h) (fun _ => ?_)
  refine G_aload_n hX dX3_init_24 rfl ?_
  refine G_getR (i := 0) (t := 10) hX kA9 (Nat.le_of_ble_eq_true rfl) (Nat.le_of_ble_eq_true rfl) rfl (by decide +kernel) flX3_11 dX3_init_25 ?_
  refine G_iload_n hX dX3_init_28 rfl ?_
  refine G_newO (N := 5) hX noX3_9 kA50 (Nat.le_of_ble_eq_true rfl) (fun i => (hz 50 (Nat.le_of_ble_eq_true rfl)).1 i) (Pt_fresh (by decide +kernel)) (by rw [hc.1]; exact (Nat.le_of_ble_eq_true rfl)) (by rw [hc.2]; exact (Nat.le_of_ble_eq_true rfl)) dX3_init_29 ?_
  refine G_dup hX dX3_init_32 rfl ?_
  refine G_callIN (mc := 2) (ms := 80) (u' := u) hX cinX3_17 (cX0 w kA50 (by decide +kernel) (by decide +kernel) (fun k hk => hz k (Nat.le_trans (Nat.le_of_ble_eq_true rfl) hk))) (Nat.le_of_ble_eq_true rfl) (Nat.le_of_ble_eq_true rfl) dX3_init_33 ⟨by rw [hc.1]; exact (Nat.le_of_ble_eq_true rfl), by rw [hc.2]; exact (Nat.le_of_ble_eq_true rfl)⟩ ?_
  refine G_aastCt (j := 13) hX kA10 lA10 (Nat.le_of_ble_eq_true rfl) kA50 (Nat.le_of_ble_eq_true rfl) (by decide) rfl (by decide +kernel) (by decide +kernel) dX3_init_36 ?_
  refine G_iinc (v := 14) (lv' := [some (.ref 9), some (.int 14)]) hX dX3_init_37 rfl (by decide) rfl (Nat.le_of_ble_eq_true rfl) rfl ?_
  refine G_goto (tgt := 15) hX dX3_init_40 rfl ?_
  refine G_iload_n hX dX3_init_15 rfl ?_
  refine G_aload_n hX dX3_init_16 rfl ?_
  refine G_getR (i := 0) (t := 10) hX kA9 (Nat.le_of_ble_eq_true rfl) (Nat.le_of_ble_eq_true rfl) rfl (by decide +kernel) flX3_11 dX3_init_17 ?_
  refine G_alenC (n := 24) (v := 24) hX kA10 lA10 (Nat.le_of_ble_eq_true rfl) dX3_init_20 rfl ?_
  refine G_icmp_ge (A := (none : Option Unit)) (B := some ()) (r := ()) (tgt := 43) hX dX3_init_21 rfl (by decide) (fun h => by cases h) (fun _ => ?_)
  refine G_aload_n hX dX3_init_24 rfl ?_
  refine G_getR (i := 0) (t := 10) hX kA9 (Nat.le_of_ble_eq_true rfl) (Nat.le_of_ble_eq_true rfl) rfl (by decide +kernel) flX3_11 dX3_init_25 ?_
  refine G_iload_n hX dX3_init_28 rfl ?_
  refine G_newO (N := 5) hX noX3_9 kA53 (Nat.le_of_ble_eq_true rfl) (fun i => (hz 53 (Nat.le_of_ble_eq_true rfl)).1 i) (Pt_fresh (by decide +kernel)) (by rw [hc.1]; exact (Nat.le_of_ble_eq_true rfl)) (by rw [hc.2]; exact (Nat.le_of_ble_eq_true rfl)) dX3_init_29 ?_
  refine G_dup hX dX3_init_32 rfl ?_
  refine G_callIN (mc := 2) (ms := 80) (u' := u) hX cinX3_17 (cX0 w kA53 (by decide +kernel) (by decide +kernel) (fun k hk => hz k (Nat.le_trans (Nat.le_of_ble_eq_true rfl) hk))) (Nat.le_of_ble_eq_true rfl) (Nat.le_of_ble_eq_true rfl) dX3_init_33 ⟨by rw [hc.1]; exact (Nat.le_of_ble_eq_true rfl), by rw [hc.2]; exact (Nat.le_of_ble_eq_true rfl)⟩ ?_
  refine G_aastCt (j := 14) hX kA10 lA10 (Nat.le_of_ble_eq_true rfl) kA53 (Nat.le_of_ble_eq_true rfl) (by decide) rfl (by decide +kernel) (by decide +kernel) dX3_init_36 ?_
  refine G_iinc (v := 15) (lv' := [some (.ref 9), some (.int 15)]) hX dX3_init_37 rfl (by decide) rfl (Nat.le_of_ble_eq_true rfl) rfl ?_
  refine G_goto (tgt := 15) hX dX3_init_40 rfl ?_
  refine G_iload_n hX dX3_init_15 rfl ?_
  refine G_aload_n hX dX3_init_16 rfl ?_
  refine G_getR (i := 0) (t := 10) hX kA9 (Nat.le_of_ble_eq_true rfl) (Nat.le_of_ble_eq_true rfl) rfl (by decide +kernel) flX3_11 dX3_init_17 ?_
  refine G_alenC (n := 24) (v := 24) hX kA10 lA10 (Nat.le_of_ble_eq_true rfl) dX3_init_20 rfl ?_
  refine G_icmp_ge (A := (none : Option Unit)) (B := some ()) (r := ()) (tgt := 43) hX dX3_init_21 rfl (by decide) (fun h => by cases h) (fun _ => ?_)
  refine G_aload_n hX dX3_init_24 rfl ?_
  refine G_getR (i := 0) (t := 10) hX kA9 (Nat.le_of_ble_eq_true rfl) (Nat.le_of_ble_eq_true rfl) rfl (by decide +kernel) flX3_11 dX3_init_25 ?_
  refine G_iload_n hX dX3_init_28 rfl ?_
  refine G_newO (N := 5) hX noX3_9 kA56 (Nat.le_of_ble_eq_true rfl) (fun i => (hz 56 (Nat.le_of_ble_eq_true rfl)).1 i) (Pt_fresh (by decide +kernel)) (by rw [hc.1]; exact (Nat.le_of_ble_eq_true rfl)) (by rw [hc.2]; exact (Nat.le_of_ble_eq_true rfl)) dX3_init_29 ?_
  refine G_dup hX dX3_init_32 rfl ?_
  refine G_callIN (mc := 2) (ms := 80) (u' := u) hX cinX3_17 (cX0 w kA56 (by decide +kernel) (by decide +kernel) (fun k hk => hz k (Nat.le_trans (Nat.le_of_ble_eq_true rfl) hk))) (Nat.le_of_ble_eq_true rfl) (Nat.le_of_ble_eq_true rfl) dX3_init_33 ⟨by rw [hc.1]; exact (Nat.le_of_ble_eq_true rfl), by rw [hc.2]; exact (Nat.le_of_ble_eq_true rfl)⟩ ?_
  refine G_aastCt (j := 15) hX kA10 lA10 (Nat.le_of_ble_eq_true rfl) kA56 (Nat.le_of_ble_eq_true rfl) (by decide) rfl (by decide +kernel) (by decide +kernel) dX3_init_36 ?_
  refine G_iinc (v := 16) (lv' := [some (.ref 9), some (.int 16)]) hX dX3_init_37 rfl (by decide) rfl (Nat.le_of_ble_eq_true rfl) rfl ?_
  refine G_goto (tgt := 15) hX dX3_init_40 rfl ?_
  refine G_iload_n hX dX3_init_15 rfl ?_
  refine G_aload_n hX dX3_init_16 rfl ?_
  refine G_getR (i := 0) (t := 10) hX kA9 (Nat.le_of_ble_eq_true rfl) (Nat.le_of_ble_eq_true rfl) rfl (by decide +kernel) flX3_11 dX3_init_17 ?_
  refine G_alenC (n := 24) (v := 24) hX kA10 lA10 (Nat.le_of_ble_eq_true rfl) dX3_init_20 rfl ?_
  refine G_icmp_ge (A := (none : Option Unit)) (B := some ()) (r := ()) (tgt := 43) hX dX3_init_21 rfl (by decide) (fun h => by cases h) (fun _ => ?_)
  refine G_aload_n hX dX3_init_24 rfl ?_
  refine G_getR (i := 0) (t := 10) hX kA9 (Nat.le_of_ble_eq_true rfl) (Nat.le_of_ble_eq_true rfl) rfl (by decide +kernel) flX3_11 dX3_init_25 ?_
  refine G_iload_n hX dX3_init_28 rfl ?_
  refine G_newO (N := 5) hX noX3_9 kA59 (Nat.le_of_ble_eq_true rfl) (fun i => (hz 59 (Nat.le_of_ble_eq_true rfl)).1 i) (Pt_fresh (by decide +kernel)) (by rw [hc.1]; exact (Nat.le_of_ble_eq_true rfl)) (by rw [hc.2]; exact (Nat.le_of_ble_eq_true rfl)) dX3_init_29 ?_
  refine G_dup hX dX3_init_32 rfl ?_
  refine G_callIN (mc := 2) (ms := 80) (u' := u) hX cinX3_17 (cX0 w kA59 (by decide +kernel) (by decide +kernel) (fun k hk => hz k (Nat.le_trans (Nat.le_of_ble_eq_true rfl) hk))) (Nat.le_of_ble_eq_true rfl) (Nat.le_of_ble_eq_true rfl) dX3_init_33 ⟨by rw [hc.1]; exact (Nat.le_of_ble_eq_true rfl), by rw [hc.2]; exact (Nat.le_of_ble_eq_true rfl)⟩ ?_
  refine G_aastCt (j := 16) hX kA10 lA10 (Nat.le_of_ble_eq_true rfl) kA59 (Nat.le_of_ble_eq_true rfl) (by decide) rfl (by decide +kernel) (by decide +kernel) dX3_init_36 ?_
  refine G_iinc (v := 17) (lv' := [some (.ref 9), some (.int 17)]) hX dX3_init_37 rfl (by decide) rfl (Nat.le_of_ble_eq_true rfl) rfl ?_
  refine G_goto (tgt := 15) hX dX3_init_40 rfl ?_
  refine G_iload_n hX dX3_init_15 rfl ?_
  refine G_aload_n hX dX3_init_16 rfl ?_
  refine G_getR (i := 0) (t := 10) hX kA9 (Nat.le_of_ble_eq_true rfl) (Nat.le_of_ble_eq_true rfl) rfl (by decide +kernel) flX3_11 dX3_init_17 ?_
  refine G_alenC (n := 24) (v := 24) hX kA10 lA10 (Nat.le_of_ble_eq_true rfl) dX3_init_20 rfl ?_
  refine G_icmp_ge (A := (none : Option Unit)) (B := some ()) (r := ()) (tgt := 43) hX dX3_init_21 rfl (by decide) (fun h => by cases h) (fun _ => ?_)
  refine G_aload_n hX dX3_init_24 rfl ?_
  refine G_getR (i := 0) (t := 10) hX kA9 (Nat.le_of_ble_eq_true rfl) (Nat.le_of_ble_eq_true rfl) rfl (by decide +kernel) flX3_11 dX3_init_25 ?_
  refine G_iload_n hX dX3_init_28 rfl ?_
  refine G_newO (N := 5) hX noX3_9 kA62 (Nat.le_of_ble_eq_true rfl) (fun i => (hz 62 (Nat.le_of_ble_eq_true rfl)).1 i) (Pt_fresh (by decide +kernel)) (by rw [hc.1]; exact (Nat.le_of_ble_eq_true rfl)) (by rw [hc.2]; exact (Nat.le_of_ble_eq_true rfl)) dX3_init_29 ?_
  refine G_dup hX dX3_init_32 rfl ?_
  refine G_callIN (mc := 2) (ms := 80) (u' := u) hX cinX3_17 (cX0 w kA62 (by decide +kernel) (by decide +kernel) (fun k hk => hz k (Nat.le_trans (Nat.le_of_ble_eq_true rfl) hk))) (Nat.le_of_ble_eq_true rfl) (Nat.le_of_ble_eq_true rfl) dX3_init_33 ⟨by rw [hc.1]; exact (Nat.le_of_ble_eq_true rfl), by rw [hc.2]; exact (Nat.le_of_ble_eq_true rfl)⟩ ?_
  refine G_aastCt (j := 17) hX kA10 lA10 (Nat.le_of_ble_eq_true rfl) kA62 (Nat.le_of_ble_eq_true rfl) (by decide) rfl (by decide +kernel) (by decide +kernel) dX3_init_36 ?_
  refine G_iinc (v := 18) (lv' := [some (.ref 9), some (.int 18)]) hX dX3_init_37 rfl (by decide) rfl (Nat.le_of_ble_eq_true rfl) rfl ?_
  refine G_goto (tgt := 15) hX dX3_init_40 rfl ?_
  refine G_iload_n hX dX3_init_15 rfl ?_
  refine G_aload_n hX dX3_init_16 rfl ?_
  refine G_getR (i := 0) (t := 10) hX kA9 (Nat.le_of_ble_eq_true rfl) (Nat.le_of_ble_eq_true rfl) rfl (by decide +kernel) flX3_11 dX3_init_17 ?_
  refine G_alenC (n := 24) (v := 24) hX kA10 lA10 (Nat.le_of_ble_eq_true rfl) dX3_init_20 rfl ?_
  refine G_icmp_ge (A := (none : Option Unit)) (B := some ()) (r := ()) (tgt := 43) hX dX3_init_21 rfl (by decide) (fun h => by cases h) (fun _ => ?_)
  refine G_aload_n hX dX3_init_24 rfl ?_
  refine G_getR (i := 0) (t := 10) hX kA9 (Nat.le_of_ble_eq_true rfl) (Nat.le_of_ble_eq_true rfl) rfl (by decide +kernel) flX3_11 dX3_init_25 ?_
  refine G_iload_n hX dX3_init_28 rfl ?_
  refine G_newO (N := 5) hX noX3_9 kA65 (Nat.le_of_ble_eq_true rfl) (fun i => (hz 65 (Nat.le_of_ble_eq_true rfl)).1 i) (Pt_fresh (by decide +kernel)) (by rw [hc.1]; exact (Nat.le_of_ble_eq_true rfl)) (by rw [hc.2]; exact (Nat.le_of_ble_eq_true rfl)) dX3_init_29 ?_
  refine G_dup hX dX3_init_32 rfl ?_
  refine G_callIN (mc := 2) (ms := 80) (u' := u) hX cinX3_17 (cX0 w kA65 (by decide +kernel) (by decide +kernel) (fun k hk => hz k (Nat.le_trans (Nat.le_of_ble_eq_true rfl) hk))) (Nat.le_of_ble_eq_true rfl) (Nat.le_of_ble_eq_true rfl) dX3_init_33 ⟨by rw [hc.1]; exact (Nat.le_of_ble_eq_true rfl), by rw [hc.2]; exact (Nat.le_of_ble_eq_true rfl)⟩ ?_
  refine G_aastCt (j := 18) hX kA10 lA10 (Nat.le_of_ble_eq_true rfl) kA65 (Nat.le_of_ble_eq_true rfl) (by decide) rfl (by decide +kernel) (by decide +kernel) dX3_init_36 ?_
  refine G_iinc (v := 19) (lv' := [some (.ref 9), some (.int 19)]) hX dX3_init_37 rfl (by decide) rfl (Nat.le_of_ble_eq_true rfl) rfl ?_
  refine G_goto (tgt := 15) hX dX3_init_40 rfl ?_
  refine G_iload_n hX dX3_init_15 rfl ?_
  refine G_aload_n hX dX3_init_16 rfl ?_
  refine G_getR (i := 0) (t := 10) hX kA9 (Nat.le_of_ble_eq_true rfl) (Nat.le_of_ble_eq_true rfl) rfl (by decide +kernel) flX3_11 dX3_init_17 ?_
  refine G_alenC (n := 24) (v := 24) hX kA10 lA10 (Nat.le_of_ble_eq_true rfl) dX3_init_20 rfl ?_
  refine G_icmp_ge (A := (none : Option Unit)) (B := some ()) (r := ()) (tgt := 43) hX dX3_init_21 rfl (by decide) (fun h => by cases h) (fun _ => ?_)
  refine G_aload_n hX dX3_init_24 rfl ?_
  refine G_getR (i := 0) (t := 10) hX kA9 (Nat.le_of_ble_eq_true rfl) (Nat.le_of_ble_eq_true rfl) rfl (by decide +kernel) flX3_11 dX3_init_25 ?_
  refine G_iload_n hX dX3_init_28 rfl ?_
  refine G_newO (N := 5) hX noX3_9 kA68 (Nat.le_of_ble_eq_true rfl) (fun i => (hz 68 (Nat.le_of_ble_eq_true rfl)).1 i) (Pt_fresh (by decide +kernel)) (by rw [hc.1]; exact (Nat.le_of_ble_eq_true rfl)) (by rw [hc.2]; exact (Nat.le_of_ble_eq_true rfl)) dX3_init_29 ?_
  refine G_dup hX dX3_init_32 rfl ?_
  refine G_callIN (mc := 2) (ms := 80) (u' := u) hX cinX3_17 (cX0 w kA68 (by decide +kernel) (by decide +kernel) (fun k hk => hz k (Nat.le_trans (Nat.le_of_ble_eq_true rfl) hk))) (Nat.le_of_ble_eq_true rfl) (Nat.le_of_ble_eq_true rfl) dX3_init_33 ⟨by rw [hc.1]; exact (Nat.le_of_ble_eq_true rfl), by rw [hc.2]; exact (Nat.le_of_ble_eq_true rfl)⟩ ?_
  refine G_aastCt (j := 19) hX kA10 lA10 (Nat.le_of_ble_eq_true rfl) kA68 (Nat.le_of_ble_eq_true rfl) (by decide) rfl (by decide +kernel) (by decide +kernel) dX3_init_36 ?_
  refine G_iinc (v := 20) (lv' := [some (.ref 9), some (.int 20)]) hX dX3_init_37 rfl (by decide) rfl (Nat.le_of_ble_eq_true rfl) rfl ?_
  refine G_goto (tgt := 15) hX dX3_init_40 rfl ?_
  refine G_iload_n hX dX3_init_15 rfl ?_
  refine G_aload_n hX dX3_init_16 rfl ?_
  refine G_getR (i := 0) (t := 10) hX kA9 (Nat.le_of_ble_eq_true rfl) (Nat.le_of_ble_eq_true rfl) rfl (by decide +kernel) flX3_11 dX3_init_17 ?_
  refine G_alenC (n := 24) (v := 24) hX kA10 lA10 (Nat.le_of_ble_eq_true rfl) dX3_init_20 rfl ?_
  refine G_icmp_ge (A := (none : Option Unit)) (B := some ()) (r := ()) (tgt := 43) hX dX3_init_21 rfl (by decide) (fun h => by cases h) (fun _ => ?_)
  refine G_aload_n hX dX3_init_24 rfl ?_
  refine G_getR (i := 0) (t := 10) hX kA9 (Nat.le_of_ble_eq_true rfl) (Nat.le_of_ble_eq_true rfl) rfl (by decide +kernel) flX3_11 dX3_init_25 ?_
  refine G_iload_n hX dX3_init_28 rfl ?_
  refine G_newO (N := 5) hX noX3_9 kA71 (Nat.le_of_ble_eq_true rfl) (fun i => (hz 71 (Nat.le_of_ble_eq_true rfl)).1 i) (Pt_fresh (by decide +kernel)) (by rw [hc.1]; exact (Nat.le_of_ble_eq_true rfl)) (by rw [hc.2]; exact (Nat.le_of_ble_eq_true rfl)) dX3_init_29 ?_
  refine G_dup hX dX3_init_32 rfl ?_
  refine G_callIN (mc := 2) (ms := 80) (u' := u) hX cinX3_17 (cX0 w kA71 (by decide +kernel) (by decide +kernel) (fun k hk => hz k (Nat.le_trans (Nat.le_of_ble_eq_true rfl) hk))) (Nat.le_of_ble_eq_true rfl) (Nat.le_of_ble_eq_true rfl) dX3_init_33 ⟨by rw [hc.1]; exact (Nat.le_of_ble_eq_true rfl), by rw [hc.2]; exact (Nat.le_of_ble_eq_true rfl)⟩ ?_
  refine G_aastCt (j := 20) hX kA10 lA10 (Nat.le_of_ble_eq_true rfl) kA71 (Nat.le_of_ble_eq_true rfl) (by decide) rfl (by decide +kernel) (by decide +kernel) dX3_init_36 ?_
  refine G_iinc (v := 21) (lv' := [some (.ref 9), some (.int 21)]) hX dX3_init_37 rfl (by decide) rfl (Nat.le_of_ble_eq_true rfl) rfl ?_
  refine G_goto (tgt := 15) hX dX3_init_40 rfl ?_
  refine G_iload_n hX dX3_init_15 rfl ?_
  refine G_aload_n hX dX3_init_16 rfl ?_
  refine G_getR (i := 0) (t := 10) hX kA9 (Nat.le_of_ble_eq_true rfl) (Nat.le_of_ble_eq_true rfl) rfl (by decide +kernel) flX3_11 dX3_init_17 ?_
  refine G_alenC (n := 24) (v := 24) hX kA10 lA10 (Nat.le_of_ble_eq_true rfl) dX3_init_20 rfl ?_
  refine G_icmp_ge (A := (none : Option Unit)) (B := some ()) (r := ()) (tgt := 43) hX dX3_init_21 rfl (by decide) (fun h => by cases h) (fun _ => ?_)
  refine G_aload_n hX dX3_init_24 rfl ?_
  refine G_getR (i := 0) (t := 10) hX kA9 (Nat.le_of_ble_eq_true rfl) (Nat.le_of_ble_eq_true rfl) rfl (by decide +kernel) flX3_11 dX3_init_25 ?_
  refine G_iload_n hX dX3_init_28 rfl ?_
  refine G_newO (N := 5) hX noX3_9 kA74 (Nat.le_of_ble_eq_true rfl) (fun i => (hz 74 (Nat.le_of_ble_eq_true rfl)).1 i) (Pt_fresh (by decide +kernel)) (by rw [hc.1]; exact (Nat.le_of_ble_eq_true rfl)) (by rw [hc.2]; exact (Nat.le_of_ble_eq_true rfl)) dX3_init_29 ?_
  refine G_dup hX dX3_init_32 rfl ?_
  refine G_callIN (mc := 2) (ms := 80) (u' := u) hX cinX3_17 (cX0 w kA74 (by decide +kernel) (by decide +kernel) (fun k hk => hz k (Nat.le_trans (Nat.le_of_ble_eq_true rfl) hk))) (Nat.le_of_ble_eq_true rfl) (Nat.le_of_ble_eq_true rfl) dX3_init_33 ⟨by rw [hc.1]; exact (Nat.le_of_ble_eq_true rfl), by rw [hc.2]; exact (Nat.le_of_ble_eq_true rfl)⟩ ?_
  refine G_aastCt (j := 21) hX kA10 lA10 (Nat.le_of_ble_eq_true rfl) kA74 (Nat.le_of_ble_eq_true rfl) (by decide) rfl (by decide +kernel) (by decide +kernel) dX3_init_36 ?_
  refine G_iinc (v := 22) (lv' := [some (.ref 9), some (.int 22)]) hX dX3_init_37 rfl (by decide) rfl (Nat.le_of_ble_eq_true rfl) rfl ?_
  refine G_goto (tgt := 15) hX dX3_init_40 rfl ?_
  refine G_iload_n hX dX3_init_15 rfl ?_
  refine G_aload_n hX dX3_init_16 rfl ?_
  refine G_getR (i := 0) (t := 10) hX kA9 (Nat.le_of_ble_eq_true rfl) (Nat.le_of_ble_eq_true rfl) rfl (by decide +kernel) flX3_11 dX3_init_17 ?_
  refine G_alenC (n := 24) (v := 24) hX kA10 lA10 (Nat.le_of_ble_eq_true rfl) dX3_init_20 rfl ?_
  refine G_icmp_ge (A := (none : Option Unit)) (B := some ()) (r := ()) (tgt := 43) hX dX3_init_21 rfl (by decide) (fun h => by cases h) (fun _ => ?_)
  refine G_aload_n hX dX3_init_24 rfl ?_
  refine G_getR (i := 0) (t := 10) hX kA9 (Nat.le_of_ble_eq_true rfl) (Nat.le_of_ble_eq_true rfl) rfl (by decide +kernel) flX3_11 dX3_init_25 ?_
  refine G_iload_n hX dX3_init_28 rfl ?_
  refine G_newO (N := 5) hX noX3_9 kA77 (Nat.le_of_ble_eq_true rfl) (fun i => (hz 77 (Nat.le_of_ble_eq_true rfl)).1 i) (Pt_fresh (by decide +kernel)) (by rw [hc.1]; exact (Nat.le_of_ble_eq_true rfl)) (by rw [hc.2]; exact (Nat.le_of_ble_eq_true rfl)) dX3_init_29 ?_
  refine G_dup hX dX3_init_32 rfl ?_
  refine G_callIN (mc := 2) (ms := 80) (u' := u) hX cinX3_17 (cX0 w kA77 (by decide +kernel) (by decide +kernel) (fun k hk => hz k (Nat.le_trans (Nat.le_of_ble_eq_true rfl) hk))) (Nat.le_of_ble_eq_true rfl) (Nat.le_of_ble_eq_true rfl) dX3_init_33 ⟨by rw [hc.1]; exact (Nat.le_of_ble_eq_true rfl), by rw [hc.2]; exact (Nat.le_of_ble_eq_true rfl)⟩ ?_
  refine G_aastCt (j := 22) hX kA10 lA10 (Nat.le_of_ble_eq_true rfl) kA77 (Nat.le_of_ble_eq_true rfl) (by decide) rfl (by decide +kernel) (by decide +kernel) dX3_init_36 ?_
  refine G_iinc (v := 23) (lv' := [some (.ref 9), some (.int 23)]) hX dX3_init_37 rfl (by decide) rfl (Nat.le_of_ble_eq_true rfl) rfl ?_
  refine G_goto (tgt := 15) hX dX3_init_40 rfl ?_
  refine G_iload_n hX dX3_init_15 rfl ?_
  refine G_aload_n hX dX3_init_16 rfl ?_
  refine G_getR (i := 0) (t := 10) hX kA9 (Nat.le_of_ble_eq_true rfl) (Nat.le_of_ble_eq_true rfl) rfl (by decide +kernel) flX3_11 dX3_init_17 ?_
  refine G_alenC (n := 24) (v := 24) hX kA10 lA10 (Nat.le_of_ble_eq_true rfl) dX3_init_20 rfl ?_
  refine G_icmp_ge (A := (none : Option Unit)) (B := some ()) (r := ()) (tgt := 43) hX dX3_init_21 rfl (by decide) (fun h => by cases h) (fun _ => ?_)
  refine G_aload_n hX dX3_init_24 rfl ?_
  refine G_getR (i := 0) (t := 10) hX kA9 (Nat.le_of_ble_eq_true rfl) (Nat.le_of_ble_eq_true rfl) rfl (by decide +kernel) flX3_11 dX3_init_25 ?_
  refine G_iload_n hX dX3_init_28 rfl ?_
  refine G_newO (N := 5) hX noX3_9 kA80 (Nat.le_of_ble_eq_true rfl) (fun i => (hz 80 (Nat.le_of_ble_eq_true rfl)).1 i) (Pt_fresh (by decide +kernel)) (by rw [hc.1]; exact (Nat.le_of_ble_eq_true rfl)) (by rw [hc.2]; exact (Nat.le_of_ble_eq_true rfl)) dX3_init_29 ?_
  refine G_dup hX dX3_init_32 rfl ?_
  refine G_callIN (mc := 2) (ms := 80) (u' := u) hX cinX3_17 (cX0 w kA80 (by decide +kernel) (by decide +kernel) (fun k hk => hz k (Nat.le_trans (Nat.le_of_ble_eq_true rfl) hk))) (Nat.le_of_ble_eq_true rfl) (Nat.le_of_ble_eq_true rfl) dX3_init_33 ⟨by rw [hc.1]; exact (Nat.le_of_ble_eq_true rfl), by rw [hc.2]; exact (Nat.le_of_ble_eq_true rfl)⟩ ?_
  refine G_aastCt (j := 23) hX kA10 lA10 (Nat.le_of_ble_eq_true rfl) kA80 (Nat.le_of_ble_eq_true rfl) (by decide) rfl (by decide +kernel) (by decide +kernel) dX3_init_36 ?_
  refine G_iinc (v := 24) (lv' := [some (.ref 9), some (.int 24)]) hX dX3_init_37 rfl (by decide) rfl (Nat.le_of_ble_eq_true rfl) rfl ?_
  refine G_goto (tgt := 15) hX dX3_init_40 rfl ?_
  refine G_iload_n hX dX3_init_15 rfl ?_
  refine G_aload_n hX dX3_init_16 rfl ?_
  refine G_getR (i := 0) (t := 10) hX kA9 (Nat.le_of_ble_eq_true rfl) (Nat.le_of_ble_eq_true rfl) rfl (by decide +kernel) flX3_11 dX3_init_17 ?_
  refine G_alenC (n := 24) (v := 24) hX kA10 lA10 (Nat.le_of_ble_eq_true rfl) dX3_init_20 rfl ?_
  refine G_icmp_ge (A := some ()) (B := (none : Option Unit)) (r := ()) (tgt := 43) hX dX3_init_21 rfl (by decide) (fun _ => ?_) (fun h => by cases h)
  exact G_vret hX hR dX3_init_43
set_option maxHeartbeats 4000000 in
set_option maxRecDepth 100000 in
theorem cX2 (w : Wc) {u : Um} (hz : ZB u 100) : MCg w 1 qX2_init 3 632 (Pt 98) 100 (Pt 101) 103 true [.ref 99] u none u := by
  refine MC_intro pnX2 (Nat.le_of_ble_eq_true rfl) (fun X hX hR hc hin => ?_)
  have hX : OKc w X RX2 cX2_init 1 := hX
  have hR : RT w X none 3 632 (Pt 101) 103 true none u := hR
  refine G_eql (lv' := [some (.ref 99)]) rfl ?_
  refine G_aload_n hX dX2_init_0 rfl ?_
  refine G_objI hX coX2_3 (Nat.le_of_ble_eq_true rfl) (Nat.le_of_ble_eq_true rfl) dX2_init_1 ?_
  refine G_aload_n hX dX2_init_4 rfl ?_
  refine G_bipush (v := 48) hX dX2_init_5 rfl ?_
  refine G_newI hX kA100 lA100 (fun i => (hz 100 (Nat.le_of_ble_eq_true rfl)).1 i) wAI (by decide) (by decide) (Nat.le_of_ble_eq_true rfl) (by rw [hc.1]; exact (Nat.le_of_ble_eq_true rfl)) (by rw [hc.2]; exact (Nat.le_of_ble_eq_true rfl)) dX2_init_7 ?_
  refine G_putRt (i := 0) hX kA99 (Nat.le_of_ble_eq_true rfl) (Nat.le_of_ble_eq_true rfl) rfl flX2_9 frX2_0 hin (by decide +kernel) (by decide +kernel) dX2_init_9 ?_
  refine G_aload_n hX dX2_init_12 rfl ?_
  refine G_sipush (v := 576) hX dX2_init_13 rfl ?_
  refine G_newI hX kA101 lA101 (fun i => (hz 101 (Nat.le_of_ble_eq_true rfl)).1 i) wAI (by decide) (by decide) (Nat.le_of_ble_eq_true rfl) (by rw [hc.1]; exact (Nat.le_of_ble_eq_true rfl)) (by rw [hc.2]; exact (Nat.le_of_ble_eq_true rfl)) dX2_init_16 ?_
  refine G_putRt (i := 1) hX kA99 (Nat.le_of_ble_eq_true rfl) (Nat.le_of_ble_eq_true rfl) rfl flX2_15 frX2_1 hin (by decide +kernel) (by decide +kernel) dX2_init_18 ?_
  refine G_aload_n hX dX2_init_21 rfl ?_
  refine G_bipush (v := 8) hX dX2_init_22 rfl ?_
  refine G_newI hX kA102 lA102 (fun i => (hz 102 (Nat.le_of_ble_eq_true rfl)).1 i) wAI (by decide) (by decide) (Nat.le_of_ble_eq_true rfl) (by rw [hc.1]; exact (Nat.le_of_ble_eq_true rfl)) (by rw [hc.2]; exact (Nat.le_of_ble_eq_true rfl)) dX2_init_24 ?_
  refine G_putRt (i := 2) hX kA99 (Nat.le_of_ble_eq_true rfl) (Nat.le_of_ble_eq_true rfl) rfl flX2_18 frX2_2 hin (by decide +kernel) (by decide +kernel) dX2_init_26 ?_
  exact G_vret hX hR dX2_init_29
set_option maxHeartbeats 4000000 in
set_option maxRecDepth 100000 in
theorem cX4 (w : Wc) {u : Um} (hz : ZB u 104) : MCg w 2 qX4_init 11 270 (Pt 102) 104 (Pt 113) 115 true [.ref 103] u none u := by
  refine MC_intro pnX4 (Nat.le_of_ble_eq_true rfl) (fun X hX hR hc hin => ?_)
  have hX : OKc w X RX4 cX4_init 2 := hX
  have hR : RT w X none 11 270 (Pt 113) 115 true none u := hR
  refine G_eql (lv' := [some (.ref 103)]) rfl ?_
  refine G_aload_n hX dX4_init_0 rfl ?_
  refine G_objI hX coX4_3 (Nat.le_of_ble_eq_true rfl) (Nat.le_of_ble_eq_true rfl) dX4_init_1 ?_
  refine G_aload_n hX dX4_init_4 rfl ?_
  refine G_iconst (v := 3) hX dX4_init_5 rfl ?_
  refine G_newRC hX kA104 lA104 (Pt_fresh (by decide +kernel)) wlX4_9 (by decide) (by decide) (Nat.le_of_ble_eq_true rfl) (by rw [hc.1]; exact (Nat.le_of_ble_eq_true rfl)) (by rw [hc.2]; exact (Nat.le_of_ble_eq_true rfl)) dX4_init_6 ?_
  refine G_dup hX dX4_init_9 rfl ?_
  refine G_iconst (v := 0) hX dX4_init_10 rfl ?_
  refine G_newO (N := 5) hX noX4_9 kA105 (Nat.le_of_ble_eq_true rfl) (fun i => (hz 105 (Nat.le_of_ble_eq_true rfl)).1 i) (Pt_fresh (by decide +kernel)) (by rw [hc.1]; exact (Nat.le_of_ble_eq_true rfl)) (by rw [hc.2]; exact (Nat.le_of_ble_eq_true rfl)) dX4_init_11 ?_
  refine G_dup hX dX4_init_14 rfl ?_
  refine G_callIN (mc := 2) (ms := 80) (u' := u) hX cinX4_11 (cX0 w kA105 (by decide +kernel) (by decide +kernel) (fun k hk => hz k (Nat.le_trans (Nat.le_of_ble_eq_true rfl) hk))) (Nat.le_of_ble_eq_true rfl) (Nat.le_of_ble_eq_true rfl) dX4_init_15 ⟨by rw [hc.1]; exact (Nat.le_of_ble_eq_true rfl), by rw [hc.2]; exact (Nat.le_of_ble_eq_true rfl)⟩ ?_
  refine G_aastCt (j := 0) hX kA104 lA104 (Nat.le_of_ble_eq_true rfl) kA105 (Nat.le_of_ble_eq_true rfl) (by decide) rfl (by decide +kernel) (by decide +kernel) dX4_init_18 ?_
  refine G_dup hX dX4_init_19 rfl ?_
  refine G_iconst (v := 1) hX dX4_init_20 rfl ?_
  refine G_newO (N := 5) hX noX4_9 kA108 (Nat.le_of_ble_eq_true rfl) (fun i => (hz 108 (Nat.le_of_ble_eq_true rfl)).1 i) (Pt_fresh (by decide +kernel)) (by rw [hc.1]; exact (Nat.le_of_ble_eq_true rfl)) (by rw [hc.2]; exact (Nat.le_of_ble_eq_true rfl)) dX4_init_21 ?_
  refine G_dup hX dX4_init_24 rfl ?_
  refine G_callIN (mc := 2) (ms := 80) (u' := u) hX cinX4_11 (cX0 w kA108 (by decide +kernel) (by decide +kernel) (fun k hk => hz k (Nat.le_trans (Nat.le_of_ble_eq_true rfl) hk))) (Nat.le_of_ble_eq_true rfl) (Nat.le_of_ble_eq_true rfl) dX4_init_25 ⟨by rw [hc.1]; exact (Nat.le_of_ble_eq_true rfl), by rw [hc.2]; exact (Nat.le_of_ble_eq_true rfl)⟩ ?_
  refine G_aastCt (j := 1) hX kA104 lA104 (Nat.le_of_ble_eq_true rfl) kA108 (Nat.le_of_ble_eq_true rfl) (by decide) rfl (by decide +kernel) (by decide +kernel) dX4_init_28 ?_
  refine G_dup hX dX4_init_29 rfl ?_
  refine G_iconst (v := 2) hX dX4_init_30 rfl ?_
  refine G_newO (N := 5) hX noX4_9 kA111 (Nat.le_of_ble_eq_true rfl) (fun i => (hz 111 (Nat.le_of_ble_eq_true rfl)).1 i) (Pt_fresh (by decide +kernel)) (by rw [hc.1]; exact (Nat.le_of_ble_eq_true rfl)) (by rw [hc.2]; exact (Nat.le_of_ble_eq_true rfl)) dX4_init_31 ?_
  refine G_dup hX dX4_init_34 rfl ?_
  refine G_callIN (mc := 2) (ms := 80) (u' := u) hX cinX4_11 (cX0 w kA111 (by decide +kernel) (by decide +kernel) (fun k hk => hz k (Nat.le_trans (Nat.le_of_ble_eq_true rfl) hk))) (Nat.le_of_ble_eq_true rfl) (Nat.le_of_ble_eq_true rfl) dX4_init_35 ⟨by rw [hc.1]; exact (Nat.le_of_ble_eq_true rfl), by rw [hc.2]; exact (Nat.le_of_ble_eq_true rfl)⟩ ?_
  refine G_aastCt (j := 2) hX kA104 lA104 (Nat.le_of_ble_eq_true rfl) kA111 (Nat.le_of_ble_eq_true rfl) (by decide) rfl (by decide +kernel) (by decide +kernel) dX4_init_38 ?_
  refine G_putRt (i := 0) hX kA103 (Nat.le_of_ble_eq_true rfl) (Nat.le_of_ble_eq_true rfl) rfl flX4_12 frX4_0 hin (by decide +kernel) (by decide +kernel) dX4_init_39 ?_
  refine G_aload_n hX dX4_init_42 rfl ?_
  refine G_bipush (v := 12) hX dX4_init_43 rfl ?_
  refine G_newI hX kA114 lA114 (fun i => (hz 114 (Nat.le_of_ble_eq_true rfl)).1 i) wAI (by decide) (by decide) (Nat.le_of_ble_eq_true rfl) (by rw [hc.1]; exact (Nat.le_of_ble_eq_true rfl)) (by rw [hc.2]; exact (Nat.le_of_ble_eq_true rfl)) dX4_init_45 ?_
  refine G_putRt (i := 1) hX kA103 (Nat.le_of_ble_eq_true rfl) (Nat.le_of_ble_eq_true rfl) rfl flX4_18 frX4_1 hin (by decide +kernel) (by decide +kernel) dX4_init_47 ?_
  exact G_vret hX hR dX4_init_50
set_option maxHeartbeats 4000000 in
set_option maxRecDepth 100000 in
theorem cX1 (w : Wc) {u : Um} (hz : ZB u 116) : MCg w 1 qX1_init 1 100 (Pt 114) 116 (Pt 115) 117 true [.ref 115] u none u := by
  refine MC_intro pnX1 (Nat.le_of_ble_eq_true rfl) (fun X hX hR hc hin => ?_)
  have hX : OKc w X RX1 cX1_init 1 := hX
  have hR : RT w X none 1 100 (Pt 115) 117 true none u := hR
  refine G_eql (lv' := [some (.ref 115)]) rfl ?_
  refine G_aload_n hX dX1_init_0 rfl ?_
  refine G_objI hX coX1_3 (Nat.le_of_ble_eq_true rfl) (Nat.le_of_ble_eq_true rfl) dX1_init_1 ?_
  refine G_aload_n hX dX1_init_4 rfl ?_
  refine G_bipush (v := 100) hX dX1_init_5 rfl ?_
  refine G_newI hX kA116 lA116 (fun i => (hz 116 (Nat.le_of_ble_eq_true rfl)).1 i) wAI (by decide) (by decide) (Nat.le_of_ble_eq_true rfl) (by rw [hc.1]; exact (Nat.le_of_ble_eq_true rfl)) (by rw [hc.2]; exact (Nat.le_of_ble_eq_true rfl)) dX1_init_7 ?_
  refine G_putRt (i := 0) hX kA115 (Nat.le_of_ble_eq_true rfl) (Nat.le_of_ble_eq_true rfl) rfl flX1_11 frX1_0 hin (by decide +kernel) (by decide +kernel) dX1_init_9 ?_
  exact G_vret hX hR dX1_init_12
set_option maxHeartbeats 4000000 in
set_option maxRecDepth 100000 in
theorem cX7 (w : Wc) {u : Um} (hz : ZB u 1) : MCg w 3 qX7_init 116 3665 (Pt 0) 1 (Pt 116) 117 true [.ref 0] u none (sI (sI (sI (sI u 91 1 (-1)) 93 1 (-1)) 95 1 (-1)) 97 1 (-1)) := by
  refine MC_intro pnX7 (Nat.le_of_ble_eq_true rfl) (fun X hX hR hc hin => ?_)
  have hX : OKc w X RX7 cX7_init 3 := hX
  have hR : RT w X none 116 3665 (Pt 116) 117 true none (sI (sI (sI (sI u 91 1 (-1)) 93 1 (-1)) 95 1 (-1)) 97 1 (-1)) := hR
  refine G_eql (lv' := [some (.ref 0)]) rfl ?_
  refine G_aload_n hX dX7_init_0 rfl ?_
  refine G_objI hX coX7_1 (Nat.le_of_ble_eq_true rfl) (Nat.le_of_ble_eq_true rfl) dX7_init_1 ?_
  refine G_aload_n hX dX7_init_4 rfl ?_
  refine G_newO (N := 3) hX noX7_7 kA1 (Nat.le_of_ble_eq_true rfl) (fun i => (hz 1 (Nat.le_of_ble_eq_true rfl)).1 i) (Pt_fresh (by decide +kernel)) (by rw [hc.1]; exact (Nat.le_of_ble_eq_true rfl)) (by rw [hc.2]; exact (Nat.le_of_ble_eq_true rfl)) dX7_init_5 ?_
  refine G_dup hX dX7_init_8 rfl ?_
  refine G_callIN (mc := 1) (ms := 130) (u' := u) hX cinX7_9 (cX6 w (fun k hk => hz k (Nat.le_trans (Nat.le_of_ble_eq_true rfl) hk))) (Nat.le_of_ble_eq_true rfl) (Nat.le_of_ble_eq_true rfl) dX7_init_9 ⟨by rw [hc.1]; exact (Nat.le_of_ble_eq_true rfl), by rw [hc.2]; exact (Nat.le_of_ble_eq_true rfl)⟩ ?_
  refine G_putRt (i := 0) hX kA0 (Nat.le_of_ble_eq_true rfl) (Nat.le_of_ble_eq_true rfl) rfl flX7_10 frX7_0 hin (by decide +kernel) (by decide +kernel) dX7_init_12 ?_
  refine G_aload_n hX dX7_init_15 rfl ?_
  refine G_newO (N := 5) hX noX7_16 kA3 (Nat.le_of_ble_eq_true rfl) (fun i => (hz 3 (Nat.le_of_ble_eq_true rfl)).1 i) (Pt_fresh (by decide +kernel)) (by rw [hc.1]; exact (Nat.le_of_ble_eq_true rfl)) (by rw [hc.2]; exact (Nat.le_of_ble_eq_true rfl)) dX7_init_16 ?_
  refine G_dup hX dX7_init_19 rfl ?_
  refine G_callIN (mc := 2) (ms := 80) (u' := u) hX cinX7_18 (cX0 w kA3 (by decide +kernel) (by decide +kernel) (fun k hk => hz k (Nat.le_trans (Nat.le_of_ble_eq_true rfl) hk))) (Nat.le_of_ble_eq_true rfl) (Nat.le_of_ble_eq_true rfl) dX7_init_20 ⟨by rw [hc.1]; exact (Nat.le_of_ble_eq_true rfl), by rw [hc.2]; exact (Nat.le_of_ble_eq_true rfl)⟩ ?_
  refine G_putRt (i := 1) hX kA0 (Nat.le_of_ble_eq_true rfl) (Nat.le_of_ble_eq_true rfl) rfl flX7_19 frX7_1 hin (by decide +kernel) (by decide +kernel) dX7_init_23 ?_
  refine G_aload_n hX dX7_init_26 rfl ?_
  refine G_newO (N := 5) hX noX7_16 kA6 (Nat.le_of_ble_eq_true rfl) (fun i => (hz 6 (Nat.le_of_ble_eq_true rfl)).1 i) (Pt_fresh (by decide +kernel)) (by rw [hc.1]; exact (Nat.le_of_ble_eq_true rfl)) (by rw [hc.2]; exact (Nat.le_of_ble_eq_true rfl)) dX7_init_27 ?_
  refine G_dup hX dX7_init_30 rfl ?_
  refine G_callIN (mc := 2) (ms := 80) (u' := u) hX cinX7_18 (cX0 w kA6 (by decide +kernel) (by decide +kernel) (fun k hk => hz k (Nat.le_trans (Nat.le_of_ble_eq_true rfl) hk))) (Nat.le_of_ble_eq_true rfl) (Nat.le_of_ble_eq_true rfl) dX7_init_31 ⟨by rw [hc.1]; exact (Nat.le_of_ble_eq_true rfl), by rw [hc.2]; exact (Nat.le_of_ble_eq_true rfl)⟩ ?_
  refine G_putRt (i := 2) hX kA0 (Nat.le_of_ble_eq_true rfl) (Nat.le_of_ble_eq_true rfl) rfl flX7_23 frX7_2 hin (by decide +kernel) (by decide +kernel) dX7_init_34 ?_
  refine G_aload_n hX dX7_init_37 rfl ?_
  refine G_newO (N := 3) hX noX7_26 kA9 (Nat.le_of_ble_eq_true rfl) (fun i => (hz 9 (Nat.le_of_ble_eq_true rfl)).1 i) (Pt_fresh (by decide +kernel)) (by rw [hc.1]; exact (Nat.le_of_ble_eq_true rfl)) (by rw [hc.2]; exact (Nat.le_of_ble_eq_true rfl)) dX7_init_38 ?_
  refine G_dup hX dX7_init_41 rfl ?_
  refine G_callI (mc := 73) (ms := 2064) (u' := u) hX ciX7_28 (cX3 w (fun k hk => hz k (Nat.le_trans (Nat.le_of_ble_eq_true rfl) hk))) (Nat.le_of_ble_eq_true rfl) (Nat.le_of_ble_eq_true rfl) dX7_init_42 ⟨by rw [hc.1]; exact (Nat.le_of_ble_eq_true rfl), by rw [hc.2]; exact (Nat.le_of_ble_eq_true rfl)⟩ ?_
  refine G_putRt (i := 3) hX kA0 (Nat.le_of_ble_eq_true rfl) (Nat.le_of_ble_eq_true rfl) rfl flX7_29 frX7_3 hin (by decide +kernel) (by decide +kernel) dX7_init_45 ?_
  refine G_aload_n hX dX7_init_48 rfl ?_
  refine G_iconst (v := 2) hX dX7_init_49 rfl ?_
  refine G_newRC hX kA83 lA83 (Pt_fresh (by decide +kernel)) wlX7_16 (by decide) (by decide) (Nat.le_of_ble_eq_true rfl) (by rw [hc.1]; exact (Nat.le_of_ble_eq_true rfl)) (by rw [hc.2]; exact (Nat.le_of_ble_eq_true rfl)) dX7_init_50 ?_
  refine G_dup hX dX7_init_53 rfl ?_
  refine G_iconst (v := 0) hX dX7_init_54 rfl ?_
  refine G_newO (N := 5) hX noX7_16 kA84 (Nat.le_of_ble_eq_true rfl) (fun i => (hz 84 (Nat.le_of_ble_eq_true rfl)).1 i) (Pt_fresh (by decide +kernel)) (by rw [hc.1]; exact (Nat.le_of_ble_eq_true rfl)) (by rw [hc.2]; exact (Nat.le_of_ble_eq_true rfl)) dX7_init_55 ?_
  refine G_dup hX dX7_init_58 rfl ?_
  refine G_callIN (mc := 2) (ms := 80) (u' := u) hX cinX7_18 (cX0 w kA84 (by decide +kernel) (by decide +kernel) (fun k hk => hz k (Nat.le_trans (Nat.le_of_ble_eq_true rfl) hk))) (Nat.le_of_ble_eq_true rfl) (Nat.le_of_ble_eq_true rfl) dX7_init_59 ⟨by rw [hc.1]; exact (Nat.le_of_ble_eq_true rfl), by rw [hc.2]; exact (Nat.le_of_ble_eq_true rfl)⟩ ?_
  refine G_aastCt (j := 0) hX kA83 lA83 (Nat.le_of_ble_eq_true rfl) kA84 (Nat.le_of_ble_eq_true rfl) (by decide) rfl (by decide +kernel) (by decide +kernel) dX7_init_62 ?_
  refine G_dup hX dX7_init_63 rfl ?_
  refine G_iconst (v := 1) hX dX7_init_64 rfl ?_
  refine G_newO (N := 5) hX noX7_16 kA87 (Nat.le_of_ble_eq_true rfl) (fun i => (hz 87 (Nat.le_of_ble_eq_true rfl)).1 i) (Pt_fresh (by decide +kernel)) (by rw [hc.1]; exact (Nat.le_of_ble_eq_true rfl)) (by rw [hc.2]; exact (Nat.le_of_ble_eq_true rfl)) dX7_init_65 ?_
  refine G_dup hX dX7_init_68 rfl ?_
  refine G_callIN (mc := 2) (ms := 80) (u' := u) hX cinX7_18 (cX0 w kA87 (by decide +kernel) (by decide +kernel) (fun k hk => hz k (Nat.le_trans (Nat.le_of_ble_eq_true rfl) hk))) (Nat.le_of_ble_eq_true rfl) (Nat.le_of_ble_eq_true rfl) dX7_init_69 ⟨by rw [hc.1]; exact (Nat.le_of_ble_eq_true rfl), by rw [hc.2]; exact (Nat.le_of_ble_eq_true rfl)⟩ ?_
  refine G_aastCt (j := 1) hX kA83 lA83 (Nat.le_of_ble_eq_true rfl) kA87 (Nat.le_of_ble_eq_true rfl) (by decide) rfl (by decide +kernel) (by decide +kernel) dX7_init_72 ?_
  refine G_putRt (i := 4) hX kA0 (Nat.le_of_ble_eq_true rfl) (Nat.le_of_ble_eq_true rfl) rfl flX7_33 frX7_4 hin (by decide +kernel) (by decide +kernel) dX7_init_73 ?_
  refine G_aload_n hX dX7_init_76 rfl ?_
  refine G_iconst (v := 4) hX dX7_init_77 rfl ?_
  refine G_newRS hX kA90 lA90 (Pt_fresh (by decide +kernel)) wlX7_37 (by decide) (by decide) (Nat.le_of_ble_eq_true rfl) (by rw [hc.1]; exact (Nat.le_of_ble_eq_true rfl)) (by rw [hc.2]; exact (Nat.le_of_ble_eq_true rfl)) dX7_init_78 ?_
  refine G_dup hX dX7_init_81 rfl ?_
  refine G_iconst (v := 0) hX dX7_init_82 rfl ?_
  refine G_newO (N := 3) hX noX7_37 kA91 (Nat.le_of_ble_eq_true rfl) (fun i => (hz 91 (Nat.le_of_ble_eq_true rfl)).1 i) (Pt_fresh (by decide +kernel)) (by rw [hc.1]; exact (Nat.le_of_ble_eq_true rfl)) (by rw [hc.2]; exact (Nat.le_of_ble_eq_true rfl)) dX7_init_83 ?_
  refine G_dup hX dX7_init_86 rfl ?_
  refine G_callIN (mc := 1) (ms := 24) (u' := (sI u 91 1 (-1))) hX cinX7_39 (cX5 w kA91 (by decide +kernel) (fun k hk => hz k (Nat.le_trans (Nat.le_of_ble_eq_true rfl) hk))) (Nat.le_of_ble_eq_true rfl) (Nat.le_of_ble_eq_true rfl) dX7_init_87 ⟨by rw [hc.1]; exact (Nat.le_of_ble_eq_true rfl), by rw [hc.2]; exact (Nat.le_of_ble_eq_true rfl)⟩ ?_
  have hz1 : ZB (sI u 91 1 (-1)) 93 := ZB_sI (fun k hk => hz k (Nat.le_trans (Nat.le_of_ble_eq_true rfl) hk)) (Nat.le_of_ble_eq_true rfl)
  refine G_aastSt (j := 0) hX kA90 lA90 (Nat.le_of_ble_eq_true rfl) kA91 (Nat.le_of_ble_eq_true rfl) (by decide) rfl (by decide +kernel) (by decide +kernel) dX7_init_90 ?_
  refine G_dup hX dX7_init_91 rfl ?_
  refine G_iconst (v := 1) hX dX7_init_92 rfl ?_
  refine G_newO (N := 3) hX noX7_37 kA93 (Nat.le_of_ble_eq_true rfl) (fun i => (hz1 93 (Nat.le_of_ble_eq_true rfl)).1 i) (Pt_fresh (by decide +kernel)) (by rw [hc.1]; exact (Nat.le_of_ble_eq_true rfl)) (by rw [hc.2]; exact (Nat.le_of_ble_eq_true rfl)) dX7_init_93 ?_
  refine G_dup hX dX7_init_96 rfl ?_
  refine G_callIN (mc := 1) (ms := 24) (u' := (sI (sI u 91 1 (-1)) 93 1 (-1))) hX cinX7_39 (cX5 w kA93 (by decide +kernel) (fun k hk => hz1 k (Nat.le_trans (Nat.le_of_ble_eq_true rfl) hk))) (Nat.le_of_ble_eq_true rfl) (Nat.le_of_ble_eq_true rfl) dX7_init_97 ⟨by rw [hc.1]; exact (Nat.le_of_ble_eq_true rfl), by rw [hc.2]; exact (Nat.le_of_ble_eq_true rfl)⟩ ?_
  have hz2 : ZB (sI (sI u 91 1 (-1)) 93 1 (-1)) 95 := ZB_sI (fun k hk => hz1 k (Nat.le_trans (Nat.le_of_ble_eq_true rfl) hk)) (Nat.le_of_ble_eq_true rfl)
  refine G_aastSt (j := 1) hX kA90 lA90 (Nat.le_of_ble_eq_true rfl) kA93 (Nat.le_of_ble_eq_true rfl) (by decide) rfl (by decide +kernel) (by decide +kernel) dX7_init_100 ?_
  refine G_dup hX dX7_init_101 rfl ?_
  refine G_iconst (v := 2) hX dX7_init_102 rfl ?_
  refine G_newO (N := 3) hX noX7_37 kA95 (Nat.le_of_ble_eq_true rfl) (fun i => (hz2 95 (Nat.le_of_ble_eq_true rfl)).1 i) (Pt_fresh (by decide +kernel)) (by rw [hc.1]; exact (Nat.le_of_ble_eq_true rfl)) (by rw [hc.2]; exact (Nat.le_of_ble_eq_true rfl)) dX7_init_103 ?_
  refine G_dup hX dX7_init_106 rfl ?_
  refine G_callIN (mc := 1) (ms := 24) (u' := (sI (sI (sI u 91 1 (-1)) 93 1 (-1)) 95 1 (-1))) hX cinX7_39 (cX5 w kA95 (by decide +kernel) (fun k hk => hz2 k (Nat.le_trans (Nat.le_of_ble_eq_true rfl) hk))) (Nat.le_of_ble_eq_true rfl) (Nat.le_of_ble_eq_true rfl) dX7_init_107 ⟨by rw [hc.1]; exact (Nat.le_of_ble_eq_true rfl), by rw [hc.2]; exact (Nat.le_of_ble_eq_true rfl)⟩ ?_
  have hz3 : ZB (sI (sI (sI u 91 1 (-1)) 93 1 (-1)) 95 1 (-1)) 97 := ZB_sI (fun k hk => hz2 k (Nat.le_trans (Nat.le_of_ble_eq_true rfl) hk)) (Nat.le_of_ble_eq_true rfl)
  refine G_aastSt (j := 2) hX kA90 lA90 (Nat.le_of_ble_eq_true rfl) kA95 (Nat.le_of_ble_eq_true rfl) (by decide) rfl (by decide +kernel) (by decide +kernel) dX7_init_110 ?_
  refine G_dup hX dX7_init_111 rfl ?_
  refine G_iconst (v := 3) hX dX7_init_112 rfl ?_
  refine G_newO (N := 3) hX noX7_37 kA97 (Nat.le_of_ble_eq_true rfl) (fun i => (hz3 97 (Nat.le_of_ble_eq_true rfl)).1 i) (Pt_fresh (by decide +kernel)) (by rw [hc.1]; exact (Nat.le_of_ble_eq_true rfl)) (by rw [hc.2]; exact (Nat.le_of_ble_eq_true rfl)) dX7_init_113 ?_
  refine G_dup hX dX7_init_116 rfl ?_
  refine G_callIN (mc := 1) (ms := 24) (u' := (sI (sI (sI (sI u 91 1 (-1)) 93 1 (-1)) 95 1 (-1)) 97 1 (-1))) hX cinX7_39 (cX5 w kA97 (by decide +kernel) (fun k hk => hz3 k (Nat.le_trans (Nat.le_of_ble_eq_true rfl) hk))) (Nat.le_of_ble_eq_true rfl) (Nat.le_of_ble_eq_true rfl) dX7_init_117 ⟨by rw [hc.1]; exact (Nat.le_of_ble_eq_true rfl), by rw [hc.2]; exact (Nat.le_of_ble_eq_true rfl)⟩ ?_
  have hz4 : ZB (sI (sI (sI (sI u 91 1 (-1)) 93 1 (-1)) 95 1 (-1)) 97 1 (-1)) 99 := ZB_sI (fun k hk => hz3 k (Nat.le_trans (Nat.le_of_ble_eq_true rfl) hk)) (Nat.le_of_ble_eq_true rfl)
  refine G_aastSt (j := 3) hX kA90 lA90 (Nat.le_of_ble_eq_true rfl) kA97 (Nat.le_of_ble_eq_true rfl) (by decide) rfl (by decide +kernel) (by decide +kernel) dX7_init_120 ?_
  refine G_putRt (i := 5) hX kA0 (Nat.le_of_ble_eq_true rfl) (Nat.le_of_ble_eq_true rfl) rfl flX7_40 frX7_5 hin (by decide +kernel) (by decide +kernel) dX7_init_121 ?_
  refine G_aload_n hX dX7_init_124 rfl ?_
  refine G_newO (N := 4) hX noX7_44 kA99 (Nat.le_of_ble_eq_true rfl) (fun i => (hz4 99 (Nat.le_of_ble_eq_true rfl)).1 i) (Pt_fresh (by decide +kernel)) (by rw [hc.1]; exact (Nat.le_of_ble_eq_true rfl)) (by rw [hc.2]; exact (Nat.le_of_ble_eq_true rfl)) dX7_init_125 ?_
  refine G_dup hX dX7_init_128 rfl ?_
  refine G_callIN (mc := 3) (ms := 632) (u' := (sI (sI (sI (sI u 91 1 (-1)) 93 1 (-1)) 95 1 (-1)) 97 1 (-1))) hX cinX7_46 (cX2 w (fun k hk => hz4 k (Nat.le_trans (Nat.le_of_ble_eq_true rfl) hk))) (Nat.le_of_ble_eq_true rfl) (Nat.le_of_ble_eq_true rfl) dX7_init_129 ⟨by rw [hc.1]; exact (Nat.le_of_ble_eq_true rfl), by rw [hc.2]; exact (Nat.le_of_ble_eq_true rfl)⟩ ?_
  refine G_putRt (i := 6) hX kA0 (Nat.le_of_ble_eq_true rfl) (Nat.le_of_ble_eq_true rfl) rfl flX7_47 frX7_6 hin (by decide +kernel) (by decide +kernel) dX7_init_132 ?_
  refine G_aload_n hX dX7_init_135 rfl ?_
  refine G_newO (N := 2) hX noX7_51 kA103 (Nat.le_of_ble_eq_true rfl) (fun i => (hz4 103 (Nat.le_of_ble_eq_true rfl)).1 i) (Pt_fresh (by decide +kernel)) (by rw [hc.1]; exact (Nat.le_of_ble_eq_true rfl)) (by rw [hc.2]; exact (Nat.le_of_ble_eq_true rfl)) dX7_init_136 ?_
  refine G_dup hX dX7_init_139 rfl ?_
  refine G_callIN (mc := 11) (ms := 270) (u' := (sI (sI (sI (sI u 91 1 (-1)) 93 1 (-1)) 95 1 (-1)) 97 1 (-1))) hX cinX7_53 (cX4 w (fun k hk => hz4 k (Nat.le_trans (Nat.le_of_ble_eq_true rfl) hk))) (Nat.le_of_ble_eq_true rfl) (Nat.le_of_ble_eq_true rfl) dX7_init_140 ⟨by rw [hc.1]; exact (Nat.le_of_ble_eq_true rfl), by rw [hc.2]; exact (Nat.le_of_ble_eq_true rfl)⟩ ?_
  refine G_putRt (i := 7) hX kA0 (Nat.le_of_ble_eq_true rfl) (Nat.le_of_ble_eq_true rfl) rfl flX7_54 frX7_7 hin (by decide +kernel) (by decide +kernel) dX7_init_143 ?_
  refine G_aload_n hX dX7_init_146 rfl ?_
  refine G_newO (N := 3) hX noX7_58 kA115 (Nat.le_of_ble_eq_true rfl) (fun i => (hz4 115 (Nat.le_of_ble_eq_true rfl)).1 i) (Pt_fresh (by decide +kernel)) (by rw [hc.1]; exact (Nat.le_of_ble_eq_true rfl)) (by rw [hc.2]; exact (Nat.le_of_ble_eq_true rfl)) dX7_init_147 ?_
  refine G_dup hX dX7_init_150 rfl ?_
  refine G_callIN (mc := 1) (ms := 100) (u' := (sI (sI (sI (sI u 91 1 (-1)) 93 1 (-1)) 95 1 (-1)) 97 1 (-1))) hX cinX7_60 (cX1 w (fun k hk => hz4 k (Nat.le_trans (Nat.le_of_ble_eq_true rfl) hk))) (Nat.le_of_ble_eq_true rfl) (Nat.le_of_ble_eq_true rfl) dX7_init_151 ⟨by rw [hc.1]; exact (Nat.le_of_ble_eq_true rfl), by rw [hc.2]; exact (Nat.le_of_ble_eq_true rfl)⟩ ?_
  refine G_putRt (i := 8) hX kA0 (Nat.le_of_ble_eq_true rfl) (Nat.le_of_ble_eq_true rfl) rfl flX7_61 frX7_8 hin (by decide +kernel) (by decide +kernel) dX7_init_154 ?_
  exact G_vret hX hR dX7_init_157
set_option maxHeartbeats 4000000 in
set_option maxRecDepth 100000 in
theorem cX8 (w : Wc) {u : Um} (hz : ZB u 118) : MCg w 1 qX8_init 15 3252 (Pt 116) 118 (Pt 131) 133 true [.ref 117] u none (sI (sI (sI (sI u 118 (0 : Int32).toNatClampNeg (-1)) 118 (1 : Int32).toNatClampNeg (-1)) 118 (2 : Int32).toNatClampNeg (-1)) 118 (3 : Int32).toNatClampNeg (-1)) := by
  refine MC_intro pnX8 (Nat.le_of_ble_eq_true rfl) (fun X hX hR hc hin => ?_)
  have hX : OKc w X RX8 cX8_init 1 := hX
  have hR : RT w X none 15 3252 (Pt 131) 133 true none (sI (sI (sI (sI u 118 (0 : Int32).toNatClampNeg (-1)) 118 (1 : Int32).toNatClampNeg (-1)) 118 (2 : Int32).toNatClampNeg (-1)) 118 (3 : Int32).toNatClampNeg (-1)) := hR
  refine G_eql (lv' := [some (.ref 117), none]) rfl ?_
  refine G_aload_n hX dX8_init_0 rfl ?_
  refine G_objI hX coX8_1 (Nat.le_of_ble_eq_true rfl) (Nat.le_of_ble_eq_true rfl) dX8_init_1 ?_
  refine G_aload_n hX dX8_init_4 rfl ?_
  refine G_iconst (v := 4) hX dX8_init_5 rfl ?_
  refine G_newI hX kA118 lA118 (fun i => (hz 118 (Nat.le_of_ble_eq_true rfl)).1 i) wAI (by decide) (by decide) (Nat.le_of_ble_eq_true rfl) (by rw [hc.1]; exact (Nat.le_of_ble_eq_true rfl)) (by rw [hc.2]; exact (Nat.le_of_ble_eq_true rfl)) dX8_init_6 ?_
  refine G_putRt (i := 0) hX kA117 (Nat.le_of_ble_eq_true rfl) (Nat.le_of_ble_eq_true rfl) rfl flX8_7 frX8_0 hin (by decide +kernel) (by decide +kernel) dX8_init_8 ?_
  refine G_aload_n hX dX8_init_11 rfl ?_
  refine G_iconst (v := 4) hX dX8_init_12 rfl ?_
  refine G_newI hX kA119 lA119 (fun i => (hz 119 (Nat.le_of_ble_eq_true rfl)).1 i) wAI (by decide) (by decide) (Nat.le_of_ble_eq_true rfl) (by rw [hc.1]; exact (Nat.le_of_ble_eq_true rfl)) (by rw [hc.2]; exact (Nat.le_of_ble_eq_true rfl)) dX8_init_13 ?_
  refine G_putRt (i := 1) hX kA117 (Nat.le_of_ble_eq_true rfl) (Nat.le_of_ble_eq_true rfl) rfl flX8_13 frX8_1 hin (by decide +kernel) (by decide +kernel) dX8_init_15 ?_
  refine G_aload_n hX dX8_init_18 rfl ?_
  refine G_bipush (v := 96) hX dX8_init_19 rfl ?_
  refine G_newJ hX kA120 lA120 (fun i => (hz 120 (Nat.le_of_ble_eq_true rfl)).2 i) wAJ (by decide) (by decide) (Nat.le_of_ble_eq_true rfl) (by rw [hc.1]; exact (Nat.le_of_ble_eq_true rfl)) (by rw [hc.2]; exact (Nat.le_of_ble_eq_true rfl)) dX8_init_21 ?_
  refine G_putRt (i := 2) hX kA117 (Nat.le_of_ble_eq_true rfl) (Nat.le_of_ble_eq_true rfl) rfl flX8_16 frX8_2 hin (by decide +kernel) (by decide +kernel) dX8_init_23 ?_
  refine G_aload_n hX dX8_init_26 rfl ?_
  refine G_sipush (v := 130) hX dX8_init_27 rfl ?_
  refine G_newI hX kA121 lA121 (fun i => (hz 121 (Nat.le_of_ble_eq_true rfl)).1 i) wAI (by decide) (by decide) (Nat.le_of_ble_eq_true rfl) (by rw [hc.1]; exact (Nat.le_of_ble_eq_true rfl)) (by rw [hc.2]; exact (Nat.le_of_ble_eq_true rfl)) dX8_init_30 ?_
  refine G_putRt (i := 4) hX kA117 (Nat.le_of_ble_eq_true rfl) (Nat.le_of_ble_eq_true rfl) rfl flX8_20 frX8_4 hin (by decide +kernel) (by decide +kernel) dX8_init_32 ?_
  refine G_aload_n hX dX8_init_35 rfl ?_
  refine G_bipush (v := 83) hX dX8_init_36 rfl ?_
  refine G_newI hX kA122 lA122 (fun i => (hz 122 (Nat.le_of_ble_eq_true rfl)).1 i) wAI (by decide) (by decide) (Nat.le_of_ble_eq_true rfl) (by rw [hc.1]; exact (Nat.le_of_ble_eq_true rfl)) (by rw [hc.2]; exact (Nat.le_of_ble_eq_true rfl)) dX8_init_38 ?_
  refine G_putRt (i := 6) hX kA117 (Nat.le_of_ble_eq_true rfl) (Nat.le_of_ble_eq_true rfl) rfl flX8_23 frX8_6 hin (by decide +kernel) (by decide +kernel) dX8_init_40 ?_
  refine G_aload_n hX dX8_init_43 rfl ?_
  refine G_bipush (v := 83) hX dX8_init_44 rfl ?_
  refine G_newI hX kA123 lA123 (fun i => (hz 123 (Nat.le_of_ble_eq_true rfl)).1 i) wAI (by decide) (by decide) (Nat.le_of_ble_eq_true rfl) (by rw [hc.1]; exact (Nat.le_of_ble_eq_true rfl)) (by rw [hc.2]; exact (Nat.le_of_ble_eq_true rfl)) dX8_init_46 ?_
  refine G_putRt (i := 7) hX kA117 (Nat.le_of_ble_eq_true rfl) (Nat.le_of_ble_eq_true rfl) rfl flX8_26 frX8_7 hin (by decide +kernel) (by decide +kernel) dX8_init_48 ?_
  refine G_aload_n hX dX8_init_51 rfl ?_
  refine G_bipush (v := 83) hX dX8_init_52 rfl ?_
  refine G_newI hX kA124 lA124 (fun i => (hz 124 (Nat.le_of_ble_eq_true rfl)).1 i) wAI (by decide) (by decide) (Nat.le_of_ble_eq_true rfl) (by rw [hc.1]; exact (Nat.le_of_ble_eq_true rfl)) (by rw [hc.2]; exact (Nat.le_of_ble_eq_true rfl)) dX8_init_54 ?_
  refine G_putRt (i := 8) hX kA117 (Nat.le_of_ble_eq_true rfl) (Nat.le_of_ble_eq_true rfl) rfl flX8_29 frX8_8 hin (by decide +kernel) (by decide +kernel) dX8_init_56 ?_
  refine G_aload_n hX dX8_init_59 rfl ?_
  refine G_sipush (v := 166) hX dX8_init_60 rfl ?_
  refine G_newI hX kA125 lA125 (fun i => (hz 125 (Nat.le_of_ble_eq_true rfl)).1 i) wAI (by decide) (by decide) (Nat.le_of_ble_eq_true rfl) (by rw [hc.1]; exact (Nat.le_of_ble_eq_true rfl)) (by rw [hc.2]; exact (Nat.le_of_ble_eq_true rfl)) dX8_init_63 ?_
  refine G_putRt (i := 9) hX kA117 (Nat.le_of_ble_eq_true rfl) (Nat.le_of_ble_eq_true rfl) rfl flX8_32 frX8_9 hin (by decide +kernel) (by decide +kernel) dX8_init_65 ?_
  refine G_aload_n hX dX8_init_68 rfl ?_
  refine G_iconst (v := 2) hX dX8_init_69 rfl ?_
  refine G_newZ hX kA126 lA126 (fun i => (hz 126 (Nat.le_of_ble_eq_true rfl)).1 i) wAZ (by decide) (by decide) (Nat.le_of_ble_eq_true rfl) (by rw [hc.1]; exact (Nat.le_of_ble_eq_true rfl)) (by rw [hc.2]; exact (Nat.le_of_ble_eq_true rfl)) dX8_init_70 ?_
  refine G_putRt (i := 10) hX kA117 (Nat.le_of_ble_eq_true rfl) (Nat.le_of_ble_eq_true rfl) rfl flX8_35 frX8_10 hin (by decide +kernel) (by decide +kernel) dX8_init_72 ?_
  refine G_aload_n hX dX8_init_75 rfl ?_
  refine G_sipush (v := 1992) hX dX8_init_76 rfl ?_
  refine G_newI hX kA127 lA127 (fun i => (hz 127 (Nat.le_of_ble_eq_true rfl)).1 i) wAI (by decide) (by decide) (Nat.le_of_ble_eq_true rfl) (by rw [hc.1]; exact (Nat.le_of_ble_eq_true rfl)) (by rw [hc.2]; exact (Nat.le_of_ble_eq_true rfl)) dX8_init_79 ?_
  refine G_putRt (i := 11) hX kA117 (Nat.le_of_ble_eq_true rfl) (Nat.le_of_ble_eq_true rfl) rfl flX8_39 frX8_11 hin (by decide +kernel) (by decide +kernel) dX8_init_81 ?_
  refine G_aload_n hX dX8_init_84 rfl ?_
  refine G_sipush (v := 576) hX dX8_init_85 rfl ?_
  refine G_newI hX kA128 lA128 (fun i => (hz 128 (Nat.le_of_ble_eq_true rfl)).1 i) wAI (by decide) (by decide) (Nat.le_of_ble_eq_true rfl) (by rw [hc.1]; exact (Nat.le_of_ble_eq_true rfl)) (by rw [hc.2]; exact (Nat.le_of_ble_eq_true rfl)) dX8_init_88 ?_
  refine G_putRt (i := 13) hX kA117 (Nat.le_of_ble_eq_true rfl) (Nat.le_of_ble_eq_true rfl) rfl flX8_42 frX8_13 hin (by decide +kernel) (by decide +kernel) dX8_init_90 ?_
  refine G_aload_n hX dX8_init_93 rfl ?_
  refine G_bipush (v := 10) hX dX8_init_94 rfl ?_
  refine G_newI hX kA129 lA129 (fun i => (hz 129 (Nat.le_of_ble_eq_true rfl)).1 i) wAI (by decide) (by decide) (Nat.le_of_ble_eq_true rfl) (by rw [hc.1]; exact (Nat.le_of_ble_eq_true rfl)) (by rw [hc.2]; exact (Nat.le_of_ble_eq_true rfl)) dX8_init_96 ?_
  refine G_putRt (i := 14) hX kA117 (Nat.le_of_ble_eq_true rfl) (Nat.le_of_ble_eq_true rfl) rfl flX8_45 frX8_14 hin (by decide +kernel) (by decide +kernel) dX8_init_98 ?_
  refine G_aload_n hX dX8_init_101 rfl ?_
  refine G_bipush (v := 10) hX dX8_init_102 rfl ?_
  refine G_newI hX kA130 lA130 (fun i => (hz 130 (Nat.le_of_ble_eq_true rfl)).1 i) wAI (by decide) (by decide) (Nat.le_of_ble_eq_true rfl) (by rw [hc.1]; exact (Nat.le_of_ble_eq_true rfl)) (by rw [hc.2]; exact (Nat.le_of_ble_eq_true rfl)) dX8_init_104 ?_
  refine G_putRt (i := 15) hX kA117 (Nat.le_of_ble_eq_true rfl) (Nat.le_of_ble_eq_true rfl) rfl flX8_48 frX8_15 hin (by decide +kernel) (by decide +kernel) dX8_init_106 ?_
  refine G_aload_n hX dX8_init_109 rfl ?_
  refine G_iconst (v := 3) hX dX8_init_110 rfl ?_
  refine G_newI hX kA131 lA131 (fun i => (hz 131 (Nat.le_of_ble_eq_true rfl)).1 i) wAI (by decide) (by decide) (Nat.le_of_ble_eq_true rfl) (by rw [hc.1]; exact (Nat.le_of_ble_eq_true rfl)) (by rw [hc.2]; exact (Nat.le_of_ble_eq_true rfl)) dX8_init_111 ?_
  refine G_putRt (i := 16) hX kA117 (Nat.le_of_ble_eq_true rfl) (Nat.le_of_ble_eq_true rfl) rfl flX8_51 frX8_16 hin (by decide +kernel) (by decide +kernel) dX8_init_113 ?_
  refine G_aload_n hX dX8_init_116 rfl ?_
  refine G_bipush (v := 10) hX dX8_init_117 rfl ?_
  refine G_newI hX kA132 lA132 (fun i => (hz 132 (Nat.le_of_ble_eq_true rfl)).1 i) wAI (by decide) (by decide) (Nat.le_of_ble_eq_true rfl) (by rw [hc.1]; exact (Nat.le_of_ble_eq_true rfl)) (by rw [hc.2]; exact (Nat.le_of_ble_eq_true rfl)) dX8_init_119 ?_
  refine G_putRt (i := 18) hX kA117 (Nat.le_of_ble_eq_true rfl) (Nat.le_of_ble_eq_true rfl) rfl flX8_54 frX8_18 hin (by decide +kernel) (by decide +kernel) dX8_init_121 ?_
  refine G_iconst (v := 0) hX dX8_init_124 rfl ?_
  refine G_istore_n (lv' := [some (.ref 117), some (.int 0)]) hX dX8_init_125 rfl (Nat.le_of_ble_eq_true rfl) rfl ?_
  refine G_iload_n hX dX8_init_126 rfl ?_
  refine G_iconst (v := 4) hX dX8_init_127 rfl ?_
  refine G_icmp_ge (A := (none : Option Unit)) (B := some ()) (r := ()) (tgt := 144) hX dX8_init_128 rfl (by decide) (fun h => by cases h) (fun _ => ?_)
  refine G_aload_n hX dX8_init_131 rfl ?_
  refine G_getR (i := 0) (t := 118) hX kA117 (Nat.le_of_ble_eq_true rfl) (Nat.le_of_ble_eq_true rfl) rfl (by decide +kernel) flX8_7 dX8_init_132 ?_
  refine G_iload_n hX dX8_init_135 rfl ?_
  refine G_iconst (v := (-1)) hX dX8_init_136 rfl ?_
  refine G_iastT hX kA118 lA118 (Nat.le_of_ble_eq_true rfl) (by decide) dX8_init_137 ?_
  refine G_iinc (v := 1) (lv' := [some (.ref 117), some (.int 1)]) hX dX8_init_138 rfl (by decide) rfl (Nat.le_of_ble_eq_true rfl) rfl ?_
  refine G_goto (tgt := 126) hX dX8_init_141 rfl ?_
  refine G_iload_n hX dX8_init_126 rfl ?_
  refine G_iconst (v := 4) hX dX8_init_127 rfl ?_
  refine G_icmp_ge (A := (none : Option Unit)) (B := some ()) (r := ()) (tgt := 144) hX dX8_init_128 rfl (by decide) (fun h => by cases h) (fun _ => ?_)
  refine G_aload_n hX dX8_init_131 rfl ?_
  refine G_getR (i := 0) (t := 118) hX kA117 (Nat.le_of_ble_eq_true rfl) (Nat.le_of_ble_eq_true rfl) rfl (by decide +kernel) flX8_7 dX8_init_132 ?_
  refine G_iload_n hX dX8_init_135 rfl ?_
  refine G_iconst (v := (-1)) hX dX8_init_136 rfl ?_
  refine G_iastT hX kA118 lA118 (Nat.le_of_ble_eq_true rfl) (by decide) dX8_init_137 ?_
  refine G_iinc (v := 2) (lv' := [some (.ref 117), some (.int 2)]) hX dX8_init_138 rfl (by decide) rfl (Nat.le_of_ble_eq_true rfl) rfl ?_
  refine G_goto (tgt := 126) hX dX8_init_141 rfl ?_
  refine G_iload_n hX dX8_init_126 rfl ?_
  refine G_iconst (v := 4) hX dX8_init_127 rfl ?_
  refine G_icmp_ge (A := (none : Option Unit)) (B := some ()) (r := ()) (tgt := 144) hX dX8_init_128 rfl (by decide) (fun h => by cases h) (fun _ => ?_)
  refine G_aload_n hX dX8_init_131 rfl ?_
  refine G_getR (i := 0) (t := 118) hX kA117 (Nat.le_of_ble_eq_true rfl) (Nat.le_of_ble_eq_true rfl) rfl (by decide +kernel) flX8_7 dX8_init_132 ?_
  refine G_iload_n hX dX8_init_135 rfl ?_
  refine G_iconst (v := (-1)) hX dX8_init_136 rfl ?_
  refine G_iastT hX kA118 lA118 (Nat.le_of_ble_eq_true rfl) (by decide) dX8_init_137 ?_
  refine G_iinc (v := 3) (lv' := [some (.ref 117), some (.int 3)]) hX dX8_init_138 rfl (by decide) rfl (Nat.le_of_ble_eq_true rfl) rfl ?_
  refine G_goto (tgt := 126) hX dX8_init_141 rfl ?_
  refine G_iload_n hX dX8_init_126 rfl ?_
  refine G_iconst (v := 4) hX dX8_init_127 rfl ?_
  refine G_icmp_ge (A := (none : Option Unit)) (B := some ()) (r := ()) (tgt := 144) hX dX8_init_128 rfl (by decide) (fun h => by cases h) (fun _ => ?_)
  refine G_aload_n hX dX8_init_131 rfl ?_
  refine G_getR (i := 0) (t := 118) hX kA117 (Nat.le_of_ble_eq_true rfl) (Nat.le_of_ble_eq_true rfl) rfl (by decide +kernel) flX8_7 dX8_init_132 ?_
  refine G_iload_n hX dX8_init_135 rfl ?_
  refine G_iconst (v := (-1)) hX dX8_init_136 rfl ?_
  refine G_iastT hX kA118 lA118 (Nat.le_of_ble_eq_true rfl) (by decide) dX8_init_137 ?_
  refine G_iinc (v := 4) (lv' := [some (.ref 117), some (.int 4)]) hX dX8_init_138 rfl (by decide) rfl (Nat.le_of_ble_eq_true rfl) rfl ?_
  refine G_goto (tgt := 126) hX dX8_init_141 rfl ?_
  refine G_iload_n hX dX8_init_126 rfl ?_
  refine G_iconst (v := 4) hX dX8_init_127 rfl ?_
  refine G_icmp_ge (A := some ()) (B := (none : Option Unit)) (r := ()) (tgt := 144) hX dX8_init_128 rfl (by decide) (fun _ => ?_) (fun h => by cases h)
  exact G_vret hX hR dX8_init_144
theorem Pt_key : ((List.range 133).all fun k => (List.range 30).all fun j => (Pst k j).isNone || SETL.any (fun q => q.1 == k && q.2 == j)) = true := by decide +kernel
theorem Pt_all : Pt 131 = Pst := by
  have ht : SETL.take 131 = SETL := rfl
  funext k j
  unfold Pt
  rw [ht]
  by_cases hm : (k, j) ∈ SETL
  · rw [if_pos hm]
  · rw [if_neg hm]
    by_cases hk : k < 133
    · by_cases hj : j < 30
      · have h1 := List.all_eq_true.mp (List.all_eq_true.mp Pt_key k (List.mem_range.mpr hk)) j (List.mem_range.mpr hj)
        rcases Bool.or_eq_true_iff.mp h1 with h | h
        · cases hp : Pst k j with
          | none => rfl
          | some x => rw [hp] at h; cases h
        · obtain ⟨q, hq, hqe⟩ := List.any_eq_true.mp h
          simp at hqe
          exact absurd (by rw [← hqe.1, ← hqe.2]; exact hq) hm
      · exact (Pst_big (by omega)).symm
    · unfold Pst
      rw [kd_none (by omega)]
      rfl
