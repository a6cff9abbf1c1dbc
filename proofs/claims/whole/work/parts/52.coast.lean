theorem ltl0 {n : Nat} (h : n < 2 ^ 31) : (0 : Int32) < nI n ↔ 0 < n := nI_ltI (a := 0) (by decide) h
theorem ltr0 {n : Nat} (h : n < 2 ^ 31) : nI n < (0 : Int32) ↔ n < 0 := nI_ltI (b := 0) h (by decide)
theorem lel0 {n : Nat} (h : n < 2 ^ 31) : (0 : Int32) ≤ nI n ↔ 0 ≤ n := nI_leI (a := 0) (by decide) h
theorem ler0 {n : Nat} (h : n < 2 ^ 31) : nI n ≤ (0 : Int32) ↔ n ≤ 0 := nI_leI (b := 0) h (by decide)
theorem eqr0 {n : Nat} (h : n < 2 ^ 31) : nI n = (0 : Int32) ↔ n = 0 := nI_eq (b := 0) h (by decide)
theorem ltl1 {n : Nat} (h : n < 2 ^ 31) : (1 : Int32) < nI n ↔ 1 < n := nI_ltI (a := 1) (by decide) h
theorem ltr1 {n : Nat} (h : n < 2 ^ 31) : nI n < (1 : Int32) ↔ n < 1 := nI_ltI (b := 1) h (by decide)
theorem lel1 {n : Nat} (h : n < 2 ^ 31) : (1 : Int32) ≤ nI n ↔ 1 ≤ n := nI_leI (a := 1) (by decide) h
theorem ler1 {n : Nat} (h : n < 2 ^ 31) : nI n ≤ (1 : Int32) ↔ n ≤ 1 := nI_leI (b := 1) h (by decide)
theorem eqr1 {n : Nat} (h : n < 2 ^ 31) : nI n = (1 : Int32) ↔ n = 1 := nI_eq (b := 1) h (by decide)
theorem ltl2 {n : Nat} (h : n < 2 ^ 31) : (2 : Int32) < nI n ↔ 2 < n := nI_ltI (a := 2) (by decide) h
theorem ltr2 {n : Nat} (h : n < 2 ^ 31) : nI n < (2 : Int32) ↔ n < 2 := nI_ltI (b := 2) h (by decide)
theorem lel2 {n : Nat} (h : n < 2 ^ 31) : (2 : Int32) ≤ nI n ↔ 2 ≤ n := nI_leI (a := 2) (by decide) h
theorem ler2 {n : Nat} (h : n < 2 ^ 31) : nI n ≤ (2 : Int32) ↔ n ≤ 2 := nI_leI (b := 2) h (by decide)
theorem eqr2 {n : Nat} (h : n < 2 ^ 31) : nI n = (2 : Int32) ↔ n = 2 := nI_eq (b := 2) h (by decide)
theorem ltl3 {n : Nat} (h : n < 2 ^ 31) : (3 : Int32) < nI n ↔ 3 < n := nI_ltI (a := 3) (by decide) h
theorem ltr3 {n : Nat} (h : n < 2 ^ 31) : nI n < (3 : Int32) ↔ n < 3 := nI_ltI (b := 3) h (by decide)
theorem lel3 {n : Nat} (h : n < 2 ^ 31) : (3 : Int32) ≤ nI n ↔ 3 ≤ n := nI_leI (a := 3) (by decide) h
theorem ler3 {n : Nat} (h : n < 2 ^ 31) : nI n ≤ (3 : Int32) ↔ n ≤ 3 := nI_leI (b := 3) h (by decide)
theorem eqr3 {n : Nat} (h : n < 2 ^ 31) : nI n = (3 : Int32) ↔ n = 3 := nI_eq (b := 3) h (by decide)
theorem ltl4 {n : Nat} (h : n < 2 ^ 31) : (4 : Int32) < nI n ↔ 4 < n := nI_ltI (a := 4) (by decide) h
theorem ltr4 {n : Nat} (h : n < 2 ^ 31) : nI n < (4 : Int32) ↔ n < 4 := nI_ltI (b := 4) h (by decide)
theorem lel4 {n : Nat} (h : n < 2 ^ 31) : (4 : Int32) ≤ nI n ↔ 4 ≤ n := nI_leI (a := 4) (by decide) h
theorem ler4 {n : Nat} (h : n < 2 ^ 31) : nI n ≤ (4 : Int32) ↔ n ≤ 4 := nI_leI (b := 4) h (by decide)
theorem eqr4 {n : Nat} (h : n < 2 ^ 31) : nI n = (4 : Int32) ↔ n = 4 := nI_eq (b := 4) h (by decide)
theorem ltl5 {n : Nat} (h : n < 2 ^ 31) : (5 : Int32) < nI n ↔ 5 < n := nI_ltI (a := 5) (by decide) h
theorem ltr5 {n : Nat} (h : n < 2 ^ 31) : nI n < (5 : Int32) ↔ n < 5 := nI_ltI (b := 5) h (by decide)
theorem lel5 {n : Nat} (h : n < 2 ^ 31) : (5 : Int32) ≤ nI n ↔ 5 ≤ n := nI_leI (a := 5) (by decide) h
theorem ler5 {n : Nat} (h : n < 2 ^ 31) : nI n ≤ (5 : Int32) ↔ n ≤ 5 := nI_leI (b := 5) h (by decide)
theorem eqr5 {n : Nat} (h : n < 2 ^ 31) : nI n = (5 : Int32) ↔ n = 5 := nI_eq (b := 5) h (by decide)
theorem ltl6 {n : Nat} (h : n < 2 ^ 31) : (6 : Int32) < nI n ↔ 6 < n := nI_ltI (a := 6) (by decide) h
theorem ltr6 {n : Nat} (h : n < 2 ^ 31) : nI n < (6 : Int32) ↔ n < 6 := nI_ltI (b := 6) h (by decide)
theorem lel6 {n : Nat} (h : n < 2 ^ 31) : (6 : Int32) ≤ nI n ↔ 6 ≤ n := nI_leI (a := 6) (by decide) h
theorem ler6 {n : Nat} (h : n < 2 ^ 31) : nI n ≤ (6 : Int32) ↔ n ≤ 6 := nI_leI (b := 6) h (by decide)
theorem eqr6 {n : Nat} (h : n < 2 ^ 31) : nI n = (6 : Int32) ↔ n = 6 := nI_eq (b := 6) h (by decide)
theorem ltl7 {n : Nat} (h : n < 2 ^ 31) : (7 : Int32) < nI n ↔ 7 < n := nI_ltI (a := 7) (by decide) h
theorem ltr7 {n : Nat} (h : n < 2 ^ 31) : nI n < (7 : Int32) ↔ n < 7 := nI_ltI (b := 7) h (by decide)
theorem lel7 {n : Nat} (h : n < 2 ^ 31) : (7 : Int32) ≤ nI n ↔ 7 ≤ n := nI_leI (a := 7) (by decide) h
theorem ler7 {n : Nat} (h : n < 2 ^ 31) : nI n ≤ (7 : Int32) ↔ n ≤ 7 := nI_leI (b := 7) h (by decide)
theorem eqr7 {n : Nat} (h : n < 2 ^ 31) : nI n = (7 : Int32) ↔ n = 7 := nI_eq (b := 7) h (by decide)
theorem ltl8 {n : Nat} (h : n < 2 ^ 31) : (8 : Int32) < nI n ↔ 8 < n := nI_ltI (a := 8) (by decide) h
theorem ltr8 {n : Nat} (h : n < 2 ^ 31) : nI n < (8 : Int32) ↔ n < 8 := nI_ltI (b := 8) h (by decide)
theorem lel8 {n : Nat} (h : n < 2 ^ 31) : (8 : Int32) ≤ nI n ↔ 8 ≤ n := nI_leI (a := 8) (by decide) h
theorem ler8 {n : Nat} (h : n < 2 ^ 31) : nI n ≤ (8 : Int32) ↔ n ≤ 8 := nI_leI (b := 8) h (by decide)
theorem eqr8 {n : Nat} (h : n < 2 ^ 31) : nI n = (8 : Int32) ↔ n = 8 := nI_eq (b := 8) h (by decide)
theorem ltl9 {n : Nat} (h : n < 2 ^ 31) : (9 : Int32) < nI n ↔ 9 < n := nI_ltI (a := 9) (by decide) h
theorem ltr9 {n : Nat} (h : n < 2 ^ 31) : nI n < (9 : Int32) ↔ n < 9 := nI_ltI (b := 9) h (by decide)
theorem lel9 {n : Nat} (h : n < 2 ^ 31) : (9 : Int32) ≤ nI n ↔ 9 ≤ n := nI_leI (a := 9) (by decide) h
theorem ler9 {n : Nat} (h : n < 2 ^ 31) : nI n ≤ (9 : Int32) ↔ n ≤ 9 := nI_leI (b := 9) h (by decide)
theorem eqr9 {n : Nat} (h : n < 2 ^ 31) : nI n = (9 : Int32) ↔ n = 9 := nI_eq (b := 9) h (by decide)
theorem ltl10 {n : Nat} (h : n < 2 ^ 31) : (10 : Int32) < nI n ↔ 10 < n := nI_ltI (a := 10) (by decide) h
theorem ltr10 {n : Nat} (h : n < 2 ^ 31) : nI n < (10 : Int32) ↔ n < 10 := nI_ltI (b := 10) h (by decide)
theorem lel10 {n : Nat} (h : n < 2 ^ 31) : (10 : Int32) ≤ nI n ↔ 10 ≤ n := nI_leI (a := 10) (by decide) h
theorem ler10 {n : Nat} (h : n < 2 ^ 31) : nI n ≤ (10 : Int32) ↔ n ≤ 10 := nI_leI (b := 10) h (by decide)
theorem eqr10 {n : Nat} (h : n < 2 ^ 31) : nI n = (10 : Int32) ↔ n = 10 := nI_eq (b := 10) h (by decide)
theorem ltl24 {n : Nat} (h : n < 2 ^ 31) : (24 : Int32) < nI n ↔ 24 < n := nI_ltI (a := 24) (by decide) h
theorem ltr24 {n : Nat} (h : n < 2 ^ 31) : nI n < (24 : Int32) ↔ n < 24 := nI_ltI (b := 24) h (by decide)
theorem lel24 {n : Nat} (h : n < 2 ^ 31) : (24 : Int32) ≤ nI n ↔ 24 ≤ n := nI_leI (a := 24) (by decide) h
theorem ler24 {n : Nat} (h : n < 2 ^ 31) : nI n ≤ (24 : Int32) ↔ n ≤ 24 := nI_leI (b := 24) h (by decide)
theorem eqr24 {n : Nat} (h : n < 2 ^ 31) : nI n = (24 : Int32) ↔ n = 24 := nI_eq (b := 24) h (by decide)
theorem ltl48 {n : Nat} (h : n < 2 ^ 31) : (48 : Int32) < nI n ↔ 48 < n := nI_ltI (a := 48) (by decide) h
theorem ltr48 {n : Nat} (h : n < 2 ^ 31) : nI n < (48 : Int32) ↔ n < 48 := nI_ltI (b := 48) h (by decide)
theorem lel48 {n : Nat} (h : n < 2 ^ 31) : (48 : Int32) ≤ nI n ↔ 48 ≤ n := nI_leI (a := 48) (by decide) h
theorem ler48 {n : Nat} (h : n < 2 ^ 31) : nI n ≤ (48 : Int32) ↔ n ≤ 48 := nI_leI (b := 48) h (by decide)
theorem eqr48 {n : Nat} (h : n < 2 ^ 31) : nI n = (48 : Int32) ↔ n = 48 := nI_eq (b := 48) h (by decide)
theorem ltl32 {n : Nat} (h : n < 2 ^ 31) : (32 : Int32) < nI n ↔ 32 < n := nI_ltI (a := 32) (by decide) h
theorem ltr32 {n : Nat} (h : n < 2 ^ 31) : nI n < (32 : Int32) ↔ n < 32 := nI_ltI (b := 32) h (by decide)
theorem lel32 {n : Nat} (h : n < 2 ^ 31) : (32 : Int32) ≤ nI n ↔ 32 ≤ n := nI_leI (a := 32) (by decide) h
theorem ler32 {n : Nat} (h : n < 2 ^ 31) : nI n ≤ (32 : Int32) ↔ n ≤ 32 := nI_leI (b := 32) h (by decide)
theorem eqr32 {n : Nat} (h : n < 2 ^ 31) : nI n = (32 : Int32) ↔ n = 32 := nI_eq (b := 32) h (by decide)
theorem ltl130 {n : Nat} (h : n < 2 ^ 31) : (130 : Int32) < nI n ↔ 130 < n := nI_ltI (a := 130) (by decide) h
theorem ltr130 {n : Nat} (h : n < 2 ^ 31) : nI n < (130 : Int32) ↔ n < 130 := nI_ltI (b := 130) h (by decide)
theorem lel130 {n : Nat} (h : n < 2 ^ 31) : (130 : Int32) ≤ nI n ↔ 130 ≤ n := nI_leI (a := 130) (by decide) h
theorem ler130 {n : Nat} (h : n < 2 ^ 31) : nI n ≤ (130 : Int32) ↔ n ≤ 130 := nI_leI (b := 130) h (by decide)
theorem eqr130 {n : Nat} (h : n < 2 ^ 31) : nI n = (130 : Int32) ↔ n = 130 := nI_eq (b := 130) h (by decide)
theorem ltl255 {n : Nat} (h : n < 2 ^ 31) : (255 : Int32) < nI n ↔ 255 < n := nI_ltI (a := 255) (by decide) h
theorem ltr255 {n : Nat} (h : n < 2 ^ 31) : nI n < (255 : Int32) ↔ n < 255 := nI_ltI (b := 255) h (by decide)
theorem lel255 {n : Nat} (h : n < 2 ^ 31) : (255 : Int32) ≤ nI n ↔ 255 ≤ n := nI_leI (a := 255) (by decide) h
theorem ler255 {n : Nat} (h : n < 2 ^ 31) : nI n ≤ (255 : Int32) ↔ n ≤ 255 := nI_leI (b := 255) h (by decide)
theorem eqr255 {n : Nat} (h : n < 2 ^ 31) : nI n = (255 : Int32) ↔ n = 255 := nI_eq (b := 255) h (by decide)
theorem ltl9999 {n : Nat} (h : n < 2 ^ 31) : (9999 : Int32) < nI n ↔ 9999 < n := nI_ltI (a := 9999) (by decide) h
theorem ltr9999 {n : Nat} (h : n < 2 ^ 31) : nI n < (9999 : Int32) ↔ n < 9999 := nI_ltI (b := 9999) h (by decide)
theorem lel9999 {n : Nat} (h : n < 2 ^ 31) : (9999 : Int32) ≤ nI n ↔ 9999 ≤ n := nI_leI (a := 9999) (by decide) h
theorem ler9999 {n : Nat} (h : n < 2 ^ 31) : nI n ≤ (9999 : Int32) ↔ n ≤ 9999 := nI_leI (b := 9999) h (by decide)
theorem eqr9999 {n : Nat} (h : n < 2 ^ 31) : nI n = (9999 : Int32) ↔ n = 9999 := nI_eq (b := 9999) h (by decide)
theorem ix3 {n : Nat} (h : n < 1000) : ((3 : Int32) + nI n).toNatClampNeg = 3 + n := by rw [show (3 : Int32) = nI 3 from rfl, nI_add]; exact nI_clamp (by omega)
theorem ib3 {n s : Nat} (hs : ln s = 83) (h : 3 + n < 83) : inb ((3 : Int32) + nI n) (ln s) = true := by rw [hs, show (3 : Int32) = nI 3 from rfl, nI_add]; exact inbN h (by decide)
theorem ic3 {n : Nat} (h : 3 + n < 83) : inb ((3 : Int32) + nI n) 83 = true := by rw [show (3 : Int32) = nI 3 from rfl, nI_add]; exact inbN h (by decide)
theorem ix9 {n : Nat} (h : n < 1000) : ((9 : Int32) + nI n).toNatClampNeg = 9 + n := by rw [show (9 : Int32) = nI 9 from rfl, nI_add]; exact nI_clamp (by omega)
theorem ib9 {n s : Nat} (hs : ln s = 83) (h : 9 + n < 83) : inb ((9 : Int32) + nI n) (ln s) = true := by rw [hs, show (9 : Int32) = nI 9 from rfl, nI_add]; exact inbN h (by decide)
theorem ic9 {n : Nat} (h : 9 + n < 83) : inb ((9 : Int32) + nI n) 83 = true := by rw [show (9 : Int32) = nI 9 from rfl, nI_add]; exact inbN h (by decide)
theorem ix15 {n : Nat} (h : n < 1000) : ((15 : Int32) + nI n).toNatClampNeg = 15 + n := by rw [show (15 : Int32) = nI 15 from rfl, nI_add]; exact nI_clamp (by omega)
theorem ib15 {n s : Nat} (hs : ln s = 83) (h : 15 + n < 83) : inb ((15 : Int32) + nI n) (ln s) = true := by rw [hs, show (15 : Int32) = nI 15 from rfl, nI_add]; exact inbN h (by decide)
theorem ic15 {n : Nat} (h : 15 + n < 83) : inb ((15 : Int32) + nI n) 83 = true := by rw [show (15 : Int32) = nI 15 from rfl, nI_add]; exact inbN h (by decide)
theorem ix21 {n : Nat} (h : n < 1000) : ((21 : Int32) + nI n).toNatClampNeg = 21 + n := by rw [show (21 : Int32) = nI 21 from rfl, nI_add]; exact nI_clamp (by omega)
theorem ib21 {n s : Nat} (hs : ln s = 83) (h : 21 + n < 83) : inb ((21 : Int32) + nI n) (ln s) = true := by rw [hs, show (21 : Int32) = nI 21 from rfl, nI_add]; exact inbN h (by decide)
theorem ic21 {n : Nat} (h : 21 + n < 83) : inb ((21 : Int32) + nI n) 83 = true := by rw [show (21 : Int32) = nI 21 from rfl, nI_add]; exact inbN h (by decide)
theorem ix27 {n : Nat} (h : n < 1000) : ((27 : Int32) + nI n).toNatClampNeg = 27 + n := by rw [show (27 : Int32) = nI 27 from rfl, nI_add]; exact nI_clamp (by omega)
theorem ib27 {n s : Nat} (hs : ln s = 83) (h : 27 + n < 83) : inb ((27 : Int32) + nI n) (ln s) = true := by rw [hs, show (27 : Int32) = nI 27 from rfl, nI_add]; exact inbN h (by decide)
theorem ic27 {n : Nat} (h : 27 + n < 83) : inb ((27 : Int32) + nI n) 83 = true := by rw [show (27 : Int32) = nI 27 from rfl, nI_add]; exact inbN h (by decide)
theorem ix33 {n : Nat} (h : n < 1000) : ((33 : Int32) + nI n).toNatClampNeg = 33 + n := by rw [show (33 : Int32) = nI 33 from rfl, nI_add]; exact nI_clamp (by omega)
theorem ib33 {n s : Nat} (hs : ln s = 83) (h : 33 + n < 83) : inb ((33 : Int32) + nI n) (ln s) = true := by rw [hs, show (33 : Int32) = nI 33 from rfl, nI_add]; exact inbN h (by decide)
theorem ic33 {n : Nat} (h : 33 + n < 83) : inb ((33 : Int32) + nI n) 83 = true := by rw [show (33 : Int32) = nI 33 from rfl, nI_add]; exact inbN h (by decide)
theorem ix39 {n : Nat} (h : n < 1000) : ((39 : Int32) + nI n).toNatClampNeg = 39 + n := by rw [show (39 : Int32) = nI 39 from rfl, nI_add]; exact nI_clamp (by omega)
theorem ib39 {n s : Nat} (hs : ln s = 83) (h : 39 + n < 83) : inb ((39 : Int32) + nI n) (ln s) = true := by rw [hs, show (39 : Int32) = nI 39 from rfl, nI_add]; exact inbN h (by decide)
theorem ic39 {n : Nat} (h : 39 + n < 83) : inb ((39 : Int32) + nI n) 83 = true := by rw [show (39 : Int32) = nI 39 from rfl, nI_add]; exact inbN h (by decide)
theorem ix45 {n : Nat} (h : n < 1000) : ((45 : Int32) + nI n).toNatClampNeg = 45 + n := by rw [show (45 : Int32) = nI 45 from rfl, nI_add]; exact nI_clamp (by omega)
theorem ib45 {n s : Nat} (hs : ln s = 83) (h : 45 + n < 83) : inb ((45 : Int32) + nI n) (ln s) = true := by rw [hs, show (45 : Int32) = nI 45 from rfl, nI_add]; exact inbN h (by decide)
theorem ic45 {n : Nat} (h : 45 + n < 83) : inb ((45 : Int32) + nI n) 83 = true := by rw [show (45 : Int32) = nI 45 from rfl, nI_add]; exact inbN h (by decide)
theorem ix51 {n : Nat} (h : n < 1000) : ((51 : Int32) + nI n).toNatClampNeg = 51 + n := by rw [show (51 : Int32) = nI 51 from rfl, nI_add]; exact nI_clamp (by omega)
theorem ib51 {n s : Nat} (hs : ln s = 83) (h : 51 + n < 83) : inb ((51 : Int32) + nI n) (ln s) = true := by rw [hs, show (51 : Int32) = nI 51 from rfl, nI_add]; exact inbN h (by decide)
theorem ic51 {n : Nat} (h : 51 + n < 83) : inb ((51 : Int32) + nI n) 83 = true := by rw [show (51 : Int32) = nI 51 from rfl, nI_add]; exact inbN h (by decide)
theorem ix59 {n : Nat} (h : n < 1000) : ((59 : Int32) + nI n).toNatClampNeg = 59 + n := by rw [show (59 : Int32) = nI 59 from rfl, nI_add]; exact nI_clamp (by omega)
theorem ib59 {n s : Nat} (hs : ln s = 83) (h : 59 + n < 83) : inb ((59 : Int32) + nI n) (ln s) = true := by rw [hs, show (59 : Int32) = nI 59 from rfl, nI_add]; exact inbN h (by decide)
theorem ic59 {n : Nat} (h : 59 + n < 83) : inb ((59 : Int32) + nI n) 83 = true := by rw [show (59 : Int32) = nI 59 from rfl, nI_add]; exact inbN h (by decide)
theorem ix67 {n : Nat} (h : n < 1000) : ((67 : Int32) + nI n).toNatClampNeg = 67 + n := by rw [show (67 : Int32) = nI 67 from rfl, nI_add]; exact nI_clamp (by omega)
theorem ib67 {n s : Nat} (hs : ln s = 83) (h : 67 + n < 83) : inb ((67 : Int32) + nI n) (ln s) = true := by rw [hs, show (67 : Int32) = nI 67 from rfl, nI_add]; exact inbN h (by decide)
theorem ic67 {n : Nat} (h : 67 + n < 83) : inb ((67 : Int32) + nI n) 83 = true := by rw [show (67 : Int32) = nI 67 from rfl, nI_add]; exact inbN h (by decide)
theorem ix75 {n : Nat} (h : n < 1000) : ((75 : Int32) + nI n).toNatClampNeg = 75 + n := by rw [show (75 : Int32) = nI 75 from rfl, nI_add]; exact nI_clamp (by omega)
theorem ib75 {n s : Nat} (hs : ln s = 83) (h : 75 + n < 83) : inb ((75 : Int32) + nI n) (ln s) = true := by rw [hs, show (75 : Int32) = nI 75 from rfl, nI_add]; exact inbN h (by decide)
theorem ic75 {n : Nat} (h : 75 + n < 83) : inb ((75 : Int32) + nI n) 83 = true := by rw [show (75 : Int32) = nI 75 from rfl, nI_add]; exact inbN h (by decide)
theorem n4_ne {n : Nat} (h : n < 2 ^ 31) : ¬ nI n = (-4 : Int32) := by
  intro e
  have h1 := congrArg Int32.toInt e
  rw [nI_toInt h] at h1
  have : (-4 : Int32).toInt = -4 := by decide
  omega
theorem bd1s {α γ : Type} (a : α) (k : α → Option γ) : bd1 (some a) k = k a := rfl
theorem bd2s {α β γ : Type} (a : α) (b : β) (k : α → β → Option γ) : bd2 (some (a, b)) k = k a b := rfl
theorem tr_at (a : Nat) {p k : Nat} (u : Um) (hp : p < 6) (hk : k < 8) : fX0_trait a (nI p) (nI k) u = some (u.1 (a + 1) (8 * p + k)) := by
  have e : (nI p * 8 + nI k : Int32) = nI (8 * p + k) := by rw [show (8 : Int32) = nI 8 from rfl, pk_mul, nI_add, Nat.mul_comm]
  have hn : 8 * p + k < 2 ^ 31 := by omega
  unfold fX0_trait
  simp only [nm]
  rw [e, if_neg (by rw [ltr0 hn]; omega), if_pos (by rw [ltr48 hn]; omega), if_pos (inbN (by omega) (by decide)), nI_clamp hn]
theorem pt_at (a : Nat) {w k : Nat} (u : Um) (hw : w < 8) (hk : k < 4) : fX0_part a (nI w) (nI k) u = some (u.1 (a + 2) (4 * w + k)) := by
  have e : (nI w * 4 + nI k : Int32) = nI (4 * w + k) := by rw [show (4 : Int32) = nI 4 from rfl, pk_mul, nI_add, Nat.mul_comm]
  have hn : 4 * w + k < 2 ^ 31 := by omega
  unfold fX0_part
  simp only [nm]
  rw [e, if_neg (by rw [ltr0 hn]; omega), if_pos (by rw [ltr32 hn]; omega), if_pos (inbN (by omega) (by decide)), nI_clamp hn]
theorem str_at (a : Nat) {p k : Nat} (v : Int32) (u : Um) (hp : p < 6) (hk : k < 8) : fX0_setTrait a (nI p) (nI k) v u = some (sI u (a + 1) (8 * p + k) v) := by
  have e : (nI p * 8 + nI k : Int32) = nI (8 * p + k) := by rw [show (8 : Int32) = nI 8 from rfl, pk_mul, nI_add, Nat.mul_comm]
  have hn : 8 * p + k < 2 ^ 31 := by omega
  unfold fX0_setTrait
  simp only [nm]
  rw [e, if_neg (by rw [ltr0 hn]; omega), if_neg (by rw [lel48 hn]; omega), if_pos (inbN (by omega) (by decide)), nI_clamp hn]
theorem spt_at (a : Nat) {w k : Nat} (v : Int32) (u : Um) (hw : w < 8) (hk : k < 4) : fX0_setPart a (nI w) (nI k) v u = some (sI u (a + 2) (4 * w + k) v) := by
  have e : (nI w * 4 + nI k : Int32) = nI (4 * w + k) := by rw [show (4 : Int32) = nI 4 from rfl, pk_mul, nI_add, Nat.mul_comm]
  have hn : 4 * w + k < 2 ^ 31 := by omega
  unfold fX0_setPart
  simp only [nm]
  rw [e, if_neg (by rw [ltr0 hn]; omega), if_neg (by rw [lel32 hn]; omega), if_pos (inbN (by omega) (by decide)), nI_clamp hn]
theorem tR0 {u : Um} {a P W p : Nat} {c : Nat → Int32} (hR : RC u a c P W) (hP : P ≤ 6) (hp : p < P) : fX0_trait a (nI p) 0 u = some (c (3 + p)) := by
  have h := tr_at a (p := p) (k := 0) u (by omega) (by decide)
  rw [hR.2.2.2.1 p 0 hp (by decide)] at h
  exact h
theorem tR1 {u : Um} {a P W p : Nat} {c : Nat → Int32} (hR : RC u a c P W) (hP : P ≤ 6) (hp : p < P) : fX0_trait a (nI p) 1 u = some (c (9 + p)) := by
  have h := tr_at a (p := p) (k := 1) u (by omega) (by decide)
  rw [hR.2.2.2.1 p 1 hp (by decide)] at h
  exact h
theorem tR2 {u : Um} {a P W p : Nat} {c : Nat → Int32} (hR : RC u a c P W) (hP : P ≤ 6) (hp : p < P) : fX0_trait a (nI p) 2 u = some (c (15 + p)) := by
  have h := tr_at a (p := p) (k := 2) u (by omega) (by decide)
  rw [hR.2.2.2.1 p 2 hp (by decide)] at h
  exact h
theorem tR3 {u : Um} {a P W p : Nat} {c : Nat → Int32} (hR : RC u a c P W) (hP : P ≤ 6) (hp : p < P) : fX0_trait a (nI p) 3 u = some (c (21 + p)) := by
  have h := tr_at a (p := p) (k := 3) u (by omega) (by decide)
  rw [hR.2.2.2.1 p 3 hp (by decide)] at h
  exact h
theorem tR4 {u : Um} {a P W p : Nat} {c : Nat → Int32} (hR : RC u a c P W) (hP : P ≤ 6) (hp : p < P) : fX0_trait a (nI p) 4 u = some (c (27 + p)) := by
  have h := tr_at a (p := p) (k := 4) u (by omega) (by decide)
  rw [hR.2.2.2.1 p 4 hp (by decide)] at h
  exact h
theorem tR5 {u : Um} {a P W p : Nat} {c : Nat → Int32} (hR : RC u a c P W) (hP : P ≤ 6) (hp : p < P) : fX0_trait a (nI p) 5 u = some (c (33 + p)) := by
  have h := tr_at a (p := p) (k := 5) u (by omega) (by decide)
  rw [hR.2.2.2.1 p 5 hp (by decide)] at h
  exact h
theorem tR6 {u : Um} {a P W p : Nat} {c : Nat → Int32} (hR : RC u a c P W) (hP : P ≤ 6) (hp : p < P) : fX0_trait a (nI p) 6 u = some (c (39 + p)) := by
  have h := tr_at a (p := p) (k := 6) u (by omega) (by decide)
  rw [hR.2.2.2.1 p 6 hp (by decide)] at h
  exact h
theorem tR7 {u : Um} {a P W p : Nat} {c : Nat → Int32} (hR : RC u a c P W) (hP : P ≤ 6) (hp : p < P) : fX0_trait a (nI p) 7 u = some (c (45 + p)) := by
  have h := tr_at a (p := p) (k := 7) u (by omega) (by decide)
  rw [hR.2.2.2.1 p 7 hp (by decide)] at h
  exact h
theorem pR0 {u : Um} {a P W w : Nat} {c : Nat → Int32} (hR : RC u a c P W) (hW : W ≤ 8) (hw : w < W) : fX0_part a (nI w) 0 u = some (c (51 + w)) := by
  have h := pt_at a (w := w) (k := 0) u (by omega) (by decide)
  rw [hR.2.2.2.2 w 0 hw (by decide)] at h
  exact h
theorem pR1 {u : Um} {a P W w : Nat} {c : Nat → Int32} (hR : RC u a c P W) (hW : W ≤ 8) (hw : w < W) : fX0_part a (nI w) 1 u = some (c (59 + w)) := by
  have h := pt_at a (w := w) (k := 1) u (by omega) (by decide)
  rw [hR.2.2.2.2 w 1 hw (by decide)] at h
  exact h
theorem pR2 {u : Um} {a P W w : Nat} {c : Nat → Int32} (hR : RC u a c P W) (hW : W ≤ 8) (hw : w < W) : fX0_part a (nI w) 2 u = some (c (67 + w)) := by
  have h := pt_at a (w := w) (k := 2) u (by omega) (by decide)
  rw [hR.2.2.2.2 w 2 hw (by decide)] at h
  exact h
theorem pR3 {u : Um} {a P W w : Nat} {c : Nat → Int32} (hR : RC u a c P W) (hW : W ≤ 8) (hw : w < W) : fX0_part a (nI w) 3 u = some (c (75 + w)) := by
  have h := pt_at a (w := w) (k := 3) u (by omega) (by decide)
  rw [hR.2.2.2.2 w 3 hw (by decide)] at h
  exact h
/-! what a row says -/
def sNeed (c : Nat → Int32) (w : Nat) : Int32 := c (67 + w) + c (15 + nN (c (59 + w))) / 2
def sMil (c : Nat → Int32) (w p : Nat) : Int32 := if c (27 + p) ≤ c (21 + nN (c (59 + w))) then c (21 + nN (c (59 + w))) - c (27 + p) else c (27 + p) - c (21 + nN (c (59 + w)))
def sSay (k s ca m : Int32) : Int32 := if k = 1 then s else if k = 2 then s + 2 else if k = 3 then s / 2 else if k = 4 then ca + 2 else (s + 2) + m / 2
def sSaid (c : Nat → Int32) (w p : Nat) : Int32 := sSay (c (3 + p)) (c (9 + p)) (c (39 + p)) (sMil c w p)
def sOv (x y : Int32) : Bool := decide (x < 5) != decide (y < 5)
def sMay (c : Nat → Int32) (w p : Nat) : Prop := c (75 + w) = -4 ∧ c (33 + p) = c (51 + w) ∧ ¬ nI p = c (59 + w) ∧ (irm (c 0) 2 = 0 ∨ sOv (c (27 + p)) (c (21 + nN (c (59 + w)))) = false)
def sCom (c : Nat → Int32) (w p : Nat) : Int32 := if sNeed c w ≤ sSaid c w p then (if sSaid c w p < sNeed c w + 4 then 1 else if c (45 + nN (c (59 + w))) = -4 then 2 else 1) else 0
theorem whom_of {c : Nat → Int32} {P W dd w : Nat} (hV : VR c P W dd) (hw : w < W) : ∃ q, q < P ∧ c (59 + w) = nI q ∧ nN (c (59 + w)) = q := by
  obtain ⟨q, h1, h2⟩ := (hV.2.2.2.2.2.2.2 w hw).2.1
  have hP := hV.2.2.2.1
  exact ⟨q, h1, h2, by rw [h2]; exact nI_clamp (by omega)⟩
theorem need_c {u : Um} {a P W dd w : Nat} {c : Nat → Int32} (hR : RC u a c P W) (hV : VR c P W dd) (hw : w < W) : fX0_need a (nI w) u = some (sNeed c w) := by
  obtain ⟨q, q1, q2, q3⟩ := whom_of hV hw
  unfold fX0_need
  rw [pR2 hR hV.2.2.2.2.1 hw, bd1s, pR1 hR hV.2.2.2.2.1 hw, bd1s]
  show bd1 (fX0_trait a (c (59 + w)) 2 u) _ = _
  rw [q2, tR2 hR hV.2.2.2.1 q1, bd1s]
  unfold sNeed
  rw [q3]
theorem abs_mil : ∀ x, x < 10 → ∀ y, y < 10 → abI (nI x - nI y) = (if nI x ≤ nI y then nI y - nI x else nI x - nI y) := by decide +kernel
theorem mil_c {u : Um} {a P W dd w p : Nat} {c : Nat → Int32} (hR : RC u a c P W) (hV : VR c P W dd) (hw : w < W) (hp : p < P) : fX0_milesOf a (nI w) (nI p) u = some (sMil c w p) := by
  obtain ⟨q, q1, q2, q3⟩ := whom_of hV hw
  obtain ⟨x, x1, x2⟩ := (hV.2.2.2.2.2.2.1 p hp).2.2.2.2.1
  obtain ⟨y, y1, y2⟩ := (hV.2.2.2.2.2.2.1 q q1).2.2.2.1
  unfold fX0_milesOf
  rw [tR4 hR hV.2.2.2.1 hp, bd1s, pR1 hR hV.2.2.2.2.1 hw, bd1s]
  show bd1 (fX0_trait a (c (59 + w)) 3 u) _ = _
  rw [q2, tR3 hR hV.2.2.2.1 q1, bd1s]
  unfold sMil
  rw [q3]
  show some (abI (c (27 + p) - c (21 + q))) = _
  rw [x2, y2, abs_mil x (by omega) y (by omega)]
theorem say_c {k s ca m : Int32} {n : Nat} (u : Um) (h1 : 1 ≤ n) (h5 : n ≤ 5) (hk : k = nI n) : fX7_sayingOf k s ca m u = some (sSay k s ca m) := by
  rcases (show n = 1 ∨ n = 2 ∨ n = 3 ∨ n = 4 ∨ n = 5 by omega) with rfl | rfl | rfl | rfl | rfl <;> subst hk <;> rfl
theorem said_c {u : Um} {a P W dd w p : Nat} {c : Nat → Int32} (hR : RC u a c P W) (hV : VR c P W dd) (hw : w < W) (hp : p < P) : fX0_saying a (nI w) (nI p) u = some (sSaid c w p) := by
  obtain ⟨k, k1, k2, k3⟩ := (hV.2.2.2.2.2.2.1 p hp).1
  unfold fX0_saying
  rw [tR0 hR hV.2.2.2.1 hp, bd1s, tR1 hR hV.2.2.2.1 hp, bd1s, tR6 hR hV.2.2.2.1 hp, bd1s, mil_c hR hV hw hp, bd1s, say_c u k1 k2 k3, bd1s]
  rfl
theorem open_c {u : Um} {a P W dd w : Nat} {c : Nat → Int32} (hR : RC u a c P W) (hV : VR c P W dd) (hw : w < W) : fX0_isOpen a (nI w) u = some (if c (75 + w) = -4 then 1 else 0) := by
  unfold fX0_isOpen
  rw [pR3 hR hV.2.2.2.2.1 hw, bd1s]
  show (if c (75 + w) = -4 then some (1 : Int32) else some 0) = _
  split <;> rfl
theorem bar_c {x y : Nat} {dy : Int32} (u : Um) (hx : x ≤ 9) (hy : y ≤ 9) : fX7_isBarred (nI x) (nI y) dy u = some (if irm dy 2 = 0 ∨ sOv (nI x) (nI y) = false then 0 else 1) := by
  have e1 := ltl4 (n := x) (by omega)
  have e2 := ltl4 (n := y) (by omega)
  have e3 := ltr5 (n := x) (by omega)
  have e4 := ltr5 (n := y) (by omega)
  unfold fX7_isBarred fX7_isBarred_j10 fX7_isBarred_j20 fX7_isBarred_j28 sOv
  by_cases g1 : 4 < x <;> by_cases g2 : 4 < y <;> by_cases g3 : irm dy 2 = 0
  all_goals
    have g1' : ¬ x < 5 ↔ 4 < x := by omega
    have g2' : ¬ y < 5 ↔ 4 < y := by omega
    simp [e1, e2, e3, e4, g1, g2, g3, show (x < 5) = ¬ (4 < x) by simp; omega, show (y < 5) = ¬ (4 < y) by simp; omega]
theorem hasP_y {u : Um} {a P p : Nat} (h : u.1 a 2 = nI P) (hP : P ≤ 6) (hp : p < P) : fX0_hasPerson a (nI p) u = some 1 := by
  unfold fX0_hasPerson
  rw [if_neg (nI_pos (by omega)), h, if_neg (nI_ge hp (by omega))]
theorem hasP_n {u : Um} {a P : Nat} {x : Int32} (h : u.1 a 2 = nI P) (hx : x < 0 ∨ nI P ≤ x) : fX0_hasPerson a x u = some 0 := by
  unfold fX0_hasPerson
  rw [h]
  rcases hx with hx | hx
  · rw [if_pos hx]
  · by_cases h0 : x < 0
    · rw [if_pos h0]
    · rw [if_neg h0, if_pos hx]
theorem hasW_y {u : Um} {a W p : Nat} (h : u.1 a 3 = nI W) (hW : W ≤ 8) (hp : p < W) : fX0_hasWrong a (nI p) u = some 1 := by
  unfold fX0_hasWrong
  rw [if_neg (nI_pos (by omega)), h, if_neg (nI_ge hp (by omega))]
theorem hasW_n {u : Um} {a W : Nat} {x : Int32} (h : u.1 a 3 = nI W) (hx : x < 0 ∨ nI W ≤ x) : fX0_hasWrong a x u = some 0 := by
  unfold fX0_hasWrong
  rw [h]
  rcases hx with hx | hx
  · rw [if_pos hx]
  · by_cases h0 : x < 0
    · rw [if_pos h0]
    · rw [if_neg h0, if_pos hx]
theorem may_c {u : Um} {a P W dd w p : Nat} {c : Nat → Int32} (hR : RC u a c P W) (hV : VR c P W dd) (hw : w < W) (hp : p < P) : (sMay c w p → fX0_mayCarry a (nI w) (nI p) u = some 1) ∧ (¬ sMay c w p → fX0_mayCarry a (nI w) (nI p) u = some 0) := by
  obtain ⟨q, q1, q2, q3⟩ := whom_of hV hw
  obtain ⟨x, x1, x2⟩ := (hV.2.2.2.2.2.2.1 p hp).2.2.2.2.1
  obtain ⟨y, y1, y2⟩ := (hV.2.2.2.2.2.2.1 q q1).2.2.2.1
  have hP := hV.2.2.2.1
  have hW := hV.2.2.2.2.1
  have e : fX0_mayCarry a (nI w) (nI p) u = if c (75 + w) = -4 then (if c (33 + p) = c (51 + w) then (if nI p = c (59 + w) then some 0 else (if irm (c 0) 2 = 0 ∨ sOv (c (27 + p)) (c (21 + q)) = false then some 1 else some 0)) else some 0) else some 0 := by
    unfold fX0_mayCarry
    rw [hasW_y (hR.2.1.trans hV.2.1) hW hw, bd1s, if_neg (by decide), hasP_y (hR.1.trans hV.1) hP hp, bd1s, if_neg (by decide), open_c hR hV hw, bd1s]
    by_cases h1 : c (75 + w) = -4
    · rw [if_pos h1, if_pos h1, if_neg (by decide), pR1 hR hW hw, bd1s, tR5 hR hP hp, bd1s, pR0 hR hW hw, bd1s]
      show (if c (33 + p) = c (51 + w) then _ else _) = _
      by_cases h2 : c (33 + p) = c (51 + w)
      · rw [if_pos h2, if_pos h2]
        show (if nI p = c (59 + w) then _ else _) = _
        by_cases h3 : nI p = c (59 + w)
        · rw [if_pos h3, if_pos h3]
        · rw [if_neg h3, if_neg h3, tR4 hR hP hp, bd1s]
          show bd1 (fX0_trait a (c (59 + w)) 3 u) _ = _
          rw [q2, tR3 hR hP q1, bd1s, hR.2.2.1]
          show bd1 (fX7_isBarred (c (27 + p)) (c (21 + q)) (c 0) u) _ = _
          rw [x2, y2, bar_c u x1 y1, bd1s]
          by_cases h4 : irm (c 0) 2 = 0 ∨ sOv (nI x) (nI y) = false
          · rw [if_pos h4, if_pos rfl, if_pos h4]
          · rw [if_neg h4, if_neg (by decide), if_neg h4]
      · rw [if_neg h2, if_neg h2]
    · rw [if_neg h1, if_neg h1, if_pos rfl]
  unfold sMay
  rw [e, q3]
  refine ⟨fun h => ?_, fun h => ?_⟩
  · obtain ⟨h1, h2, h3, h4⟩ := h
    rw [if_pos h1, if_pos h2, if_neg h3, if_pos h4]
  · by_cases h1 : c (75 + w) = -4
    · rw [if_pos h1]
      by_cases h2 : c (33 + p) = c (51 + w)
      · rw [if_pos h2]
        by_cases h3 : nI p = c (59 + w)
        · rw [if_pos h3]
        · rw [if_neg h3, if_neg (fun h4 => h ⟨h1, h2, h3, h4⟩)]
      · rw [if_neg h2]
    · rw [if_neg h1]
theorem com_c {u : Um} {a P W dd w p : Nat} {c : Nat → Int32} (hR : RC u a c P W) (hV : VR c P W dd) (hw : w < W) (hp : p < P) (hb : ∃ x y : Nat, x < 100000 ∧ y < 100000 ∧ sSaid c w p = nI x ∧ sNeed c w = nI y) : fX0_outcome a (nI w) (nI p) u = some (sCom c w p) := by
  obtain ⟨q, q1, q2, q3⟩ := whom_of hV hw
  obtain ⟨x, y, hx, hy, ex, ey⟩ := hb
  have hP := hV.2.2.2.1
  have hW := hV.2.2.2.2.1
  have hd : (nI x - nI y : Int32).toInt = (x : Int) - y := pk_sub_toInt (by omega) (by omega)
  have h0 : (0 : Int32) ≤ nI x - nI y ↔ nI y ≤ nI x := by
    rw [Int32.le_iff_toInt_le, hd, nI_leI (by omega) (by omega), Int32.toInt_zero]; omega
  have h4 : nI x - nI y < (4 : Int32) ↔ nI x < nI y + 4 := by
    rw [Int32.lt_iff_toInt_lt, hd, show (nI y + 4 : Int32) = nI (y + 4) from nI_add y 4, nI_ltI (by omega) (by omega), show (4 : Int32).toInt = 4 by decide]; omega
  unfold fX0_outcome
  rw [said_c hR hV hw hp, bd1s, need_c hR hV hw, bd1s]
  simp only [nm]
  unfold sCom
  rw [ex, ey]
  by_cases g0 : nI y ≤ nI x
  · rw [if_pos (h0.mpr g0), if_pos g0]
    by_cases g4 : nI x < nI y + 4
    · rw [if_pos (h4.mpr g4), if_pos g4]
    · rw [if_neg (fun h => g4 (h4.mp h)), if_neg g4, pR1 hR hW hw, bd1s]
      show bd1 (fX0_trait a (c (59 + w)) 7 u) _ = _
      rw [q2, tR7 hR hP q1, bd1s, show nN (nI q) = q from nI_clamp (by omega)]
      show (if c (45 + q) = -4 then _ else _) = _
      split <;> rfl
  · rw [if_neg (fun h => g0 (h0.mp h)), if_neg g0]
theorem small_dec : ∀ s, s < 10 → ∀ m, m < 10 → (∃ x, x < 100000 ∧ (nI s / 2 : Int32) = nI x) ∧ (∃ x, x < 100000 ∧ (nI s + 2 + nI m / 2 : Int32) = nI x) := by
  intro s hs m hm
  refine ⟨⟨s / 2, by omega, pk_div (d := 2) (by omega) (by decide) (by decide)⟩, ⟨s + 2 + m / 2, by omega, ?_⟩⟩
  rw [show (nI m / 2 : Int32) = nI (m / 2) from pk_div (d := 2) (by omega) (by decide) (by decide), show (nI s + 2 : Int32) = nI (s + 2) from nI_add s 2, nI_add]
theorem mil_b {c : Nat → Int32} {P W dd w p : Nat} (hV : VR c P W dd) (hw : w < W) (hp : p < P) : ∃ m, m < 10 ∧ sMil c w p = nI m := by
  obtain ⟨q, q1, q2, q3⟩ := whom_of hV hw
  obtain ⟨x, x1, x2⟩ := (hV.2.2.2.2.2.2.1 p hp).2.2.2.2.1
  obtain ⟨y, y1, y2⟩ := (hV.2.2.2.2.2.2.1 q q1).2.2.2.1
  unfold sMil
  rw [q3, x2, y2]
  by_cases h : x ≤ y
  · rw [if_pos (nI_le h (by omega)), pk_sub h]; exact ⟨y - x, by omega, rfl⟩
  · rw [if_neg (nI_ge (by omega) (by omega)), pk_sub (by omega)]; exact ⟨x - y, by omega, rfl⟩
theorem sn_b {c : Nat → Int32} {P W dd w p : Nat} (hV : VR c P W dd) (hw : w < W) (hp : p < P) : ∃ x y : Nat, x < 100000 ∧ y < 100000 ∧ sSaid c w p = nI x ∧ sNeed c w = nI y := by
  obtain ⟨q, q1, q2, q3⟩ := whom_of hV hw
  obtain ⟨⟨k, k1, k2, k3⟩, ⟨s, s1, s2⟩, -, -, -, -, ⟨ca, ca1, ca2⟩, -⟩ := hV.2.2.2.2.2.2.1 p hp
  obtain ⟨h, h1, h2⟩ := (hV.2.2.2.2.2.2.1 q q1).2.2.1
  obtain ⟨g, g1, g2, g3⟩ := (hV.2.2.2.2.2.2.2 w hw).2.2.1
  obtain ⟨m, m1, m2⟩ := mil_b hV hw hp
  have hdd := hV.2.2.2.2.2.1
  have hN : sNeed c w = nI (g + h / 2) := by
    unfold sNeed
    rw [q3, g3, h2, show (nI h / 2 : Int32) = nI (h / 2) from pk_div (d := 2) (by omega) (by decide) (by decide), nI_add]
  have hS : ∃ x, x < 100000 ∧ sSaid c w p = nI x := by
    unfold sSaid sSay
    rw [k3, s2, ca2, m2]
    rcases (show k = 1 ∨ k = 2 ∨ k = 3 ∨ k = 4 ∨ k = 5 by omega) with rfl | rfl | rfl | rfl | rfl
    · exact ⟨s, by omega, rfl⟩
    · exact ⟨s + 2, by omega, nI_add s 2⟩
    · exact (small_dec s (by omega) m m1).1
    · exact ⟨ca + 2, by omega, nI_add ca 2⟩
    · exact (small_dec s (by omega) m m1).2
  obtain ⟨x, x1, x2⟩ := hS
  exact ⟨x, g + h / 2, x1, by omega, x2, hN⟩
/-! the reference's side: a row at cell s -/
theorem need_m {u : Um} {s P W dd w : Nat} (hs : ln s = 83) (hV : VR (u.1 s) P W dd) (hw : w < W) : fX8_needOf s (nI w) u = some (sNeed (u.1 s) w) := by
  obtain ⟨q, q1, q2, q3⟩ := whom_of hV hw
  have hP := hV.2.2.2.1
  have hW := hV.2.2.2.2.1
  unfold fX8_needOf
  rw [if_pos (ib67 hs (by omega)), if_pos (ib59 hs (by omega)), ix59 (by omega), q2, if_pos (ib15 hs (by omega)), ix67 (by omega), ix15 (by omega)]
  unfold sNeed
  rw [q3]
theorem said_m {u : Um} {s P W dd w p : Nat} (hs : ln s = 83) (hV : VR (u.1 s) P W dd) (hw : w < W) (hp : p < P) : fX8_saidOf s (nI w) (nI p) u = some (sSaid (u.1 s) w p) := by
  obtain ⟨q, q1, q2, q3⟩ := whom_of hV hw
  have hP := hV.2.2.2.1
  have hW := hV.2.2.2.2.1
  unfold fX8_saidOf
  rw [if_pos (ib3 hs (by omega)), if_pos (ib9 hs (by omega)), if_pos (ib39 hs (by omega)), if_pos (ib27 hs (by omega)), if_pos (ib59 hs (by omega)), ix59 (by omega), q2, if_pos (ib21 hs (by omega)), ix27 (by omega), ix21 (by omega), ix3 (by omega), ix9 (by omega), ix39 (by omega)]
  have e1 : fX8_milesOf (u.1 s (27 + p)) (u.1 s (21 + q)) u = some (sMil (u.1 s) w p) := by
    unfold fX8_milesOf sMil
    rw [q3]
    split <;> rfl
  rw [e1, bd1s]
  have e2 : ∀ k sk ca m, fX8_saidBy k sk ca m u = some (sSay k sk ca m) := by
    intro k sk ca m
    unfold fX8_saidBy sSay
    split <;> try rfl
    split <;> try rfl
    split <;> try rfl
    split <;> rfl
  rw [e2, bd1s]
  rfl
theorem com_m {u : Um} {s P W dd w p : Nat} (hs : ln s = 83) (hV : VR (u.1 s) P W dd) (hw : w < W) (hp : p < P) : fX8_comesOf s (nI w) (nI p) u = some (sCom (u.1 s) w p) := by
  obtain ⟨q, q1, q2, q3⟩ := whom_of hV hw
  have hP := hV.2.2.2.1
  have hW := hV.2.2.2.2.1
  unfold fX8_comesOf
  rw [said_m hs hV hw hp, bd1s, need_m hs hV hw, bd1s, if_pos (ib59 hs (by omega)), ix59 (by omega), q2, if_pos (ib45 hs (by omega)), ix45 (by omega)]
  unfold sCom
  rw [q3]
  split
  · split
    · rfl
    · split <;> rfl
  · rfl
theorem ov_m {x y : Nat} (u : Um) (hx : x ≤ 9) (hy : y ≤ 9) : fX8_isOverSands (nI x) (nI y) u = some (if sOv (nI x) (nI y) = false then 0 else 1) := by
  have h : ∀ x, x < 10 → ∀ y, y < 10 → (∀ u : Um, fX8_isOverSands (nI x) (nI y) u = (if (5 : Int32) ≤ nI x then (if (5 : Int32) ≤ nI y then (if (0 : Int32) = 0 then some 0 else some 1) else (if (0 : Int32) = 1 then some 0 else some 1)) else (if (5 : Int32) ≤ nI y then (if (1 : Int32) = 0 then some 0 else some 1) else (if (1 : Int32) = 1 then some 0 else some 1)))) := fun x _ y _ u => rfl
  rw [h x (by omega) y (by omega)]
  have d : ∀ x, x < 10 → ∀ y, y < 10 → (if (5 : Int32) ≤ nI x then (if (5 : Int32) ≤ nI y then (if (0 : Int32) = 0 then some (0 : Int32) else some 1) else (if (0 : Int32) = 1 then some 0 else some 1)) else (if (5 : Int32) ≤ nI y then (if (1 : Int32) = 0 then some 0 else some 1) else (if (1 : Int32) = 1 then some 0 else some 1))) = some (if sOv (nI x) (nI y) = false then 0 else 1) := by decide +kernel
  exact d x (by omega) y (by omega)
theorem may_m {u : Um} {s P W dd w p : Nat} (hs : ln s = 83) (hV : VR (u.1 s) P W dd) (hw : w < W) (hp : p < P) : (sMay (u.1 s) w p → fX8_isMay s (nI w) (nI p) u = some 1) ∧ (¬ sMay (u.1 s) w p → fX8_isMay s (nI w) (nI p) u = some 0) := by
  obtain ⟨q, q1, q2, q3⟩ := whom_of hV hw
  obtain ⟨x, x1, x2⟩ := (hV.2.2.2.2.2.2.1 p hp).2.2.2.2.1
  obtain ⟨y, y1, y2⟩ := (hV.2.2.2.2.2.2.1 q q1).2.2.2.1
  have hP := hV.2.2.2.1
  have hW := hV.2.2.2.2.1
  have j53 : ∀ j z : Int32, fX8_isMay_j53 s (nI w) (nI p) j z u = if j = 0 then some 0 else (if u.1 s (33 + p) = u.1 s (51 + w) then (if nI p = u.1 s (59 + w) then some 0 else (if z = 0 then some 0 else some 1)) else some 0) := by
    intro j z
    unfold fX8_isMay_j53
    rw [if_pos (ib33 hs (by omega)), if_pos (ib51 hs (by omega)), if_pos (ib59 hs (by omega)), ix33 (by omega), ix51 (by omega), ix59 (by omega)]
  have j16 : ∀ z : Int32, fX8_isMay_j16 s (nI w) (nI p) z u = fX8_isMay_j53 s (nI w) (nI p) z (if irm (u.1 s 0) 2 = 0 ∨ sOv (u.1 s (27 + p)) (u.1 s (21 + q)) = false then 1 else 0) u := by
    intro z
    unfold fX8_isMay_j16 fX8_isMay_j48
    rw [if_pos (by rw [hs]; decide), if_pos (ib27 hs (by omega)), if_pos (ib59 hs (by omega)), ix59 (by omega), q2, if_pos (ib21 hs (by omega)), ix27 (by omega), ix21 (by omega), x2, y2, ov_m u x1 y1, bd1s]
    show (if irm (u.1 s 0) 2 = 0 then _ else _) = _
    by_cases h1 : irm (u.1 s 0) 2 = 0
    · rw [if_pos h1, if_pos (Or.inl h1)]
    · rw [if_neg h1]
      by_cases h2 : sOv (nI x) (nI y) = false
      · rw [if_pos h2, if_pos rfl, if_pos (Or.inr h2)]
      · rw [if_neg h2, if_neg (by decide), if_neg (fun h => h.elim h1 h2)]
  have e : fX8_isMay s (nI w) (nI p) u = if u.1 s (75 + w) = -4 then (if u.1 s (33 + p) = u.1 s (51 + w) then (if nI p = u.1 s (59 + w) then some 0 else (if irm (u.1 s 0) 2 = 0 ∨ sOv (u.1 s (27 + p)) (u.1 s (21 + q)) = false then some 1 else some 0)) else some 0) else some 0 := by
    unfold fX8_isMay
    rw [if_pos (ib75 hs (by omega)), ix75 (by omega), j16, j16, j53, j53]
    by_cases h1 : u.1 s (75 + w) = -4
    · rw [if_pos h1, if_pos h1, if_neg (by decide)]
      by_cases h2 : u.1 s (33 + p) = u.1 s (51 + w)
      · rw [if_pos h2, if_pos h2]
        by_cases h3 : nI p = u.1 s (59 + w)
        · rw [if_pos h3, if_pos h3]
        · rw [if_neg h3, if_neg h3]
          by_cases h4 : irm (u.1 s 0) 2 = 0 ∨ sOv (u.1 s (27 + p)) (u.1 s (21 + q)) = false
          · rw [if_pos h4, if_pos h4, if_neg (by decide)]
          · rw [if_neg h4, if_neg h4, if_pos rfl]
      · rw [if_neg h2, if_neg h2]
    · rw [if_neg h1, if_neg h1, if_pos rfl]
  unfold sMay
  rw [e, q3]
  refine ⟨fun h => ?_, fun h => ?_⟩
  · obtain ⟨h1, h2, h3, h4⟩ := h
    rw [if_pos h1, if_pos h2, if_neg h3, if_pos h4]
  · by_cases h1 : u.1 s (75 + w) = -4
    · rw [if_pos h1]
      by_cases h2 : u.1 s (33 + p) = u.1 s (51 + w)
      · rw [if_pos h2]
        by_cases h3 : nI p = u.1 s (59 + w)
        · rw [if_pos h3]
        · rw [if_neg h3, if_neg (fun h4 => h ⟨h1, h2, h3, h4⟩)]
      · rw [if_neg h2]
    · rw [if_neg h1]
