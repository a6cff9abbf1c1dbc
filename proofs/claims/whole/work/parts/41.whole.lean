/-! THE CLAIM OUT OF ONE WALK OF THE LAW'S BODY. Your part is whole_start (and what it stands on); all else here is the same for every law, but numbers. -/
def R_law : String := "RivalSorryLaw"
def lw_P (b : Addr) (xs : List Int32) (args : Array Value) (s : State) : Prop := args = #[.ref b] ∧ s.IntsAt b xs ∧ xs.length ≤ 3584 ∧ (Jvm.Cond.and given_1 narrow_1).before args s = true
def lw_Q (_ : Array Value) (s : State) (o : Outcome) (t : State) : Prop := o = .returned (some (.int 1)) ∧ Framed s o t [] 600000 7302250
def lw_Z (below : List Frame) (a : Array Value) (s : State) : State → Prop := fun t => ∃ o, t.status = .running ∧ Ended t below o ∧ lw_Q a s o t
/-- the law's own end, with 1 on the stack, nothing written that was there before, its room as the claim has it -/
theorem lw_ret {p : Program} {l : Launch} {e : Env} {s : State} {m : MethodId} {below : List Frame} {meth : Method} {c : Code} {b : Nat} (hx : p.tables.exec = Jvm.exec) (hb : c.code = code) (hr : meth.sig.returnType = ret) (hlocks : meth.locks = false) {pc : Nat} {H : Heap} {ls : Array Slot} (hdg : decode code pc = .ok (.ireturn, 1)) : W p l e room_1 s m #[Value.ref b] below meth c H [] 600000 7302250 (lw_Z below #[Value.ref b] s) (F0 m pc ls [.int 1]) := by
  intro T hT X
  obtain ⟨fs, hret, hrun, hended, hW, hframe⟩ := X.leave (v := some (.int 1)) (hlocks := hlocks) (fun h => by rw [hr] at h; cases h)
  have hmeth' : T.vm.method? m = some meth := X.method'
  refine ⟨T.setFrames fs, ?_, .returned (some (.int 1)), hrun, hended, rfl, ⟨_, rfl⟩, hW, hframe⟩
  jvm_step X.here [X.here.top, hx, hb, hdg, hmeth', hr, ret, narrow_b1]
  (try refine ⟨rfl, ?_⟩); (try refine ⟨rfl, ?_⟩)
  first | (intro acts; rw [hret _ acts rfl rfl rfl]) | rw [hret _ _ rfl rfl rfl]
  exact Steps.refl _
/-- what holds at the law's entry: the machine, the code, the tables' words (any of lw_tbl by 'hts w (by decide +kernel)'), the script of L ints xs at the cell b, what the Statement gives of the start (any of its parts by flat_of_before) -/
def lw_At (p : Program) (s : State) (m : MethodId) (meth : Method) (c : Code) (b L : Nat) (xs : Nat → Int32) : Prop :=
  p.tables.exec = Jvm.exec ∧ c.code = code ∧ meth.sig.returnType = ret ∧ c.maxLocals = 4 ∧ s.vm.findClass R_law = some m.cls ∧ (∀ w ∈ lw_tbl, w.before #[Value.ref b] s = true) ∧ va_X b L xs s s.heap ∧ b < s.heap.size ∧ meth.locks = false ∧ (Jvm.Cond.and given_1 narrow_1).before #[Value.ref b] s = true

def U00 : Um := (fun _ _ => 0, fun _ _ => 0)
def UA : Um := sI (sI (sI (sI U00 91 1 (-1)) 93 1 (-1)) 95 1 (-1)) 97 1 (-1)
/-- the memory when both objects are made -/
def U0 : Um := sI (sI (sI (sI UA 118 (0 : Int32).toNatClampNeg (-1)) 118 (1 : Int32).toNatClampNeg (-1)) 118 (2 : Int32).toNatClampNeg (-1)) 118 (3 : Int32).toNatClampNeg (-1)
def PURE : Prop := ∀ (L : Nat) (xs : Nat → Int32), L ≤ 3584 → ∃ (i : Int32) (u : Um), lp (fun s => fL_law_b18 L xs s.1 s.2) fuel ((0 : Int32), U0) = some (1, i, u)
theorem ZB_00 : ZB U00 0 := fun _ _ => ⟨fun _ => rfl, fun _ => rfl⟩
theorem ZB_A : ZB UA 117 := ZB_sI (ZB_sI (ZB_sI (ZB_sI (fun k hk => ZB_00 k (Nat.zero_le _)) (by decide)) (by decide)) (by decide)) (by decide)
set_option maxHeartbeats 4000000 in
set_option maxRecDepth 100000 in
theorem law_walk {w : Wc} {X : MX} {L : Nat} {xs : Nat → Int32} (hX : OKc w X RL cL_law 13) (hS : SC w X L xs) (hL : L ≤ 3584) (hp : PURE) (hc : 600000 ≤ X.2.2.2.1.cells ∧ 7302250 ≤ X.2.2.2.1.slots) (hend : ∀ (lv : List (Option Value)) (u : Um), G w X Zl 1280 lv [.int 1] u) : G w X (0, 0, Pt 0, 0, true) 0 [some (.ref 1000001), none, none, none] [] U00 := by
  obtain ⟨hc1, hc2⟩ := hc
  refine G_newO (N := 9) hX noL_7 kA0 (Nat.le_of_ble_eq_true rfl) (fun i => rfl) (Pt_fresh (by decide +kernel)) (by omega) (by omega) dL_law_0 ?_
  refine G_dup hX dL_law_3 rfl ?_
  refine G_callI (mc := 116) (ms := 3665) (u' := UA) hX ciL_9 (cX7 w (fun k hk => ZB_00 k (Nat.zero_le _))) (Nat.le_of_ble_eq_true rfl) (Nat.le_of_ble_eq_true rfl) dL_law_4 ⟨by omega, by omega⟩ ?_
  refine G_astore_n (lv' := [some (.ref 1000001), some (.ref 0), none, none]) hX dL_law_7 rfl (Nat.le_of_ble_eq_true rfl) rfl ?_
  refine G_newO (N := 19) (nx := 117) hX noL_10 kA117 (Nat.le_of_ble_eq_true rfl) (fun i => (ZB_A 117 (Nat.le_refl _)).1 i) (Pt_fresh (by decide +kernel)) (by omega) (by omega) dL_law_8 ?_
  refine G_dup hX dL_law_11 rfl ?_
  refine G_callI (mc := 15) (ms := 3252) (u' := U0) hX ciL_12 (cX8 w (fun k hk => ZB_A k (by omega))) (Nat.le_of_ble_eq_true rfl) (Nat.le_of_ble_eq_true rfl) dL_law_12 ⟨by omega, by omega⟩ ?_
  refine G_astore_n (lv' := [some (.ref 1000001), some (.ref 0), some (.ref 117), none]) hX dL_law_15 rfl (Nat.le_of_ble_eq_true rfl) rfl ?_
  rw [Pt_all]
  refine G_loose ?_
  refine G_iconst (v := 0) hX dL_law_16 rfl ?_
  refine G_istore_n (lv' := [some (.ref 1000001), some (.ref 0), some (.ref 117), some (.int 0)]) hX dL_law_17 rfl (Nat.le_of_ble_eq_true rfl) rfl ?_
  obtain ⟨i, u, h⟩ := hp L xs hL
  refine lp_G (body := (fun s => fL_law_b18 L xs s.1 s.2)) (Gh := fun s => G w X Zl 18 [some (.ref 1000001), some (.ref 0), some (.ref 117), some (.int s.1)] [] s.2) (Gx := fun e s => G w X Zl 1279 [none, none, none, none] [] s.2) (fun s e s' hb K0 K1 => tL_law_b18 (s := s) (e := e) (s' := s') hX hS hb K0 K1) fuel ((0 : Int32), U0) (1, i, u) h ?_
  refine G_iconst (v := 1) hX dL_law_1279 rfl ?_
  exact hend _ _
theorem wK_arr {s : State} {args : Array Value} {ty : FieldType} (h : (Cond.arrayClass ty).before args s = true) : ∃ cA : ClassId, ArrOfT s cA ty ∧ s.vm.findClass ("[" ++ ty.toString) = some cA := by
  obtain ⟨c, k, comp, h1, h2, h3⟩ := Cond.arrayClass_spec h
  exact ⟨c, fun n z => ⟨fun k h => (by cases h), k, h2, comp, h3⟩, h1⟩
theorem wK_arO {s : State} {args : Array Value} {C : String} (h : (Cond.arrayOver (.object C)).before args s = true) : ∃ cA : ClassId, ArrOfT s cA (.object C) ∧ va_RA s cA (.object C) := by
  obtain ⟨comp, c, k, h1, -, h2, h3, h4⟩ := Cond.arrayOver_spec h
  exact ⟨c, fun n z => ⟨fun k h => (by cases h), k, h2, comp, h3⟩, k, comp, h2, h3, h1, h4⟩
set_option maxHeartbeats 4000000 in
set_option maxRecDepth 100000 in
theorem whole_of (hp : PURE) {p : Program} {e : Env} {s : State} {m : MethodId} {below : List Frame} {meth : Method} {c : Code} (l : Launch) {b L : Nat} {xs : Nat → Int32} (hL : L ≤ 3584) (C0 : lw_At p s m meth c b L xs) : W p l e room_1 s m #[Value.ref b] below meth c s.heap [] 0 0 (lw_Z below #[Value.ref b] s) (entryFrame m ([Value.ref b] : List Value).toArray 4) := by
  obtain ⟨hx, hb, hr, hml, hown, hts, hXs, hbl, hlocks, hgv⟩ := id C0
  have hs := flat_of_before _ hgv
  have hA : ∀ a : Nat, a < s.heap.size → ¬ (fun q : Nat => s.heap.size ≤ q) a := fun a h => Nat.not_le.mpr h
  -- the table KIND_OVER
  obtain ⟨t, ht, hT⟩ := va_Tof (args := #[Value.ref b]) (s := s) (tm := .static "RivalSorry" "KIND_OVER" "[I") (ty := .int) (N := 6) (f := fun j => .int (kovV j)) (A := fun q : Nat => s.heap.size ≤ q) (by decide) (hs _ (by decide +kernel)) (va_eqt (hs _ (by decide +kernel))) (fun j hj => by
    rcases (show j = 0 ∨ j = 1 ∨ j = 2 ∨ j = 3 ∨ j = 4 ∨ j = 5 by omega) with rfl | rfl | rfl | rfl | rfl | rfl
    · exact va_eqt (z := -1) (hs (Cond.eq (.elem (.static "RivalSorry" "KIND_OVER" "[I") (.int 0)) (.int (-1))) (by decide +kernel))
    · exact va_eqt (z := 0) (hs (Cond.eq (.elem (.static "RivalSorry" "KIND_OVER" "[I") (.int 1)) (.int 0)) (by decide +kernel))
    · exact va_eqt (z := 1) (hs (Cond.eq (.elem (.static "RivalSorry" "KIND_OVER" "[I") (.int 2)) (.int 1)) (by decide +kernel))
    · exact va_eqt (z := 1) (hs (Cond.eq (.elem (.static "RivalSorry" "KIND_OVER" "[I") (.int 3)) (.int 1)) (by decide +kernel))
    · exact va_eqt (z := 0) (hs (Cond.eq (.elem (.static "RivalSorry" "KIND_OVER" "[I") (.int 4)) (.int 0)) (by decide +kernel))
    · exact va_eqt (z := 2) (hs (Cond.eq (.elem (.static "RivalSorry" "KIND_OVER" "[I") (.int 5)) (.int 2)) (by decide +kernel))) hA
  have hZ := va_Zref (args := #[Value.ref b]) (s := s) (C := "RivalSorry") (n := "KIND_OVER") (d := "[I") (hts (.laysStatic "RivalSorry" "KIND_OVER" "[I") (by decide +kernel)) (hts (.initialized "RivalSorry") (by decide +kernel)) ht hA
  -- the classes
  obtain ⟨c0, iS0, hKn0⟩ := u_known (C := RX0) (T := TX0) (N := 5) (n := 5) hts (fun q hq => (List.mem_filter.mp (uwX0 q hq)).1) (hts (.instantiable RX0 5) (by decide +kernel))
  obtain ⟨c1, iS1, hKn1⟩ := u_known (C := RX1) (T := TX1) (N := 3) (n := 3) hts (fun q hq => (List.mem_filter.mp (uwX1 q hq)).1) (hts (.instantiable RX1 3) (by decide +kernel))
  obtain ⟨c2, iS2, hKn2⟩ := u_known (C := RX2) (T := TX2) (N := 4) (n := 4) hts (fun q hq => (List.mem_filter.mp (uwX2 q hq)).1) (hts (.instantiable RX2 4) (by decide +kernel))
  obtain ⟨c3, iS3, hKn3⟩ := u_known (C := RX3) (T := TX3) (N := 3) (n := 3) hts (fun q hq => (List.mem_filter.mp (uwX3 q hq)).1) (hts (.instantiable RX3 3) (by decide +kernel))
  obtain ⟨c4, iS4, hKn4⟩ := u_known (C := RX4) (T := TX4) (N := 2) (n := 2) hts (fun q hq => (List.mem_filter.mp (uwX4 q hq)).1) (hts (.instantiable RX4 2) (by decide +kernel))
  obtain ⟨c5, iS5, hKn5⟩ := u_known (C := RX5) (T := TX5) (N := 3) (n := 3) hts (fun q hq => (List.mem_filter.mp (uwX5 q hq)).1) (hts (.instantiable RX5 3) (by decide +kernel))
  obtain ⟨c6, iS6, hKn6⟩ := u_known (C := RX6) (T := TX6) (N := 3) (n := 3) hts (fun q hq => (List.mem_filter.mp (uwX6 q hq)).1) (hts (.instantiable RX6 3) (by decide +kernel))
  obtain ⟨c7, iS7, hKn7⟩ := u_known (C := RX7) (T := TX7) (N := 9) (n := 9) hts (fun q hq => (List.mem_filter.mp (uwX7 q hq)).1) (hts (.instantiable RX7 9) (by decide +kernel))
  obtain ⟨c8, iS8, hKn8⟩ := u_known (C := RX8) (T := TX8) (N := 19) (n := 19) hts (fun q hq => (List.mem_filter.mp (uwX8 q hq)).1) (hts (.instantiable RX8 19) (by decide +kernel))
  obtain ⟨dC, dI, hKc⟩ : ∃ (dC : Nat → ClassId) (dI : Nat → Nat → Nat), ∀ (k : Nat) (q : vw_C), vwCl[k]? = some q → u_Kn s q.1 q.2.1 q.2.2 (dC k) (dI k) := by
    refine ⟨fun k => [c0, c1, c2, c3, c4, c5, c6, c7, c8].getD k 0, fun k => [iS0, iS1, iS2, iS3, iS4, iS5, iS6, iS7, iS8].getD k (fun _ => 0), ?_⟩
    intro k q hq
    match k, hq with
    | 0, hq => cases hq; exact hKn0
    | 1, hq => cases hq; exact hKn1
    | 2, hq => cases hq; exact hKn2
    | 3, hq => cases hq; exact hKn3
    | 4, hq => cases hq; exact hKn4
    | 5, hq => cases hq; exact hKn5
    | 6, hq => cases hq; exact hKn6
    | 7, hq => cases hq; exact hKn7
    | 8, hq => cases hq; exact hKn8
    | k + 9, hq => simp [vwCl] at hq
  obtain ⟨y0, a0, b0⟩ := wK_arr (args := #[Value.ref b]) (ty := .int) (hts (.arrayClass .int) (by decide +kernel))
  obtain ⟨y1, a1, b1⟩ := wK_arr (args := #[Value.ref b]) (ty := .long) (hts (.arrayClass .long) (by decide +kernel))
  obtain ⟨y2, a2, b2⟩ := wK_arr (args := #[Value.ref b]) (ty := .boolean) (hts (.arrayClass .boolean) (by decide +kernel))
  have o3 := hts (.arrayOver (.object RX0)) (by decide +kernel)
  have o4 := hts (.arrayOver (.object RX5)) (by decide +kernel)
  obtain ⟨y3, a3, b3⟩ := wK_arO o3
  obtain ⟨y4, a4, b4⟩ := wK_arO o4
  let w : Wc := (s.heap.size, t, b, L, xs, (dC, dI), fun k => [y0, y1, y2, y3, y4].getD k 0)
  have hK : va_K (wD w) vwCl (wT w) s := by
    refine ⟨hKc, fun k q hq => ?_⟩
    match k, hq with
    | 0, hq => cases hq; exact ⟨a0, b0⟩
    | 1, hq => cases hq; exact ⟨a1, b1⟩
    | 2, hq => cases hq; exact ⟨a2, b2⟩
    | 3, hq => cases hq; exact ⟨a3, b3⟩
    | 4, hq => cases hq; exact ⟨a4, b4⟩
    | k + 5, hq => simp [wT] at hq
  have hN : ∀ q ∈ NSL, va_Nw (.methodLinkNest q.1 q.2.1 q.2.2 RX7) s := by
    intro q hq
    have hm : Cond.methodLinkNest q.1 q.2.1 q.2.2 RX7 ∈ lw_tbl := by
      have key : ∀ q ∈ NSL, Cond.methodLinkNest q.1 q.2.1 q.2.2 RX7 ∈ lw_tbl := by decide +kernel
      exact key q hq
    exact va_Nw.of rfl (hts _ hm)
  have hST : STW w s := ⟨hZ, hT, hN, va_AO.of o3, va_AO.of o4⟩
  have hX : OKc w (p, l, e, room_1, s, m, #[Value.ref b], below, meth, c, lw_Z below #[Value.ref b] s) RL cL_law 13 :=
    ⟨hx, hb, hown, fun q hq => hts q (List.mem_filter.mp hq).1, hK, hST, Nat.le_refl _, Nat.le_of_ble_eq_true rfl, Nat.le_of_ble_eq_true rfl⟩
  have hS : SC w (p, l, e, room_1, s, m, #[Value.ref b], below, meth, c, lw_Z below #[Value.ref b] s) L xs := ⟨hXs, hbl, Nat.not_le.mpr hbl, Nat.le_of_ble_eq_true rfl, Nat.le_of_ble_eq_true rfl⟩
  have hg := law_walk hX hS hL hp ⟨Nat.le_refl _, Nat.le_refl _⟩ (fun lv u H locs ls h1 h2 h3 h4 => va_forget (fun q hq => h3.2.2 q hq) (W.widen (k := 600000) (n := 7302250) (by decide) (by decide) (lw_ret hx hb hr hlocks dL_law_1280)))
  rw [lg_entry_eq]
  have he := LVs.entry w [.ref 1000001] (n := 4) (by decide)
  refine hg s.heap [] _ (fun _ => rfl) (fun k q h => by simp [wld] at h) va_S.rf ?_
  show LVs w _ c.maxLocals _
  rw [hml]
  exact he
