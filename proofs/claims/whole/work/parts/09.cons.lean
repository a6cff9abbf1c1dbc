/-! ===== making cells: the rows that constructors need (the heap's size is known) ===== -/
def fs0 (c : Nat) : List Value := (fty c).map (fun r => if r = true then Value.null else Value.int 0)
theorem encF_0 {w : Wc} {u : Um} {P : Pm} {a : Nat} (hz : ∀ i, u.1 a i = 0) (hp : ∀ i, P a i = none) : encF w u P a = fs0 (kd a) := by
  apply List.ext_getElem?
  intro i
  unfold encF fs0
  rw [List.getElem?_mapIdx, List.getElem?_map]
  cases (fty (kd a))[i]? with
  | none => rfl
  | some r => cases r <;> simp [hz, hp, va_rf]
theorem wld_succ {w : Wc} {u : Um} {P : Pm} {nx : Nat} : wld w u P (nx + 1) = wld w u P nx ++ [(w.1 + nx, enc w u P nx)] := by
  simp [wld, List.range_succ]
theorem wld_push {w : Wc} {u : Um} {P : Pm} {nx : Nat} {H H1 : Heap} (h2 : va_P (wD w) vwCl (wld w u P nx) H) (o1 : ∀ q : Nat, q < H.size → H1[q]? = H[q]?) (hat : va_at (wD w) vwCl (w.1 + nx, enc w u P nx) H1) : va_P (wD w) vwCl (wld w u P (nx + 1)) H1 := by
  rw [wld_succ]
  refine (h2.kept (fun k x hx => o1 x.1 ((h2 k x hx).lt))).app (fun k x hx => ?_)
  have hz : k < 1 := (List.getElem?_eq_some_iff.mp hx).1
  rw [show k = 0 by omega] at hx
  cases hx
  exact hat
theorem S_push {w : Wc} {H0 H H1 : Heap} {locs : List Loc} (h3 : va_S (wA w) H0 H locs) (z1 : H1.size = H.size + 1) (o1 : ∀ q : Nat, q < H.size → H1[q]? = H[q]?) : va_S (wA w) H0 H1 locs :=
  ⟨Nat.le_trans h3.1 (by omega), fun x a1 a2 => (o1 x (Nat.lt_of_lt_of_le a1 h3.1)).trans (h3.2.1 x a1 a2), h3.2.2⟩
def NO (o : String) (idx c N : Nat) : Prop := ∃ (C : String) (T : u_T) (ty0 : Nat → FieldType), vwCl[c]? = some (C, T, N) ∧ Cond.classLink o idx C ∈ tw ∧ Cond.instantiable C N ∈ tw ∧ Cond.initialized C ∈ tw ∧ (∀ q ∈ u_ws C T N, q ∈ tw) ∧ (∀ k, k < N → parseFieldDescriptor (T k).2.2.1 = some (ty0 k)) ∧ ∀ j, j < N → defaultValue (ty0 j) = vp_V (fs0 c) j
def FR (o : String) (c i : Nat) : Prop := ∃ (C : String) (T : u_T) (N : Nat) (ty0 : Nat → FieldType) (ty : FieldType), vwCl[c]? = some (C, T, N) ∧ (∀ k, k < N → parseFieldDescriptor (T k).2.2.1 = some (ty0 k)) ∧ (∀ a, a < N → ∀ b, b < N → a ≠ b → (T a).2.1 ≠ (T b).2.1) ∧ (T i).2.2.2 = true ∧ (T i).1 = o ∧ parseFieldDescriptor (T i).2.2.1 = some ty ∧ ∀ x : Nat, narrow ty (.ref x) = .ref x ∧ fits ty (.ref x) = true
theorem encF_setP {w : Wc} {u : Um} {P : Pm} {a c i t : Nat} (hk : kd a = c) (hi : (fty c)[i]? = some true) : (encF w u P a).set i (.ref (wAd w t)) = encF w u (sP P a i (some t)) a := by
  apply List.ext_getElem?
  intro j
  have hl : i < (encF w u P a).length := (List.getElem?_eq_some_iff.mp (encF_ref (w := w) (u := u) (P := P) hk hi)).1
  by_cases hj : j = i
  · subst hj
    rw [List.getElem?_set_self hl, encF_ref hk hi]
    simp [sP, va_up, va_rf]
  · rw [List.getElem?_set_ne (Ne.symm hj)]
    unfold encF
    rw [List.getElem?_mapIdx, List.getElem?_mapIdx]
    simp [sP, va_up, hj]
theorem enc_sP {w : Wc} {u : Um} {P : Pm} {a i j : Nat} {v : Option Nat} (h : j ≠ a) : enc w u (sP P a i v) j = enc w u P j := by
  have e : sP P a i v j = P j := by simp [sP, h]
  unfold enc encF
  rw [e]
theorem wld_P {w : Wc} {u : Um} {P : Pm} {nx a c i t : Nat} (hk : kd a = c) (hc : c < 9) (hi : (fty c)[i]? = some true) : (wld w u P nx).set a (w.1 + a, .inr (c, (encF w u P a).set i (.ref (wAd w t)))) = wld w u (sP P a i (some t)) nx :=
  wld_set (by rw [enc_O hk hc, encF_setP hk hi]) (fun j h => enc_sP h)
theorem row_P {w : Wc} {P : Pm} {a i t : Nat} : va_up (fun j => (P a j).map (wAd w)) i (some (wAd w t)) = fun j => (sP P a i (some t) a j).map (wAd w) := by
  funext j
  by_cases hj : j = i
  · subst hj; simp [va_up, sP]
  · simp [va_up, sP, hj]
theorem wld_AC {w : Wc} {u : Um} {P : Pm} {nx a n i t : Nat} (hk : kd a = 12) (hn : ln a = n) : (wld w u P nx).set a (w.1 + a, .inl (wcy w 3, n, .inr (.inr (.inr (.inr (va_up (fun j => (P a j).map (wAd w)) i (some (wAd w t)))))))) = wld w u (sP P a i (some t)) nx :=
  wld_set (by rw [enc_C hk hn, row_P]) (fun j h => enc_sP h)
theorem wld_AS {w : Wc} {u : Um} {P : Pm} {nx a n i t : Nat} (hk : kd a = 13) (hn : ln a = n) : (wld w u P nx).set a (w.1 + a, .inl (wcy w 4, n, .inr (.inr (.inr (.inr (va_up (fun j => (P a j).map (wAd w)) i (some (wAd w t)))))))) = wld w u (sP P a i (some t)) nx :=
  wld_set (by rw [enc_S hk hn, row_P]) (fun j h => enc_sP h)
section GC
variable {w : Wc} {X : MX} {cs sl nx : Nat} {P : Pm} {o : String} {cc : ByteArray} {d pc : Nat} {lv lv' : List (Option Value)} {st : List Value} {u : Um}
theorem G_newO (hX : OKc w X o cc d) {idx c N : Nat} (hn : NO o idx c N) (hk : kd nx = c) (hc : c < 9) (hz : ∀ i, u.1 nx i = 0) (hp : ∀ i, P nx i = none) (hcells : cs + 1 ≤ X.2.2.2.1.cells) (hslots : sl + N ≤ X.2.2.2.1.slots) (hd : decode cc pc = .ok (.new idx, 3)) (k : G w X (cs + 1, sl + N, P, nx + 1, true) (pc + 3) lv (.ref nx :: st) u) : G w X (cs, sl, P, nx, true) pc lv st u := by
  intro H locs ls h1 h2 h3 h4
  have hsz : H.size = w.1 + nx := h1 rfl
  obtain ⟨C, T, ty0, e1, e2, e3, e4, e5, e6, e7⟩ := hn
  have hKn := hX.2.2.2.2.1.1 c _ e1
  refine W.newcK hX.1 hX.2.1 hX.2.2.1 (hX.2.2.2.1 _ e2) (hX.2.2.2.1 _ e3) (hX.2.2.2.1 _ e4) rfl hd hcells hslots hKn.2.1 hsz fun H1 kC hkC g1 z1 o1 => ?_
  have hcell : va_at (wD w) vwCl (w.1 + nx, enc w u P nx) H1 := by
    rw [enc_O hk hc, encF_0 hz hp, hk]
    exact ⟨_, e1, (u_born ty0 hX.2.2.2.1 e5 hKn hkC g1 e6).to e7⟩
  have hh := k H1 locs ls (fun _ => by rw [z1]; show w.1 + nx + 1 = w.1 + (nx + 1); omega) (wld_push h2 (by rw [hsz]; exact o1) hcell) (S_push h3 (by rw [z1, hsz]) (by rw [hsz]; exact o1)) h4
  rw [List.map_cons, tv_a w (kd_lt hk (by omega))] at hh
  exact hh
theorem G_newA (hX : OKc w X o cc d) {atype : ArrayType} {n : Int32} {N : Nat} {ty : FieldType} (i : Nat) (hty : newarray.typeOf atype = ty) (hti : (wT w)[i]? = some (wcy w i, ty)) (harr : Cond.arrayClass ty ∈ tw) (hnr : refKind ty = false) (henc : ∀ cA : ClassId, cA = wcy w i → va_at (wD w) vwCl (w.1 + nx, enc w u P nx) = fun H1 : Heap => H1[w.1 + nx]? = some (arrV cA N (fun _ => defaultValue ty))) (hx : nx < 133) (hn : ¬ n < 0) (hN : n.toNatClampNeg = N) (hbytes : N * componentBytes ty ≤ 536870912) (hcells : cs + 1 ≤ X.2.2.2.1.cells) (hslots : sl + N ≤ X.2.2.2.1.slots) (hra : ∀ (U : State) (cA : ClassId), va_RA U cA ty → U.vm.findClass ("[" ++ ty.toString) = some cA) (hd : decode cc pc = .ok (.newarray atype, 2)) (k : G w X (cs + 1, sl + N, P, nx + 1, true) (pc + 2) lv (.ref nx :: st) u) : G w X (cs, sl, P, nx, true) pc lv (.int n :: st) u := by
  subst hty
  intro H locs ls h1 h2 h3 h4
  have hsz : H.size = w.1 + nx := h1 rfl
  refine va_newaK hX.1 hX.2.1 (hX.2.2.2.1 _ harr) rfl hd rfl hn hN hbytes hcells hslots hsz fun H1 cA g1 z1 o1 hAr hNm => ?_
  have hcA : cA = wcy w i := Option.some.inj (hNm.symm.trans (hra _ _ (hX.2.2.2.2.1.2 i _ hti).2))
  have hh := k H1 locs ls (fun _ => by rw [z1]; show w.1 + nx + 1 = w.1 + (nx + 1); omega) (wld_push h2 (by rw [hsz]; exact o1) (by rw [henc cA hcA]; exact g1)) (S_push h3 (by rw [z1, hsz]) (by rw [hsz]; exact o1)) h4
  rw [List.map_cons, tv_a w hx] at hh
  exact hh
theorem G_newI (hX : OKc w X o cc d) {n : Int32} {N : Nat} (hk : kd nx = 9) (hl : ln nx = N) (hz : ∀ i, u.1 nx i = 0) (harr : Cond.arrayClass .int ∈ tw) (hn : ¬ n < 0) (hN : n.toNatClampNeg = N) (hb : N ≤ 2000) (hcells : cs + 1 ≤ X.2.2.2.1.cells) (hslots : sl + N ≤ X.2.2.2.1.slots) (hd : decode cc pc = .ok (.newarray .int, 2)) (k : G w X (cs + 1, sl + N, P, nx + 1, true) (pc + 2) lv (.ref nx :: st) u) : G w X (cs, sl, P, nx, true) pc lv (.int n :: st) u := by
  refine G_newA hX (ty := .int) 0 rfl rfl harr rfl (fun cA hcA => ?_) (kd_lt hk (by decide)) hn hN (by show N * 4 ≤ _; omega) hcells hslots (fun U cA h => h) hd k
  funext H1
  rw [enc_I hk hl, hcA, show u.1 nx = fun _ => 0 from funext hz]
  rfl
theorem G_newJ (hX : OKc w X o cc d) {n : Int32} {N : Nat} (hk : kd nx = 10) (hl : ln nx = N) (hz : ∀ i, u.2 nx i = 0) (harr : Cond.arrayClass .long ∈ tw) (hn : ¬ n < 0) (hN : n.toNatClampNeg = N) (hb : N ≤ 2000) (hcells : cs + 1 ≤ X.2.2.2.1.cells) (hslots : sl + N ≤ X.2.2.2.1.slots) (hd : decode cc pc = .ok (.newarray .long, 2)) (k : G w X (cs + 1, sl + N, P, nx + 1, true) (pc + 2) lv (.ref nx :: st) u) : G w X (cs, sl, P, nx, true) pc lv (.int n :: st) u := by
  refine G_newA hX (ty := .long) 1 rfl rfl harr rfl (fun cA hcA => ?_) (kd_lt hk (by decide)) hn hN (by show N * 8 ≤ _; omega) hcells hslots (fun U cA h => h) hd k
  funext H1
  rw [enc_J hk hl, hcA, show u.2 nx = fun _ => 0 from funext hz]
  rfl
theorem G_newZ (hX : OKc w X o cc d) {n : Int32} {N : Nat} (hk : kd nx = 11) (hl : ln nx = N) (hz : ∀ i, u.1 nx i = 0) (harr : Cond.arrayClass .boolean ∈ tw) (hn : ¬ n < 0) (hN : n.toNatClampNeg = N) (hb : N ≤ 2000) (hcells : cs + 1 ≤ X.2.2.2.1.cells) (hslots : sl + N ≤ X.2.2.2.1.slots) (hd : decode cc pc = .ok (.newarray .boolean, 2)) (k : G w X (cs + 1, sl + N, P, nx + 1, true) (pc + 2) lv (.ref nx :: st) u) : G w X (cs, sl, P, nx, true) pc lv (.int n :: st) u := by
  refine G_newA hX (ty := .boolean) 2 rfl rfl harr rfl (fun cA hcA => ?_) (kd_lt hk (by decide)) hn hN (by show N * 1 ≤ _; omega) hcells hslots (fun U cA h => h) hd k
  funext H1
  rw [enc_Z hk hl, hcA, show u.1 nx = fun _ => 0 from funext hz]
  rfl
theorem G_newRx (hX : OKc w X o cc d) {n : Int32} {N idx : Nat} {C : String} (i : Nat) (hti : (wT w)[i]? = some (wcy w i, .object C)) (hao : va_AO C X.2.2.2.2.1) (hcl : Cond.classLink o idx C ∈ tw) (henc : enc w u P nx = .inl (wcy w i, N, .inr (.inr (.inr (.inr (fun _ => none)))))) (hx : nx < 133) (hn : ¬ n < 0) (hN : n.toNatClampNeg = N) (hb : N ≤ 2000) (hcells : cs + 1 ≤ X.2.2.2.1.cells) (hslots : sl + N ≤ X.2.2.2.1.slots) (hd : decode cc pc = .ok (.anewarray idx, 3)) (k : G w X (cs + 1, sl + N, P, nx + 1, true) (pc + 3) lv (.ref nx :: st) u) : G w X (cs, sl, P, nx, true) pc lv (.int n :: st) u := by
  subst hN
  intro H locs ls h1 h2 h3 h4
  have hsz : H.size = w.1 + nx := h1 rfl
  refine W.anew hX.1 hX.2.1 hX.2.2.1 (hX.2.2.2.1 _ hcl) (va_AO.use hao) rfl hd rfl hn (by omega) hcells hslots fun cA kA comp f1 f2 f3 f4 => ?_
  generalize hH1 : H.push ({ cls := cA, slots := Array.replicate n.toNatClampNeg .null, vm := .none } : Cell) = H1
  have z1 : H1.size = H.size + 1 := by rw [← hH1, Array.size_push]
  have e1 : H1[H.size]? = some (arrV cA n.toNatClampNeg (fun _ => .null)) := by rw [← hH1, Array.getElem?_push_size, ← arrV_new]
  have o1 : ∀ q : Nat, q < H.size → H1[q]? = H[q]? := fun q hq => by rw [← hH1, Array.getElem?_push, if_neg (Nat.ne_of_lt hq)]
  obtain ⟨kA', comp', -, -, -, r4⟩ := (hX.2.2.2.2.1.2 i _ hti).2
  have hcA : cA = wcy w i := Option.some.inj (f1.symm.trans r4)
  have hcell : va_at (wD w) vwCl (w.1 + nx, enc w u P nx) H1 := by
    rw [henc]
    show H1[w.1 + nx]? = some (vp_cell _ _)
    rw [vp_cell_q, ← hsz, ← hcA]
    exact e1
  have hh := k H1 locs ls (fun _ => by rw [z1, hsz]; show w.1 + nx + 1 = w.1 + (nx + 1); omega) (wld_push h2 o1 hcell) (S_push h3 z1 o1) h4
  rw [List.map_cons, tv_a w hx, ← hsz] at hh
  exact hh
theorem G_newRC (hX : OKc w X o cc d) {n : Int32} {N idx : Nat} (hk : kd nx = 12) (hl : ln nx = N) (hp : ∀ i, P nx i = none) (hcl : Cond.classLink o idx RX0 ∈ tw) (hn : ¬ n < 0) (hN : n.toNatClampNeg = N) (hb : N ≤ 2000) (hcells : cs + 1 ≤ X.2.2.2.1.cells) (hslots : sl + N ≤ X.2.2.2.1.slots) (hd : decode cc pc = .ok (.anewarray idx, 3)) (k : G w X (cs + 1, sl + N, P, nx + 1, true) (pc + 3) lv (.ref nx :: st) u) : G w X (cs, sl, P, nx, true) pc lv (.int n :: st) u := by
  refine G_newRx hX 3 rfl hX.2.2.2.2.2.1.2.2.2.1 hcl ?_ (kd_lt hk (by decide)) hn hN hb hcells hslots hd k
  rw [enc_C hk hl]
  simp [hp]
theorem G_newRS (hX : OKc w X o cc d) {n : Int32} {N idx : Nat} (hk : kd nx = 13) (hl : ln nx = N) (hp : ∀ i, P nx i = none) (hcl : Cond.classLink o idx RX5 ∈ tw) (hn : ¬ n < 0) (hN : n.toNatClampNeg = N) (hb : N ≤ 2000) (hcells : cs + 1 ≤ X.2.2.2.1.cells) (hslots : sl + N ≤ X.2.2.2.1.slots) (hd : decode cc pc = .ok (.anewarray idx, 3)) (k : G w X (cs + 1, sl + N, P, nx + 1, true) (pc + 3) lv (.ref nx :: st) u) : G w X (cs, sl, P, nx, true) pc lv (.int n :: st) u := by
  refine G_newRx hX 4 rfl hX.2.2.2.2.2.1.2.2.2.2 hcl ?_ (kd_lt hk (by decide)) hn hN hb hcells hslots hd k
  rw [enc_S hk hl]
  simp [hp]
theorem G_putR (hX : OKc w X o cc d) {a c i idx t : Nat} (hk : kd a = c) (hc : c < 9) (hx : a < nx) (hi : (fty c)[i]? = some true) (hl : FL o idx c i) (hw : FR o c i) (hin : X.2.2.2.2.2.2.2.2.1.name = "<init>") (hd : decode cc pc = .ok (.putfield idx, 3)) (k : G w X (cs, sl, sP P a i (some t), nx, true) (pc + 3) lv st u) : G w X (cs, sl, P, nx, true) pc lv (.ref t :: .ref a :: st) u := by
  intro H locs ls h1 h2 h3 h4
  have hsz : H.size = w.1 + nx := h1 rfl
  obtain ⟨C, T, N, e1, e2, e3, e4⟩ := hl
  obtain ⟨C', T', N', ty0, ty, g1, hty, hnm, hfin, hdecl, hpd, hnf⟩ := hw
  cases e1.symm.trans g1
  rw [List.map_cons, List.map_cons, tv_a w (kd_lt hk (by omega))]
  have hap := va_apart (own := o) hX.2.2.2.1 e4 ty0 hty hnm hX.2.2.2.2.1 e1
  obtain ⟨r, r1, cell, q1, q2, q3, q4⟩ := h2 a _ (gt_a (w := w) (u := u) (P := P) hx (enc_O hk hc))
  have hr : r = (C, T, N) := Option.some.inj (r1.symm.trans e1)
  subst hr
  obtain ⟨hS, hfc, kC, hkC, hkind⟩ := hX.2.2.2.2.1.1 c _ e1
  obtain ⟨cf, kf, fi, f, hif, hsl⟩ := hS i e2
  have hlay := hX.2.2.2.1 _ (e4 _ (u_in_lay e2))
  unfold u_lay at hlay
  rw [if_pos hfin] at hlay
  have hst := (u_facts hfc hkC (u_lays hX.2.2.2.1 e4 e2) hif).1
  have hcf : X.2.2.2.2.2.1.cls = cf := by
    obtain ⟨_, _, c', _, _, _, -, -, hf', -, -, -, hown2, -⟩ := Cond.laysFinal_spec hlay
    have e1 : c' = cf := by have := hif.symm.trans hf'; simp at this; exact this.1.symm
    rw [hdecl] at hown2
    rw [← e1]; exact Option.some.inj (hX.2.2.1.symm.trans hown2)
  have h6 := u_fits hfc hkC hkind (Or.inr hlay) hif hpd (hnf (wAd w t)).1 (hnf (wAd w t)).2
  refine W.putFinK hX.1 hX.2.1 hX.2.2.1 (hX.2.2.2.1 _ e3) hif hst hcf hin (by rw [q2]; exact h6) q1 q3 (by rw [hsl]; exact k2_hasslot (q4 i e2)) rfl rfl hd fun H' f1 f2 f3 => ?_
  rw [hsl] at f1 ⊢
  have hl : i < (encF w u P a).length := (List.getElem?_eq_some_iff.mp (encF_ref (w := w) (u := u) (P := P) hk hi)).1
  have hP' := h2.set wld_D (gt_a hx (enc_O hk hc)) (e := .inr (c, (encF w u P a).set i (.ref (wAd w t)))) ⟨_, e1, t_OB.to (V := updV (vp_V (encF w u P a)) i (.ref (wAd w t))) ⟨_, f1, q2, q3, t_set q4 hap e2 _⟩ (fun j _ => vp_updV_set hl _ j)⟩ f3
  rw [wld_P hk hc hi] at hP'
  exact k H' _ ls (fun _ => by rw [f2]; exact hsz) hP' (h3.put f2 f3 (by show w.1 ≤ w.1 + a; omega)) h4
theorem G_putT (hX : OKc w X o cc d) {a c i idx : Nat} {x : Int32} (hk : kd a = c) (hc : c < 9) (hx : a < nx) (hi : (fty c)[i]? = some false) (hl : FL o idx c i) (hw : FW c i) (hd : decode cc pc = .ok (.putfield idx, 3)) (k : G w X (cs, sl, P, nx, true) (pc + 3) lv st (sI u a i x)) : G w X (cs, sl, P, nx, true) pc lv (.int x :: .ref a :: st) u := by
  intro H locs ls h1 h2 h3 h4
  have hsz : H.size = w.1 + nx := h1 rfl
  obtain ⟨C, T, N, e1, e2, e3, e4⟩ := hl
  obtain ⟨C', T', N', ty0, g1, hty, hnm, hfin, hpd⟩ := hw
  cases e1.symm.trans g1
  rw [List.map_cons, List.map_cons, tv_a w (kd_lt hk (by omega))]
  have hap := va_apart (own := o) hX.2.2.2.1 e4 ty0 hty hnm hX.2.2.2.2.1 e1
  obtain ⟨r, r1, cell, q1, q2, q3, q4⟩ := h2 a _ (gt_a (w := w) (u := u) (P := P) hx (enc_O hk hc))
  have hr : r = (C, T, N) := Option.some.inj (r1.symm.trans e1)
  subst hr
  obtain ⟨hS, hfc, kC, hkC, hkind⟩ := hX.2.2.2.2.1.1 c _ e1
  obtain ⟨cf, kf, fi, f, hif, hsl⟩ := hS i e2
  have hlay := hX.2.2.2.1 _ (e4 _ (u_in_lay e2))
  unfold u_lay at hlay
  rw [if_neg (by rw [hfin]; decide)] at hlay
  have hst := (u_facts hfc hkC (u_lays hX.2.2.2.1 e4 e2) hif).1
  have h6 := u_store hfc hkC hkind hlay hif hpd (v := .int x) rfl rfl
  refine W.putK hX.1 hX.2.1 (f := f) ⟨hX.2.2.1, hX.2.2.2.1 _ e3, ⟨_, _, _, hif⟩, hst⟩ (by rw [q2]; exact h6) q1 q3 (by rw [hsl]; exact k2_hasslot (q4 i e2)) rfl rfl hd fun H' f1 f2 f3 => ?_
  rw [hsl] at f1 ⊢
  have hl : i < (encF w u P a).length := (List.getElem?_eq_some_iff.mp (encF_int (w := w) (u := u) (P := P) hk hi)).1
  have hP' := h2.set wld_D (gt_a hx (enc_O hk hc)) (e := .inr (c, (encF w u P a).set i (.int x))) ⟨_, e1, t_OB.to (V := updV (vp_V (encF w u P a)) i (.int x)) ⟨_, f1, q2, q3, t_set q4 hap e2 _⟩ (fun j _ => vp_updV_set hl _ j)⟩ f3
  rw [wld_F hk hc hi] at hP'
  exact k H' _ ls (fun _ => by rw [f2]; exact hsz) hP' (h3.put f2 f3 (by show w.1 ≤ w.1 + a; omega)) h4
theorem G_iastT (hX : OKc w X o cc d) {a n : Nat} {i x : Int32} (hk : kd a = 9) (hn : ln a = n) (hx : a < nx) (hb : inb i n = true) (hd : decode cc pc = .ok (.iastore, 1)) (k : G w X (cs, sl, P, nx, true) (pc + 1) lv st (sI u a i.toNatClampNeg x)) : G w X (cs, sl, P, nx, true) pc lv (.int x :: .int i :: .ref a :: st) u := by
  intro H locs ls h1 h2 h3 h4
  have hsz : H.size = w.1 + nx := h1 rfl
  rw [List.map_cons, List.map_cons, List.map_cons, tv_a w (kd_lt hk (by decide))]
  have ha := gt_a (w := w) (u := u) (P := P) hx (enc_I hk hn)
  refine W.iast hX.1 hX.2.1 (h2 a _ ha) ((hX.2.2.2.2.1.2 0 _ rfl).1 n (fun j => .int (u.1 a j))) (fun q => by cases q) (by show ¬ (i < 0 ∨ (arrV _ _ _).slots.size ≤ _); rw [arrV_size]; exact inb_in hb) rfl rfl hd fun H1 e z oq => ?_
  have hP' := h2.set wld_D ha (e := .inl (wcy w 0, n, .inl (upd (u.1 a) i.toNatClampNeg x))) (by
    show H1[w.1 + a]? = some (vp_cell _ _)
    rw [e]
    rw [vp_cell_i, vp_cell_i, arrV_store]
    congr 2
    funext q
    by_cases hq : q = i.toNatClampNeg
    · subst hq
      simp [updV, upd]
    · simp [updV, upd, hq]) oq
  rw [wld_I _ hk hn] at hP'
  exact k H1 _ ls (fun _ => by rw [z]; exact hsz) hP' (h3.put z oq (by show w.1 ≤ w.1 + a; omega)) h4
theorem G_aastX (hX : OKc w X o cc d) {a n t ci ti : Nat} {i : Int32} {r : vw_C} (henc : enc w u P a = .inl (wcy w ti, n, .inr (.inr (.inr (.inr (fun j => (P a j).map (wAd w))))))) (hti : (wT w)[ti]? = some (wcy w ti, .object r.1)) (hcl : vwCl[ci]? = some r) (hwl : (wld w u P nx).set a (w.1 + a, .inl (wcy w ti, n, .inr (.inr (.inr (.inr (va_up (fun j => (P a j).map (wAd w)) i.toNatClampNeg (some (wAd w t)))))))) = wld w u (sP P a i.toNatClampNeg (some t)) nx) (hxa : a < 133) (hx : a < nx) (hkt : kd t = ci) (hci : ci < 9) (hxt : t < nx) (hb : inb i n = true) (hd : decode cc pc = .ok (.aastore, 1)) (k : G w X (cs, sl, sP P a i.toNatClampNeg (some t), nx, true) (pc + 1) lv st u) : G w X (cs, sl, P, nx, true) pc lv (.ref t :: .int i :: .ref a :: st) u := by
  intro H locs ls h1 h2 h3 h4
  have hsz : H.size = w.1 + nx := h1 rfl
  have het : wAd w t = w.1 + t := wAd_lt w (by have := kd_lt hkt (by omega); omega)
  rw [List.map_cons, List.map_cons, List.map_cons, tv_a w hxa, tv_a w (kd_lt hkt (by omega))]
  have ha := gt_a (w := w) (u := u) (P := P) hx henc
  have hin := inb_in hb
  have hlt : i.toNatClampNeg < n := inb_lt hb
  have h0 : ¬ i < 0 := fun q => hin (Or.inl q)
  obtain ⟨r', hr', cellV, g1, g2, g3, -⟩ := h2 t _ (gt_a (w := w) (u := u) (P := P) hxt (enc_O hkt hci))
  have hcls := (hX.2.2.2.2.1.1 ci r hcl).2
  obtain ⟨kA, comp, k1, k2, k3, -⟩ := (hX.2.2.2.2.1.2 ti _ hti).2
  have hcomp : comp = (wD w).1 ci := Option.some.inj (k3.symm.trans hcls.1)
  subst hcomp
  obtain ⟨kC, hkC, -⟩ := hcls.2
  refine W.aast hX.1 hX.2.1 (h2 a _ ha) (fun q h => by cases h) (fun h => by cases h) k1 k2 rfl hkC ⟨h0, by show _ < (arrV _ _ _).slots.size; rw [arrV_size]; exact hlt⟩ g1 (fun q h => by rw [g3] at h; cases h) (by rw [g2]; exact hkC) (by rw [g2]; exact va_assign hcls) rfl rfl hd fun H1 e z oq => ?_
  have hP' := h2.set wld_D ha (e := .inl (wcy w ti, n, .inr (.inr (.inr (.inr (va_up (fun j => (P a j).map (wAd w)) i.toNatClampNeg (some (wAd w t)))))))) (by
    show H1[w.1 + a]? = some (vp_cell _ _)
    rw [e]
    rw [vp_cell_q, vp_cell_q, arrV_store]
    congr 2
    funext q
    by_cases hq : q = i.toNatClampNeg
    · subst hq
      simp [updV, va_up, va_rf, het]
    · simp [updV, va_up, hq]) oq
  rw [hwl] at hP'
  exact k H1 _ ls (fun _ => by rw [z]; exact hsz) hP' (h3.put z oq (by show w.1 ≤ w.1 + a; omega)) h4
theorem G_aastC (hX : OKc w X o cc d) {a n t : Nat} {i : Int32} (hk : kd a = 12) (hn : ln a = n) (hx : a < nx) (hkt : kd t = 0) (hxt : t < nx) (hb : inb i n = true) (hd : decode cc pc = .ok (.aastore, 1)) (k : G w X (cs, sl, sP P a i.toNatClampNeg (some t), nx, true) (pc + 1) lv st u) : G w X (cs, sl, P, nx, true) pc lv (.ref t :: .int i :: .ref a :: st) u :=
  G_aastX hX (ci := 0) (ti := 3) (r := (RX0, TX0, 5)) (enc_C hk hn) rfl rfl (wld_AC hk hn) (kd_lt hk (by decide)) hx hkt (by decide) hxt hb hd k
theorem G_aastS (hX : OKc w X o cc d) {a n t : Nat} {i : Int32} (hk : kd a = 13) (hn : ln a = n) (hx : a < nx) (hkt : kd t = 5) (hxt : t < nx) (hb : inb i n = true) (hd : decode cc pc = .ok (.aastore, 1)) (k : G w X (cs, sl, sP P a i.toNatClampNeg (some t), nx, true) (pc + 1) lv st u) : G w X (cs, sl, P, nx, true) pc lv (.ref t :: .int i :: .ref a :: st) u :=
  G_aastX hX (ci := 5) (ti := 4) (r := (RX5, TX5, 3)) (enc_S hk hn) rfl rfl (wld_AS hk hn) (kd_lt hk (by decide)) hx hkt (by decide) hxt hb hd k
def CO (o : String) (idx : Nat) : Prop := Cond.methodLink o idx objectInit ∈ tw ∧ Cond.instanceMethod objectInit ∈ tw ∧ Cond.code objectInit ⟨#[0xb1]⟩ 1 none ∈ tw
theorem G_objI {Z : ZZ} (hX : OKc w X o cc d) {idx a : Nat} (hl : CO o idx) (hdd : 1 ≤ d) (hr : (st.map (fun v => v.category)).sum ≤ 8) (hd : decode cc pc = .ok (.invokespecial idx, 3)) (k : G w X Z (pc + 3) lv st u) : G w X Z pc lv (.ref a :: st) u := by
  intro H locs ls h1 h2 h3 h4
  have m1 := hX.2.2.2.2.2.2.2.1
  have m2 := hX.2.2.2.2.2.2.2.2
  refine W.objInit (rest := st.map (tv w)) hX.1 hX.2.1 hX.2.2.1 (hX.2.2.2.1 _ hl.1) (hX.2.2.2.1 _ hl.2.1) (hX.2.2.2.1 _ hl.2.2) rfl h4.1 rfl hd (by omega) (by rw [cat_map]; show 2 * 0 + _ + 12 ≤ _; omega) ?_
  exact k H locs ls h1 h2 h3 h4
def CI (o : String) (idx : Nat) (q : MI) : Prop := Cond.methodLink o idx q.1 ∈ tw ∧ Cond.instanceMethod q.1 ∈ tw ∧ q.1.name = "<init>" ∧ q.2.2.2 = none ∧ CQ q 0
def CIN (o : String) (idx : Nat) (q : MI) : Prop := (o, idx, q.1) ∈ NSL ∧ Cond.instanceMethod q.1 ∈ tw ∧ q.1.name = "<init>" ∧ q.2.2.2 = none ∧ CQ q 0
theorem G_callI (hX : OKc w X o cc d) {idx mc ms d' a nx' : Nat} {P' : Pm} {b : Bool} {q : MI} {rest : List Value} {u' : Um} (hv : CI o idx q) (hM : MCg w d' q mc ms P nx P' nx' b [.ref a] u none u') (hdd : d' + 1 ≤ d) (hr : (rest.map (fun v => v.category)).sum ≤ 8) (hd : decode cc pc = .ok (.invokespecial idx, 3)) (hf : cs + mc ≤ X.2.2.2.1.cells ∧ sl + ms ≤ X.2.2.2.1.slots) (k : G w X (cs + mc, sl + ms, P', nx', b) (pc + 3) lv rest u') : G w X (cs, sl, P, nx, b) pc lv (.ref a :: rest) u := by
  intro H locs ls h1 h2 h3 h4
  obtain ⟨v1, v2, v3, v4, v6, v7, v8, v9⟩ := hv
  have hCB : CallB X.2.2.2.1 X.2.2.2.2.1 X.2.2.2.2.2.2.1 o idx q.1 q.2.1 q.2.2.1 none (Cond.code q.1 q.2.1 q.2.2.1 q.2.2.2 :: tw) (rmD d' mc ms) mc ms 0 := by
    refine callB_of 0 hX.2.2.2.1 (tw_good0 v7) (by rw [v4]) rfl rfl (hX.2.2.2.1 _ v6) (hX.2.2.2.1 _ v1) v8 ⟨Nat.le_trans hdd hX.2.2.2.2.2.2.2.1, by
        have := hX.2.2.2.2.2.2.2.2
        show 8 + (q.2.2.1 + 11) + 40 * d' ≤ _
        omega⟩
  refine G_back (rest := rest) (va_runI (As := []) (rest := rest.map (tv w)) (b := wAd w a) ⟨hX.1, hX.2.1, rfl, hX.2.2.1, hX.2.2.2.1⟩ (hM X.2.1) ⟨hCB, v3, hX.2.2.2.1 _ v2⟩ ⟨pre_blind, pre_at hX h1 h2 h3⟩ rfl rfl h4.1 rfl (lv_room (by rw [cat_map]; exact hr)) hd hf) h3 h4 k
theorem G_callIN (hX : OKc w X o cc d) {idx mc ms d' a nx' : Nat} {P' : Pm} {b : Bool} {q : MI} {rest : List Value} {u' : Um} (hv : CIN o idx q) (hM : MCg w d' q mc ms P nx P' nx' b [.ref a] u none u') (hdd : d' + 1 ≤ d) (hr : (rest.map (fun v => v.category)).sum ≤ 8) (hd : decode cc pc = .ok (.invokespecial idx, 3)) (hf : cs + mc ≤ X.2.2.2.1.cells ∧ sl + ms ≤ X.2.2.2.1.slots) (k : G w X (cs + mc, sl + ms, P', nx', b) (pc + 3) lv rest u') : G w X (cs, sl, P, nx, b) pc lv (.ref a :: rest) u := by
  intro H locs ls h1 h2 h3 h4
  obtain ⟨v1, v2, v3, v4, v6, v7, v8, v9⟩ := hv
  have hCW := va_cnB (R := X.2.2.2.1) (s := X.2.2.2.2.1) (args := X.2.2.2.2.2.2.1) (own := o) (index := idx) (y := q.1) (host := RX7) (bytes := q.2.1) (maxL := q.2.2.1) (ret := none) (ws := Cond.code q.1 q.2.1 q.2.2.1 q.2.2.2 :: tw) (rm := rmD d' mc ms) (mc := mc) (ms := ms) 0 hX.2.2.2.1
    (tw_good0 v7) (by rw [v4]) rfl rfl (hX.2.2.2.2.2.1.2.2.1 _ v1) (hX.2.2.2.1 _ v6) v8 ⟨Nat.le_trans hdd hX.2.2.2.2.2.2.2.1, by
        have := hX.2.2.2.2.2.2.2.2
        show 8 + (q.2.2.1 + 11) + 40 * d' ≤ _
        omega⟩
  refine G_back (rest := rest) (va_runIN (As := []) (rest := rest.map (tv w)) (b := wAd w a) ⟨hX.1, hX.2.1, rfl, hX.2.2.1, hX.2.2.2.1⟩ (hM X.2.1) ⟨hCW, v3, hX.2.2.2.1 _ v2⟩ ⟨pre_blind, pre_at hX h1 h2 h3⟩ rfl rfl h4.1 rfl (lv_room (by rw [cat_map]; exact hr)) hd hf) h3 h4 k
theorem G_loose (k : G w X (cs, sl, P, nx, false) pc lv st u) : G w X (cs, sl, P, nx, true) pc lv st u := fun H locs ls _ h2 h3 h4 => k H locs ls (fun h => by cases h) h2 h3 h4
end GC
