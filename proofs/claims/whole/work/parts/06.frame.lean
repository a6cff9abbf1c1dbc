/-! ===== the law's world as numbers: cells in the order in which they are made; ints and longs by cell and place, references by cell and place ===== -/
abbrev Um : Type := (Nat → Nat → Int32) × (Nat → Nat → Int64)
abbrev Pm : Type := Nat → Nat → Option Nat
/-- the first cell's address, the cell of KIND_OVER, the script's cell, its length, its ints, the tables of classes, the classes of arrays -/
abbrev Wc : Type := Nat × Nat × Nat × Nat × (Nat → Int32) × va_G × (Nat → ClassId)
abbrev MX : Type := Program × Launch × Env × Room × State × MethodId × Array Value × List Frame × Method × Code × (State → Prop)
abbrev MI : Type := MethodName × ByteArray × Nat × Option FieldType
abbrev ZZ : Type := Nat × Nat × Pm × Nat × Bool
def SHL : List (Nat × Nat) := [(7, 0), (6, 0), (9, 130), (0, 0), (9, 48), (9, 32), (0, 0), (9, 48), (9, 32), (3, 0), (12, 24), (0, 0), (9, 48), (9, 32), (0, 0), (9, 48), (9, 32), (0, 0), (9, 48), (9, 32), (0, 0), (9, 48), (9, 32), (0, 0), (9, 48), (9, 32), (0, 0), (9, 48), (9, 32), (0, 0), (9, 48), (9, 32), (0, 0), (9, 48), (9, 32), (0, 0), (9, 48), (9, 32), (0, 0), (9, 48), (9, 32), (0, 0), (9, 48), (9, 32), (0, 0), (9, 48), (9, 32), (0, 0), (9, 48), (9, 32), (0, 0), (9, 48), (9, 32), (0, 0), (9, 48), (9, 32), (0, 0), (9, 48), (9, 32), (0, 0), (9, 48), (9, 32), (0, 0), (9, 48), (9, 32), (0, 0), (9, 48), (9, 32), (0, 0), (9, 48), (9, 32), (0, 0), (9, 48), (9, 32), (0, 0), (9, 48), (9, 32), (0, 0), (9, 48), (9, 32), (0, 0), (9, 48), (9, 32), (12, 2), (0, 0), (9, 48), (9, 32), (0, 0), (9, 48), (9, 32), (13, 4), (5, 0), (10, 24), (5, 0), (10, 24), (5, 0), (10, 24), (5, 0), (10, 24), (2, 0), (9, 48), (9, 576), (9, 8), (4, 0), (12, 3), (0, 0), (9, 48), (9, 32), (0, 0), (9, 48), (9, 32), (0, 0), (9, 48), (9, 32), (9, 12), (1, 0), (9, 100), (8, 0), (9, 4), (9, 4), (10, 96), (9, 130), (9, 83), (9, 83), (9, 83), (9, 166), (11, 2), (9, 1992), (9, 576), (9, 10), (9, 10), (9, 3), (9, 10)]
def kd (k : Nat) : Nat := (SHL.getD k (99, 0)).1
def ln (k : Nat) : Nat := (SHL.getD k (99, 0)).2
def fty (c : Nat) : List Bool := match c with
  | 0 => [true, true, false, false, false]
  | 1 => [true, false, false]
  | 2 => [true, true, true, false]
  | 3 => [true, false, false]
  | 4 => [true, true]
  | 5 => [true, false, false]
  | 6 => [true, false, false]
  | 7 => [true, true, true, true, true, true, true, true, true]
  | 8 => [true, true, true, false, true, false, true, true, true, true, true, true, false, true, true, true, true, false, true]
  | _ => []
def wAd (w : Wc) (k : Nat) : Nat := if k = 1000000 then w.2.1 else if k = 1000001 then w.2.2.1 else w.1 + k
def tv (w : Wc) : Value → Value
  | .ref k => .ref (wAd w k)
  | v => v
abbrev wD (w : Wc) : va_G := w.2.2.2.2.2.1
abbrev wcy (w : Wc) : Nat → ClassId := w.2.2.2.2.2.2
def wT (w : Wc) : List (ClassId × FieldType) := [(wcy w 0, .int), (wcy w 1, .long), (wcy w 2, .boolean), (wcy w 3, .object RX0), (wcy w 4, .object RX5)]
def wA (w : Wc) : Nat → Prop := fun q => w.1 ≤ q
def encF (w : Wc) (u : Um) (P : Pm) (k : Nat) : List Value := (fty (kd k)).mapIdx (fun i r => if r = true then va_rf ((P k i).map (wAd w)) else .int (u.1 k i))
def enc (w : Wc) (u : Um) (P : Pm) (k : Nat) : va_E :=
  if kd k < 9 then .inr (kd k, encF w u P k)
  else if kd k = 9 then .inl (wcy w 0, ln k, .inl (u.1 k))
  else if kd k = 10 then .inl (wcy w 1, ln k, .inr (.inl (u.2 k)))
  else if kd k = 11 then .inl (wcy w 2, ln k, .inl (u.1 k))
  else if kd k = 12 then .inl (wcy w 3, ln k, .inr (.inr (.inr (.inr (fun i => (P k i).map (wAd w))))))
  else .inl (wcy w 4, ln k, .inr (.inr (.inr (.inr (fun i => (P k i).map (wAd w))))))
def wld (w : Wc) (u : Um) (P : Pm) (nx : Nat) : va_W := (List.range nx).map (fun k => (w.1 + k, enc w u P k))
def sIr (u : Um) (k : Nat) (f : Nat → Int32) : Um := (fun j => if j = k then f else u.1 j, u.2)
def sJr (u : Um) (k : Nat) (f : Nat → Int64) : Um := (u.1, fun j => if j = k then f else u.2 j)
def sI (u : Um) (k i : Nat) (v : Int32) : Um := sIr u k (upd (u.1 k) i v)
def sJ (u : Um) (k i : Nat) (v : Int64) : Um := sJr u k (vp_updL (u.2 k) i v)
def sP (P : Pm) (k i : Nat) (v : Option Nat) : Pm := fun j => if j = k then va_up (P k) i v else P j
theorem wld_get {w : Wc} {u : Um} {P : Pm} {nx k : Nat} (h : k < nx) : (wld w u P nx)[k]? = some (w.1 + k, enc w u P k) := by
  simp [wld, h]
theorem wld_set {w : Wc} {u u' : Um} {P P' : Pm} {nx k : Nat} {e : va_E} (he : enc w u' P' k = e) (ho : ∀ j, j ≠ k → enc w u' P' j = enc w u P j) : (wld w u P nx).set k (w.1 + k, e) = wld w u' P' nx := by
  apply List.ext_getElem?
  intro j
  by_cases hj : j = k
  · subst hj
    by_cases hl : j < nx
    · rw [List.getElem?_set_self (by simp [wld, hl]), wld_get hl, he]
    · rw [List.getElem?_eq_none (by simp [wld]; omega), List.getElem?_eq_none (by simp [wld]; omega)]
  · rw [List.getElem?_set_ne (Ne.symm hj)]
    by_cases hl : j < nx
    · rw [wld_get hl, wld_get hl, ho j hj]
    · rw [List.getElem?_eq_none (by simp [wld]; omega), List.getElem?_eq_none (by simp [wld]; omega)]
theorem wld_D {w : Wc} {u : Um} {P : Pm} {nx : Nat} : va_D (wA w) (wld w u P nx) := by
  have key : ∀ (k : Nat) (q : Nat × va_E), (wld w u P nx)[k]? = some q → q.1 = w.1 + k := by
    intro k q hq
    by_cases hl : k < nx
    · rw [wld_get hl] at hq; cases hq; rfl
    · rw [List.getElem?_eq_none (by simp [wld]; omega)] at hq; cases hq
  refine ⟨fun i j p q hi hj h => ?_, fun k q hk => ?_⟩
  · have h1 := key i p hi
    have h2 := key j q hj
    omega
  · show w.1 ≤ q.1
    rw [key k q hk]; omega
theorem tv_rf (w : Wc) (o : Option Nat) : tv w (va_rf o) = va_rf (o.map (wAd w)) := by cases o <;> rfl
theorem tv_cat (w : Wc) (v : Value) : (tv w v).category = v.category := by cases v <;> rfl
theorem wAd_lt (w : Wc) {k : Nat} (h : k < 1000000) : wAd w k = w.1 + k := by
  unfold wAd
  rw [if_neg (by omega), if_neg (by omega)]
/-! locals: a list of what is known, place by place -/
def LVs (w : Wc) (ls : Array Slot) (n : Nat) (lv : List (Option Value)) : Prop := ls.size = n ∧ lv.length = n ∧ lv_wf ls ∧ ∀ (i : Nat) (v : Value), lv[i]? = some (some v) → ls[i]? = some (.val (tv w v))
def lvl (w : Wc) (lv : List (Option Value)) : List (Nat × Value) := (List.range lv.length).filterMap (fun i => (lv[i]?).join.map (fun v => (i, tv w v)))
theorem lvl_mem {w : Wc} {lv : List (Option Value)} {q : Nat × Value} : q ∈ lvl w lv ↔ ∃ v, lv[q.1]? = some (some v) ∧ q.2 = tv w v := by
  unfold lvl
  rw [List.mem_filterMap]
  constructor
  · rintro ⟨i, hi, h⟩
    cases hv : lv[i]? with
    | none => rw [hv] at h; cases h
    | some x =>
      cases x with
      | none => rw [hv] at h; cases h
      | some v => rw [hv] at h; cases h; exact ⟨v, hv, rfl⟩
  · rintro ⟨v, hv, e⟩
    refine ⟨q.1, List.mem_range.mpr (List.getElem?_eq_some_iff.mp hv).1, ?_⟩
    rw [hv]
    show some (q.1, tv w v) = some q
    rw [← e]
theorem LVs.has {w : Wc} {ls : Array Slot} {n : Nat} {lv : List (Option Value)} (h : LVs w ls n lv) : lv_has ls n (lvl w lv) := by
  refine ⟨h.1, h.2.2.1, fun q hq => ?_⟩
  obtain ⟨v, h1, h2⟩ := lvl_mem.mp hq
  rw [h2]
  exact h.2.2.2 q.1 v h1
def okst (lv : List (Option Value)) (i : Nat) : Bool := match i with
  | 0 => true
  | j + 1 => match lv[j]? with
    | some (some v) => v.category != 2
    | _ => true
theorem LVs.st1 {w : Wc} {ls ls' : Array Slot} {n i : Nat} {lv : List (Option Value)} {v : Value} (h : LVs w ls n lv) (hk : okst lv i = true) (h' : lv_has ls' n ((i, tv w v) :: (lvl w lv).filter (fun q => !(q.1 == i) && !(q.1 + 1 == i && q.2.category == 2)))) : LVs w ls' n (lv.set i (some v)) := by
  refine ⟨h'.1, by rw [List.length_set]; exact h.2.1, h'.2.1, fun j x hj => ?_⟩
  by_cases hji : j = i
  · subst hji
    have hl : j < lv.length := by have := (List.getElem?_eq_some_iff.mp hj).1; simpa using this
    rw [List.getElem?_set_self hl] at hj
    cases hj
    exact h'.2.2 (j, tv w v) List.mem_cons_self
  · rw [List.getElem?_set_ne (Ne.symm hji)] at hj
    refine h'.2.2 (j, tv w x) (List.mem_cons_of_mem _ (List.mem_filter.mpr ⟨lvl_mem.mpr ⟨x, hj, rfl⟩, ?_⟩))
    by_cases h2 : j + 1 = i
    · subst h2
      have hc : (x.category != 2) = true := by simpa [okst, hj] using hk
      have hc2 : x.category ≠ 2 := by simpa using hc
      simp [hji, tv_cat, hc2]
    · simp [hji, h2]
theorem LVs.st2 {w : Wc} {ls ls' : Array Slot} {n i : Nat} {lv : List (Option Value)} {v : Value} (h : LVs w ls n lv) (hk : okst lv i = true) (h' : lv_has ls' n ((i, tv w v) :: (lvl w lv).filter (fun q => !(q.1 == i) && (!(q.1 == i + 1) && !(q.1 + 1 == i && q.2.category == 2))))) : LVs w ls' n ((lv.set i (some v)).set (i + 1) none) := by
  refine ⟨h'.1, by rw [List.length_set, List.length_set]; exact h.2.1, h'.2.1, fun j x hj => ?_⟩
  by_cases hj1 : j = i + 1
  · subst hj1
    have hl : i + 1 < (lv.set i (some v)).length := by have := (List.getElem?_eq_some_iff.mp hj).1; simpa using this
    rw [List.getElem?_set_self hl] at hj
    cases hj
  rw [List.getElem?_set_ne (Ne.symm hj1)] at hj
  by_cases hji : j = i
  · subst hji
    have hl : j < lv.length := by have := (List.getElem?_eq_some_iff.mp hj).1; simpa using this
    rw [List.getElem?_set_self hl] at hj
    cases hj
    exact h'.2.2 (j, tv w v) List.mem_cons_self
  · rw [List.getElem?_set_ne (Ne.symm hji)] at hj
    refine h'.2.2 (j, tv w x) (List.mem_cons_of_mem _ (List.mem_filter.mpr ⟨lvl_mem.mpr ⟨x, hj, rfl⟩, ?_⟩))
    by_cases h2 : j + 1 = i
    · subst h2
      have hc : (x.category != 2) = true := by simpa [okst, hj] using hk
      have hc2 : x.category ≠ 2 := by simpa using hc
      simp [hji, hj1, tv_cat, hc2]
    · simp [hji, hj1, h2]
def entL : List Value → List (Option Value)
  | [] => []
  | v :: r => if v.category = 2 then some v :: none :: entL r else some v :: entL r
theorem entL_mem (w : Wc) : ∀ (vs : List Value) (o i : Nat) (v : Value), (entL vs)[i]? = some (some v) → (o + i, tv w v) ∈ lv_args o (vs.map (tv w))
  | [], _, _, _, h => by simp [entL] at h
  | x :: r, o, i, v, h => by
    by_cases hc : x.category = 2
    · simp only [entL, hc, if_true] at h
      simp only [List.map_cons, lv_args, tv_cat, hc, if_true]
      match i, h with
      | 0, h => simp at h; subst h; exact List.mem_cons_self
      | 1, h => simp at h
      | i + 2, h =>
        have h1 := entL_mem w r (o + 2) i v (by simpa using h)
        exact List.mem_cons_of_mem _ (by rw [show o + (i + 2) = o + 2 + i by omega]; exact h1)
    · simp only [entL, hc, if_false] at h
      simp only [List.map_cons, lv_args, tv_cat, hc, if_false]
      match i, h with
      | 0, h => simp at h; subst h; exact List.mem_cons_self
      | i + 1, h =>
        have h1 := entL_mem w r (o + 1) i v (by simpa using h)
        exact List.mem_cons_of_mem _ (by rw [show o + (i + 1) = o + 1 + i by omega]; exact h1)
theorem entL_len (w : Wc) : ∀ vs : List Value, (lg_sl (vs.map (tv w))).length = (entL vs).length
  | [] => rfl
  | x :: r => by
    have ih := entL_len w r
    by_cases hc : x.category = 2 <;> simp [lg_sl, entL, tv_cat, hc] at ih ⊢ <;> omega
theorem LVs.entry (w : Wc) (vs : List Value) {n : Nat} (h : (entL vs).length ≤ n) : LVs w ((lg_sl (vs.map (tv w)) ++ List.replicate (n - (lg_sl (vs.map (tv w))).length) Slot.unset).toArray) n (entL vs ++ List.replicate (n - (entL vs).length) none) := by
  have he := lv_entry (vs.map (tv w)) (n := n) (by rw [entL_len]; exact h)
  refine ⟨he.1, by simp; omega, he.2.1, fun i v hi => ?_⟩
  have hm : (entL vs)[i]? = some (some v) := by
    by_cases hl : i < (entL vs).length
    · rwa [List.getElem?_append_left hl] at hi
    · rw [List.getElem?_append_right (by omega)] at hi
      have := List.mem_of_getElem? hi
      simp at this
  have h1 := entL_mem w vs 0 i v hm
  rw [Nat.zero_add] at h1
  exact he.2.2 _ h1
/-! ===== the words that a method may use, and what is known of the statics ===== -/
def tw : List Cond := lw_tbl.filter goodWord
theorem tw_in {w : Cond} (h : w ∈ lw_tbl) (hg : goodWord w = true) : w ∈ tw := List.mem_filter.mpr ⟨h, hg⟩
theorem tw_good {y : MethodName} {bs : ByteArray} {n : Nat} {r : Option FieldType} {y2 : MethodName} {bs2 : ByteArray} {n2 : Nat} {r2 : Option FieldType} (h : Cond.code y2 bs2 n2 r2 ∈ tw) : GoodIn (Cond.code y bs n r :: tw) (Cond.code y2 bs2 n2 r2 :: tw) := by
  intro w hw
  rcases List.mem_cons.mp hw with rfl | hw
  · exact ⟨List.mem_cons_of_mem _ h, good_of_word (List.mem_filter.mp h).2⟩
  · exact ⟨List.mem_cons_of_mem _ hw, good_of_word (List.mem_filter.mp hw).2⟩
theorem tw_good0 {y2 : MethodName} {bs2 : ByteArray} {n2 : Nat} {r2 : Option FieldType} (h : Cond.code y2 bs2 n2 r2 ∈ tw) : GoodIn tw (Cond.code y2 bs2 n2 r2 :: tw) := by
  intro w hw
  rcases List.mem_cons.mp hw with rfl | hw
  · exact ⟨h, good_of_word (List.mem_filter.mp h).2⟩
  · exact ⟨hw, good_of_word (List.mem_filter.mp hw).2⟩
def KOV : List Int32 := [-1, 0, 1, 1, 0, 2]
def kovV (j : Nat) : Int32 := KOV.getD j 0
def NSL : List (String × Nat × MethodName) := [(RX7, 9, yX6_init), (RX7, 18, yX0_init), (RX3, 17, yX0_init), (RX7, 39, yX5_init), (RX7, 46, yX2_init), (RX7, 53, yX4_init), (RX4, 11, yX0_init), (RX7, 60, yX1_init), (RX0, 71, yX7_isBarred), (RX0, 57, yX7_sayingOf), (RX0, 84, yX7_stingOf), (RX1, 28, yX7_sayingOf)]
def STW (w : Wc) (U : State) : Prop := va_Z RX7 "KIND_OVER" "[I" (.ref w.2.1) (wA w) U U.heap ∧ va_T .int w.2.1 6 (fun j => .int (kovV j)) (wA w) U U.heap ∧ (∀ q ∈ NSL, va_Nw (.methodLinkNest q.1 q.2.1 q.2.2 RX7) U) ∧ va_AO RX0 U ∧ va_AO RX5 U
theorem STW.move {w : Wc} {s U : State} (h : STW w s) (hW : s.WarmedH U.vm) (hh : ∀ a : Nat, a < s.heap.size → ¬ wA w a → U.heap[a]? = s.heap[a]?) : STW w U :=
  ⟨va_Z.moved hW.alike (h.1.kept hh), va_T.moved hW.alike (h.2.1.kept hh), fun q hq => va_Nw.warmM hW (h.2.2.1 q hq), va_AO.moved hW.alike h.2.2.2.1, va_AO.moved hW.alike h.2.2.2.2⟩
theorem STW.blind {w : Wc} {U : State} {g : JFrame} {mk : MethodId} {a : Array Value} (h : STW w U) : STW w (U.calling g mk a) :=
  ⟨va_Z.moved (u := U) (U := U.calling g mk a) (Vm.Alike.refl U.vm) h.1, va_T.moved (u := U) (U := U.calling g mk a) (Vm.Alike.refl U.vm) h.2.1, fun q hq => va_Nw.same (u := U) (U := U.calling g mk a) rfl rfl (h.2.2.1 q hq), va_AO.moved (u := U) (U := U.calling g mk a) (Vm.Alike.refl U.vm) h.2.2.2.1, va_AO.moved (u := U) (U := U.calling g mk a) (Vm.Alike.refl U.vm) h.2.2.2.2⟩
def Pre (w : Wc) (u : Um) (P : Pm) (nx : Nat) (b : Bool) (U : State) : Prop := w.1 ≤ U.heap.size ∧ (b = true → U.heap.size = w.1 + nx) ∧ va_P (wD w) vwCl (wld w u P nx) U.heap ∧ va_K (wD w) vwCl (wT w) U ∧ STW w U
def rmD (d mc ms : Nat) : Room := { frames := d, cells := mc, slots := ms, locals := 40 * d }
def Qm (w : Wc) (P : Pm) (nx : Nat) (b : Bool) (rv : Option Value) (u : Um) : Array Value → State → Outcome → State → Prop := fun _ st oc t => (oc = .returned (rv.map (tv w)) ∧ (b = true → t.heap.size = w.1 + nx) ∧ va_P (wD w) vwCl (wld w u P nx) t.heap) ∧ va_F (wA w) st t
/-- a method's contract over the whole world: from memory u, with these arguments, it answers rv and leaves u' -/
def MCg (w : Wc) (d : Nat) (q : MI) (mc ms : Nat) (P : Pm) (nx : Nat) (P' : Pm) (nx' : Nat) (b : Bool) (as : List Value) (u : Um) (rv : Option Value) (u' : Um) : Prop :=
  ∀ l : Launch, Met l q.1 (Cond.code q.1 q.2.1 q.2.2.1 q.2.2.2 :: tw) (rmD d mc ms) (va_Pc (as.map (tv w)) (Pre w u P nx b)) (Qm w P' nx' b rv u') mc ms (wA w)
theorem pre_blind {w : Wc} {u : Um} {P : Pm} {nx : Nat} {b : Bool} {av : List Value} : FrameBlind (va_Pc av (Pre w u P nx b)) := by
  intro a U g mk h
  obtain ⟨h0, h00, h1, h2, h3, h4⟩ := h
  exact ⟨h0, h00, h1, h2, va_K.moved (u := U) (U := U.calling g mk a) (Vm.Alike.refl U.vm) h3, h4.blind⟩
/-! ===== the machine at a place of a method: what comes ===== -/
def OKc (w : Wc) (X : MX) (o : String) (cc : ByteArray) (d : Nat) : Prop :=
  X.1.tables.exec = Jvm.exec ∧ X.2.2.2.2.2.2.2.2.2.1.code = cc ∧ X.2.2.2.2.1.vm.findClass o = some X.2.2.2.2.2.1.cls ∧ (∀ q ∈ tw, q.before X.2.2.2.2.2.2.1 X.2.2.2.2.1 = true) ∧ va_K (wD w) vwCl (wT w) X.2.2.2.2.1 ∧ STW w X.2.2.2.2.1 ∧ w.1 ≤ X.2.2.2.2.1.heap.size ∧ d ≤ X.2.2.2.1.frames ∧ 40 * d ≤ X.2.2.2.1.locals
def G (w : Wc) (X : MX) (Z : ZZ) (pc : Nat) (lv : List (Option Value)) (st : List Value) (u : Um) : Prop :=
  ∀ (H : Heap) (locs : List Loc) (ls : Array Slot), (Z.2.2.2.2 = true → H.size = w.1 + Z.2.2.2.1) → va_P (wD w) vwCl (wld w u Z.2.2.1 Z.2.2.2.1) H → va_S (wA w) X.2.2.2.2.1.heap H locs → LVs w ls X.2.2.2.2.2.2.2.2.2.1.maxLocals lv →
    W X.1 X.2.1 X.2.2.1 X.2.2.2.1 X.2.2.2.2.1 X.2.2.2.2.2.1 X.2.2.2.2.2.2.1 X.2.2.2.2.2.2.2.1 X.2.2.2.2.2.2.2.2.1 X.2.2.2.2.2.2.2.2.2.1 H locs Z.1 Z.2.1 X.2.2.2.2.2.2.2.2.2.2 (F0 X.2.2.2.2.2.1 pc ls (st.map (tv w)))
def nm {α β : Type} (x : α) (k : α → β) : β := k x
def inb (i : Int32) (n : Nat) : Bool := decide (0 ≤ i.toInt) && decide (i.toInt < n)
theorem inb_in {i : Int32} {n : Nat} (h : inb i n = true) : vp_in i n := by
  rw [vp_in_iff]
  simpa [inb] using h
theorem inb_lt {i : Int32} {n : Nat} (h : inb i n = true) : i.toNatClampNeg < n := Nat.not_le.mp fun q => inb_in h (Or.inr q)
def irm (x y : Int32) : Int32 := x - x / y * y
def lrm (x y : Int64) : Int64 := x - x / y * y
section GR
variable {w : Wc} {X : MX} {Z : ZZ} {o : String} {cc : ByteArray} {d pc : Nat} {lv lv' : List (Option Value)} {st : List Value} {u : Um}
theorem G_eqs {st2 : List Value} (h : st = st2) (k : G w X Z pc lv st2 u) : G w X Z pc lv st u := h ▸ k
theorem G_iconst (hX : OKc w X o cc d) {n : Int} {v : Int32} (hd : decode cc pc = .ok (.iconst n, 1)) (hv : Int32.ofInt n = v) (k : G w X Z (pc + 1) lv (.int v :: st) u) : G w X Z pc lv st u := fun H locs ls h1 h2 h3 h4 => lv_iconst hX.1 hX.2.1 hd hv (k H locs ls h1 h2 h3 h4)
theorem G_bipush (hX : OKc w X o cc d) {n : Int} {v : Int32} (hd : decode cc pc = .ok (.bipush n, 2)) (hv : (Int8.ofInt n).toInt32 = v) (k : G w X Z (pc + 2) lv (.int v :: st) u) : G w X Z pc lv st u := fun H locs ls h1 h2 h3 h4 => lv_bipush hX.1 hX.2.1 hd hv (k H locs ls h1 h2 h3 h4)
theorem G_sipush (hX : OKc w X o cc d) {n : Int} {v : Int32} (hd : decode cc pc = .ok (.sipush n, 3)) (hv : (Int16.ofInt n).toInt32 = v) (k : G w X Z (pc + 3) lv (.int v :: st) u) : G w X Z pc lv st u := fun H locs ls h1 h2 h3 h4 => lv_sipush hX.1 hX.2.1 hd hv (k H locs ls h1 h2 h3 h4)
theorem G_lconst (hX : OKc w X o cc d) {n : Fin 2} {v : Int64} (hd : decode cc pc = .ok (.lconst n, 1)) (hv : Int64.ofNat (n : Nat) = v) (k : G w X Z (pc + 1) lv (.long v :: st) u) : G w X Z pc lv st u := fun H locs ls h1 h2 h3 h4 => lv_lconst hX.1 hX.2.1 hd hv (k H locs ls h1 h2 h3 h4)
theorem G_ldc (hX : OKc w X o cc d) {i : Nat} {v : Int32} (hd : decode cc pc = .ok (.ldc i, 2)) (hw : Cond.constant o i v ∈ tw) (k : G w X Z (pc + 2) lv (.int v :: st) u) : G w X Z pc lv st u := fun H locs ls h1 h2 h3 h4 => lv_ldc hX.1 hX.2.1 hX.2.2.1 (hX.2.2.2.1 _ hw) hd (k H locs ls h1 h2 h3 h4)
theorem G_ldcw (hX : OKc w X o cc d) {i : Nat} {v : Int32} (hd : decode cc pc = .ok (.ldc_w i, 3)) (hw : Cond.constant o i v ∈ tw) (k : G w X Z (pc + 3) lv (.int v :: st) u) : G w X Z pc lv st u := fun H locs ls h1 h2 h3 h4 => lv_ldcw hX.1 hX.2.1 hX.2.2.1 (hX.2.2.2.1 _ hw) hd (k H locs ls h1 h2 h3 h4)
theorem G_ldc2 (hX : OKc w X o cc d) {i : Nat} {v : Int64} (hd : decode cc pc = .ok (.ldc2_w i, 3)) (hw : Cond.constantLong o i v ∈ tw) (k : G w X Z (pc + 3) lv (.long v :: st) u) : G w X Z pc lv st u := fun H locs ls h1 h2 h3 h4 => lv_ldc2 hX.1 hX.2.1 hX.2.2.1 (hX.2.2.2.1 _ hw) hd (k H locs ls h1 h2 h3 h4)
theorem G_null (hX : OKc w X o cc d) (hd : decode cc pc = .ok (.aconst_null, 1)) (k : G w X Z (pc + 1) lv (.null :: st) u) : G w X Z pc lv st u := fun H locs ls h1 h2 h3 h4 => lv_null hX.1 hX.2.1 hd (k H locs ls h1 h2 h3 h4)
theorem G_iload_n (hX : OKc w X o cc d) {i : Fin 4} {x : Int32} (hd : decode cc pc = .ok (.iload_n i, 1)) (hl : lv[i.val]? = some (some (.int x))) (k : G w X Z (pc + 1) lv (.int x :: st) u) : G w X Z pc lv st u := fun H locs ls h1 h2 h3 h4 => lv_iload_n hX.1 hX.2.1 hd rfl (h4.2.2.2 _ _ hl) (k H locs ls h1 h2 h3 h4)
theorem G_iload (hX : OKc w X o cc d) {i : Nat} {x : Int32} (hd : decode cc pc = .ok (.iload i, 2)) (hl : lv[i]? = some (some (.int x))) (k : G w X Z (pc + 2) lv (.int x :: st) u) : G w X Z pc lv st u := fun H locs ls h1 h2 h3 h4 => lv_iload hX.1 hX.2.1 hd (h4.2.2.2 _ _ hl) (k H locs ls h1 h2 h3 h4)
theorem G_lload_n (hX : OKc w X o cc d) {i : Fin 4} {x : Int64} (hd : decode cc pc = .ok (.lload_n i, 1)) (hl : lv[i.val]? = some (some (.long x))) (k : G w X Z (pc + 1) lv (.long x :: st) u) : G w X Z pc lv st u := fun H locs ls h1 h2 h3 h4 => lv_lload_n hX.1 hX.2.1 hd rfl (h4.2.2.2 _ _ hl) (k H locs ls h1 h2 h3 h4)
theorem G_lload (hX : OKc w X o cc d) {i : Nat} {x : Int64} (hd : decode cc pc = .ok (.lload i, 2)) (hl : lv[i]? = some (some (.long x))) (k : G w X Z (pc + 2) lv (.long x :: st) u) : G w X Z pc lv st u := fun H locs ls h1 h2 h3 h4 => lv_lload hX.1 hX.2.1 hd (h4.2.2.2 _ _ hl) (k H locs ls h1 h2 h3 h4)
theorem G_aload_n (hX : OKc w X o cc d) {i : Fin 4} {x : Nat} (hd : decode cc pc = .ok (.aload_n i, 1)) (hl : lv[i.val]? = some (some (.ref x))) (k : G w X Z (pc + 1) lv (.ref x :: st) u) : G w X Z pc lv st u := fun H locs ls h1 h2 h3 h4 => lv_aload_n hX.1 hX.2.1 hd rfl (h4.2.2.2 _ _ hl) (k H locs ls h1 h2 h3 h4)
theorem G_aload (hX : OKc w X o cc d) {i : Nat} {x : Nat} (hd : decode cc pc = .ok (.aload i, 2)) (hl : lv[i]? = some (some (.ref x))) (k : G w X Z (pc + 2) lv (.ref x :: st) u) : G w X Z pc lv st u := fun H locs ls h1 h2 h3 h4 => lv_aload hX.1 hX.2.1 hd (h4.2.2.2 _ _ hl) (k H locs ls h1 h2 h3 h4)
theorem G_aload_nN (hX : OKc w X o cc d) {i : Fin 4} (hd : decode cc pc = .ok (.aload_n i, 1)) (hl : lv[i.val]? = some (some .null)) (k : G w X Z (pc + 1) lv (.null :: st) u) : G w X Z pc lv st u := fun H locs ls h1 h2 h3 h4 => lv_aload_nN hX.1 hX.2.1 hd rfl (h4.2.2.2 _ _ hl) (k H locs ls h1 h2 h3 h4)
theorem G_aloadN (hX : OKc w X o cc d) {i : Nat} (hd : decode cc pc = .ok (.aload i, 2)) (hl : lv[i]? = some (some .null)) (k : G w X Z (pc + 2) lv (.null :: st) u) : G w X Z pc lv st u := fun H locs ls h1 h2 h3 h4 => lv_aloadN hX.1 hX.2.1 hd (h4.2.2.2 _ _ hl) (k H locs ls h1 h2 h3 h4)
theorem G_istore_n (hX : OKc w X o cc d) {i : Fin 4} {x : Int32} (hd : decode cc pc = .ok (.istore_n i, 1)) (hk : okst lv i.val = true) (hi : i.val < lv.length) (hl : lv.set i.val (some (.int x)) = lv') (k : G w X Z (pc + 1) lv' st u) : G w X Z pc lv (.int x :: st) u := fun H locs ls h1 h2 h3 h4 => lv_istore_n hX.1 hX.2.1 hd rfl h4.has (by rw [← h4.2.1]; exact hi) rfl (fun ls' h => k H locs ls' h1 h2 h3 (hl ▸ h4.st1 (v := .int x) hk h))
theorem G_istore (hX : OKc w X o cc d) {i : Nat} {x : Int32} (hd : decode cc pc = .ok (.istore i, 2)) (hk : okst lv i = true) (hi : i < lv.length) (hl : lv.set i (some (.int x)) = lv') (k : G w X Z (pc + 2) lv' st u) : G w X Z pc lv (.int x :: st) u := fun H locs ls h1 h2 h3 h4 => lv_istore hX.1 hX.2.1 hd h4.has (by rw [← h4.2.1]; exact hi) rfl (fun ls' h => k H locs ls' h1 h2 h3 (hl ▸ h4.st1 (v := .int x) hk h))
theorem G_lstore_n (hX : OKc w X o cc d) {i : Fin 4} {x : Int64} (hd : decode cc pc = .ok (.lstore_n i, 1)) (hk : okst lv i.val = true) (hi : i.val + 1 < lv.length) (hl : (lv.set i.val (some (.long x))).set (i.val + 1) none = lv') (k : G w X Z (pc + 1) lv' st u) : G w X Z pc lv (.long x :: st) u := fun H locs ls h1 h2 h3 h4 => lv_lstore_n hX.1 hX.2.1 hd rfl h4.has (by rw [← h4.2.1]; exact hi) rfl (fun ls' h => k H locs ls' h1 h2 h3 (hl ▸ h4.st2 (v := .long x) hk h))
theorem G_lstore (hX : OKc w X o cc d) {i : Nat} {x : Int64} (hd : decode cc pc = .ok (.lstore i, 2)) (hk : okst lv i = true) (hi : i + 1 < lv.length) (hl : (lv.set i (some (.long x))).set (i + 1) none = lv') (k : G w X Z (pc + 2) lv' st u) : G w X Z pc lv (.long x :: st) u := fun H locs ls h1 h2 h3 h4 => lv_lstore hX.1 hX.2.1 hd h4.has (by rw [← h4.2.1]; exact hi) rfl (fun ls' h => k H locs ls' h1 h2 h3 (hl ▸ h4.st2 (v := .long x) hk h))
theorem G_astore_n (hX : OKc w X o cc d) {i : Fin 4} {x : Nat} (hd : decode cc pc = .ok (.astore_n i, 1)) (hk : okst lv i.val = true) (hi : i.val < lv.length) (hl : lv.set i.val (some (.ref x)) = lv') (k : G w X Z (pc + 1) lv' st u) : G w X Z pc lv (.ref x :: st) u := fun H locs ls h1 h2 h3 h4 => lv_astore_n hX.1 hX.2.1 hd rfl h4.has (by rw [← h4.2.1]; exact hi) rfl (fun ls' h => k H locs ls' h1 h2 h3 (hl ▸ h4.st1 (v := .ref x) hk h))
theorem G_astore (hX : OKc w X o cc d) {i : Nat} {x : Nat} (hd : decode cc pc = .ok (.astore i, 2)) (hk : okst lv i = true) (hi : i < lv.length) (hl : lv.set i (some (.ref x)) = lv') (k : G w X Z (pc + 2) lv' st u) : G w X Z pc lv (.ref x :: st) u := fun H locs ls h1 h2 h3 h4 => lv_astore hX.1 hX.2.1 hd h4.has (by rw [← h4.2.1]; exact hi) rfl (fun ls' h => k H locs ls' h1 h2 h3 (hl ▸ h4.st1 (v := .ref x) hk h))
theorem G_astore_nN (hX : OKc w X o cc d) {i : Fin 4} (hd : decode cc pc = .ok (.astore_n i, 1)) (hk : okst lv i.val = true) (hi : i.val < lv.length) (hl : lv.set i.val (some .null) = lv') (k : G w X Z (pc + 1) lv' st u) : G w X Z pc lv (.null :: st) u := fun H locs ls h1 h2 h3 h4 => lv_astore_nN hX.1 hX.2.1 hd rfl h4.has (by rw [← h4.2.1]; exact hi) rfl (fun ls' h => k H locs ls' h1 h2 h3 (hl ▸ h4.st1 (v := .null) hk h))
theorem G_astoreN (hX : OKc w X o cc d) {i : Nat} (hd : decode cc pc = .ok (.astore i, 2)) (hk : okst lv i = true) (hi : i < lv.length) (hl : lv.set i (some .null) = lv') (k : G w X Z (pc + 2) lv' st u) : G w X Z pc lv (.null :: st) u := fun H locs ls h1 h2 h3 h4 => lv_astoreN hX.1 hX.2.1 hd h4.has (by rw [← h4.2.1]; exact hi) rfl (fun ls' h => k H locs ls' h1 h2 h3 (hl ▸ h4.st1 (v := .null) hk h))
theorem G_iinc (hX : OKc w X o cc d) {i : Nat} {n : Int} {x v : Int32} (hd : decode cc pc = .ok (.iinc i n, 3)) (hg : lv[i]? = some (some (.int x))) (hv : x + Int32.ofInt n = v) (hk : okst lv i = true) (hi : i < lv.length) (hl : lv.set i (some (.int v)) = lv') (k : G w X Z (pc + 3) lv' st u) : G w X Z pc lv st u := by
  intro H locs ls h1 h2 h3 h4
  obtain ⟨j, hj⟩ := List.getElem?_of_mem (lvl_mem (w := w) (lv := lv) (q := (i, .int x)) |>.mpr ⟨.int x, hg, rfl⟩)
  exact lv_iinc hX.1 hX.2.1 hd h4.has hj hv (by rw [← h4.2.1]; exact hi) rfl (fun ls' h => k H locs ls' h1 h2 h3 (hl ▸ h4.st1 (v := .int v) hk h))
theorem G_iadd (hX : OKc w X o cc d) {x y : Int32} (hd : decode cc pc = .ok (.iadd, 1)) (k : G w X Z (pc + 1) lv (.int (x + y) :: st) u) : G w X Z pc lv (.int y :: .int x :: st) u := fun H locs ls h1 h2 h3 h4 => lv_iadd hX.1 hX.2.1 hd (k H locs ls h1 h2 h3 h4)
theorem G_isub (hX : OKc w X o cc d) {x y : Int32} (hd : decode cc pc = .ok (.isub, 1)) (k : G w X Z (pc + 1) lv (.int (x - y) :: st) u) : G w X Z pc lv (.int y :: .int x :: st) u := fun H locs ls h1 h2 h3 h4 => lv_isub hX.1 hX.2.1 hd (k H locs ls h1 h2 h3 h4)
theorem G_imul (hX : OKc w X o cc d) {x y : Int32} (hd : decode cc pc = .ok (.imul, 1)) (k : G w X Z (pc + 1) lv (.int (x * y) :: st) u) : G w X Z pc lv (.int y :: .int x :: st) u := fun H locs ls h1 h2 h3 h4 => lv_imul hX.1 hX.2.1 hd (k H locs ls h1 h2 h3 h4)
theorem G_iand (hX : OKc w X o cc d) {x y : Int32} (hd : decode cc pc = .ok (.iand, 1)) (k : G w X Z (pc + 1) lv (.int (x &&& y) :: st) u) : G w X Z pc lv (.int y :: .int x :: st) u := fun H locs ls h1 h2 h3 h4 => lv_iand hX.1 hX.2.1 hd (k H locs ls h1 h2 h3 h4)
theorem G_ior (hX : OKc w X o cc d) {x y : Int32} (hd : decode cc pc = .ok (.ior, 1)) (k : G w X Z (pc + 1) lv (.int (x ||| y) :: st) u) : G w X Z pc lv (.int y :: .int x :: st) u := fun H locs ls h1 h2 h3 h4 => lv_ior hX.1 hX.2.1 hd (k H locs ls h1 h2 h3 h4)
theorem G_ixor (hX : OKc w X o cc d) {x y : Int32} (hd : decode cc pc = .ok (.ixor, 1)) (k : G w X Z (pc + 1) lv (.int (x ^^^ y) :: st) u) : G w X Z pc lv (.int y :: .int x :: st) u := fun H locs ls h1 h2 h3 h4 => lv_ixor hX.1 hX.2.1 hd (k H locs ls h1 h2 h3 h4)
theorem G_ishl (hX : OKc w X o cc d) {x y : Int32} (hd : decode cc pc = .ok (.ishl, 1)) (k : G w X Z (pc + 1) lv (.int (x <<< (y &&& 31)) :: st) u) : G w X Z pc lv (.int y :: .int x :: st) u := fun H locs ls h1 h2 h3 h4 => lv_ishl hX.1 hX.2.1 hd (k H locs ls h1 h2 h3 h4)
theorem G_ishr (hX : OKc w X o cc d) {x y : Int32} (hd : decode cc pc = .ok (.ishr, 1)) (k : G w X Z (pc + 1) lv (.int (x >>> (y &&& 31)) :: st) u) : G w X Z pc lv (.int y :: .int x :: st) u := fun H locs ls h1 h2 h3 h4 => lv_ishr hX.1 hX.2.1 hd (k H locs ls h1 h2 h3 h4)
theorem G_iushr (hX : OKc w X o cc d) {x y : Int32} (hd : decode cc pc = .ok (.iushr, 1)) (k : G w X Z (pc + 1) lv (.int ((x.toUInt32 >>> (y.toUInt32 &&& Int32.toUInt32 31)).toInt32) :: st) u) : G w X Z pc lv (.int y :: .int x :: st) u := fun H locs ls h1 h2 h3 h4 => lv_iushr hX.1 hX.2.1 hd rfl (k H locs ls h1 h2 h3 h4)
theorem G_ladd (hX : OKc w X o cc d) {x y : Int64} (hd : decode cc pc = .ok (.ladd, 1)) (k : G w X Z (pc + 1) lv (.long (x + y) :: st) u) : G w X Z pc lv (.long y :: .long x :: st) u := fun H locs ls h1 h2 h3 h4 => lv_ladd hX.1 hX.2.1 hd (k H locs ls h1 h2 h3 h4)
theorem G_lsub (hX : OKc w X o cc d) {x y : Int64} (hd : decode cc pc = .ok (.lsub, 1)) (k : G w X Z (pc + 1) lv (.long (x - y) :: st) u) : G w X Z pc lv (.long y :: .long x :: st) u := fun H locs ls h1 h2 h3 h4 => lv_lsub hX.1 hX.2.1 hd (k H locs ls h1 h2 h3 h4)
theorem G_lmul (hX : OKc w X o cc d) {x y : Int64} (hd : decode cc pc = .ok (.lmul, 1)) (k : G w X Z (pc + 1) lv (.long (x * y) :: st) u) : G w X Z pc lv (.long y :: .long x :: st) u := fun H locs ls h1 h2 h3 h4 => lv_lmul hX.1 hX.2.1 hd (k H locs ls h1 h2 h3 h4)
theorem G_land (hX : OKc w X o cc d) {x y : Int64} (hd : decode cc pc = .ok (.land, 1)) (k : G w X Z (pc + 1) lv (.long (x &&& y) :: st) u) : G w X Z pc lv (.long y :: .long x :: st) u := fun H locs ls h1 h2 h3 h4 => lv_land hX.1 hX.2.1 hd (k H locs ls h1 h2 h3 h4)
theorem G_lor (hX : OKc w X o cc d) {x y : Int64} (hd : decode cc pc = .ok (.lor, 1)) (k : G w X Z (pc + 1) lv (.long (x ||| y) :: st) u) : G w X Z pc lv (.long y :: .long x :: st) u := fun H locs ls h1 h2 h3 h4 => lv_lor hX.1 hX.2.1 hd (k H locs ls h1 h2 h3 h4)
theorem G_lshl (hX : OKc w X o cc d) {x : Int64} {y : Int32} (hd : decode cc pc = .ok (.lshl, 1)) (k : G w X Z (pc + 1) lv (.long (x <<< (y.toInt64 &&& 63)) :: st) u) : G w X Z pc lv (.int y :: .long x :: st) u := fun H locs ls h1 h2 h3 h4 => lv_lshl hX.1 hX.2.1 hd rfl (k H locs ls h1 h2 h3 h4)
theorem G_ineg (hX : OKc w X o cc d) {x : Int32} (hd : decode cc pc = .ok (.ineg, 1)) (k : G w X Z (pc + 1) lv (.int (-x) :: st) u) : G w X Z pc lv (.int x :: st) u := fun H locs ls h1 h2 h3 h4 => lv_ineg hX.1 hX.2.1 hd (k H locs ls h1 h2 h3 h4)
theorem G_i2l (hX : OKc w X o cc d) {x : Int32} (hd : decode cc pc = .ok (.i2l, 1)) (k : G w X Z (pc + 1) lv (.long x.toInt64 :: st) u) : G w X Z pc lv (.int x :: st) u := fun H locs ls h1 h2 h3 h4 => lv_i2l hX.1 hX.2.1 hd rfl (k H locs ls h1 h2 h3 h4)
theorem G_l2i (hX : OKc w X o cc d) {x : Int64} (hd : decode cc pc = .ok (.l2i, 1)) (k : G w X Z (pc + 1) lv (.int x.toInt32 :: st) u) : G w X Z pc lv (.long x :: st) u := fun H locs ls h1 h2 h3 h4 => lv_l2i hX.1 hX.2.1 hd rfl (k H locs ls h1 h2 h3 h4)
theorem G_i2b (hX : OKc w X o cc d) {x : Int32} (hd : decode cc pc = .ok (.i2b, 1)) (k : G w X Z (pc + 1) lv (.int x.toInt8.toInt32 :: st) u) : G w X Z pc lv (.int x :: st) u := fun H locs ls h1 h2 h3 h4 => lv_i2b hX.1 hX.2.1 hd rfl (k H locs ls h1 h2 h3 h4)
theorem G_i2s (hX : OKc w X o cc d) {x : Int32} (hd : decode cc pc = .ok (.i2s, 1)) (k : G w X Z (pc + 1) lv (.int x.toInt16.toInt32 :: st) u) : G w X Z pc lv (.int x :: st) u := fun H locs ls h1 h2 h3 h4 => lv_i2s hX.1 hX.2.1 hd rfl (k H locs ls h1 h2 h3 h4)
theorem G_lcmp (hX : OKc w X o cc d) {x y : Int64} (hd : decode cc pc = .ok (.lcmp, 1)) (k : G w X Z (pc + 1) lv (.int (lg_cmp x y) :: st) u) : G w X Z pc lv (.long y :: .long x :: st) u := fun H locs ls h1 h2 h3 h4 => W.lcmp hX.1 hX.2.1 hd (k H locs ls h1 h2 h3 h4)
theorem G_idiv (hX : OKc w X o cc d) {x y : Int32} (hd : decode cc pc = .ok (.idiv, 1)) (hne : ¬ y = 0) (k : G w X Z (pc + 1) lv (.int (x / y) :: st) u) : G w X Z pc lv (.int y :: .int x :: st) u := fun H locs ls h1 h2 h3 h4 => lv_idiv hX.1 hX.2.1 hd hne (k H locs ls h1 h2 h3 h4)
theorem G_idivF (hX : OKc w X o cc d) {x y : Int32} {ρ : Type} {A : Option ρ} {r : ρ} (hd : decode cc pc = .ok (.idiv, 1)) (hf : (if y = 0 then none else A) = some r) (k : A = some r → G w X Z (pc + 1) lv (.int (x / y) :: st) u) : G w X Z pc lv (.int y :: .int x :: st) u := by
  by_cases h : y = 0
  · rw [if_pos h] at hf; cases hf
  · rw [if_neg h] at hf; exact G_idiv hX hd h (k hf)
theorem G_irem (hX : OKc w X o cc d) {x y : Int32} (hd : decode cc pc = .ok (.irem, 1)) (hne : ¬ y = 0) (k : G w X Z (pc + 1) lv (.int (irm x y) :: st) u) : G w X Z pc lv (.int y :: .int x :: st) u := fun H locs ls h1 h2 h3 h4 => lv_irem hX.1 hX.2.1 hd hne (k H locs ls h1 h2 h3 h4)
theorem G_iremF (hX : OKc w X o cc d) {x y : Int32} {ρ : Type} {A : Option ρ} {r : ρ} (hd : decode cc pc = .ok (.irem, 1)) (hf : (if y = 0 then none else A) = some r) (k : A = some r → G w X Z (pc + 1) lv (.int (irm x y) :: st) u) : G w X Z pc lv (.int y :: .int x :: st) u := by
  by_cases h : y = 0
  · rw [if_pos h] at hf; cases hf
  · rw [if_neg h] at hf; exact G_irem hX hd h (k hf)
theorem G_ldiv (hX : OKc w X o cc d) {x y : Int64} (hd : decode cc pc = .ok (.ldiv, 1)) (hne : ¬ y = 0) (k : G w X Z (pc + 1) lv (.long (x / y) :: st) u) : G w X Z pc lv (.long y :: .long x :: st) u := fun H locs ls h1 h2 h3 h4 => lv_ldiv hX.1 hX.2.1 hd hne (k H locs ls h1 h2 h3 h4)
theorem G_ldivF (hX : OKc w X o cc d) {x y : Int64} {ρ : Type} {A : Option ρ} {r : ρ} (hd : decode cc pc = .ok (.ldiv, 1)) (hf : (if y = 0 then none else A) = some r) (k : A = some r → G w X Z (pc + 1) lv (.long (x / y) :: st) u) : G w X Z pc lv (.long y :: .long x :: st) u := by
  by_cases h : y = 0
  · rw [if_pos h] at hf; cases hf
  · rw [if_neg h] at hf; exact G_ldiv hX hd h (k hf)
theorem G_lrem (hX : OKc w X o cc d) {x y : Int64} (hd : decode cc pc = .ok (.lrem, 1)) (hne : ¬ y = 0) (k : G w X Z (pc + 1) lv (.long (lrm x y) :: st) u) : G w X Z pc lv (.long y :: .long x :: st) u := fun H locs ls h1 h2 h3 h4 => lv_lrem hX.1 hX.2.1 hd hne (k H locs ls h1 h2 h3 h4)
theorem G_lremF (hX : OKc w X o cc d) {x y : Int64} {ρ : Type} {A : Option ρ} {r : ρ} (hd : decode cc pc = .ok (.lrem, 1)) (hf : (if y = 0 then none else A) = some r) (k : A = some r → G w X Z (pc + 1) lv (.long (lrm x y) :: st) u) : G w X Z pc lv (.long y :: .long x :: st) u := by
  by_cases h : y = 0
  · rw [if_pos h] at hf; cases hf
  · rw [if_neg h] at hf; exact G_lrem hX hd h (k hf)
theorem G_dup (hX : OKc w X o cc d) {v : Value} (hd : decode cc pc = .ok (.dup, 1)) (hv : v.category = 1) (k : G w X Z (pc + 1) lv (v :: v :: st) u) : G w X Z pc lv (v :: st) u := fun H locs ls h1 h2 h3 h4 => lv_dup hX.1 hX.2.1 hd (by rw [tv_cat]; exact hv) (k H locs ls h1 h2 h3 h4)
theorem G_pop (hX : OKc w X o cc d) {v : Value} (hd : decode cc pc = .ok (.pop, 1)) (hv : v.category = 1) (k : G w X Z (pc + 1) lv st u) : G w X Z pc lv (v :: st) u := fun H locs ls h1 h2 h3 h4 => lv_pop hX.1 hX.2.1 hd (by rw [tv_cat]; exact hv) (k H locs ls h1 h2 h3 h4)
theorem G_dup2 (hX : OKc w X o cc d) {v v2 : Value} (hd : decode cc pc = .ok (.dup2, 1)) (hv : v.category = 1) (hv2 : v2.category = 1) (k : G w X Z (pc + 1) lv (v :: v2 :: v :: v2 :: st) u) : G w X Z pc lv (v :: v2 :: st) u := fun H locs ls h1 h2 h3 h4 => lv_dup2_11 hX.1 hX.2.1 hd (by rw [tv_cat]; exact hv) (by rw [tv_cat]; exact hv2) (k H locs ls h1 h2 h3 h4)
theorem G_goto (hX : OKc w X o cc d) {off : Int} {tgt : Nat} (hd : decode cc pc = .ok (.goto off, 3)) (ht : (pc : Int) + off = (tgt : Int)) (k : G w X Z tgt lv st u) : G w X Z pc lv st u := fun H locs ls h1 h2 h3 h4 => lv_goto hX.1 hX.2.1 hd ht (k H locs ls h1 h2 h3 h4)
theorem G_if_ne (hX : OKc w X o cc d) {x : Int32} {off : Int} {tgt : Nat} {ρ : Type} {A B : Option ρ} {r : ρ} (hd : decode cc pc = .ok (.ifCond .ne off, 3)) (ht : (pc : Int) + off = (tgt : Int)) (hf : (if x = 0 then B else A) = some r) (kt : A = some r → G w X Z tgt lv st u) (kf : B = some r → G w X Z (pc + 3) lv st u) : G w X Z pc lv (.int x :: st) u := fun H locs ls h1 h2 h3 h4 => lv_if_ne hX.1 hX.2.1 hd ht (fun h => kt (by rw [if_neg h] at hf; exact hf) H locs ls h1 h2 h3 h4) (fun h => kf (by rw [if_pos h] at hf; exact hf) H locs ls h1 h2 h3 h4)
theorem G_icmp_ne (hX : OKc w X o cc d) {x y : Int32} {off : Int} {tgt : Nat} {ρ : Type} {A B : Option ρ} {r : ρ} (hd : decode cc pc = .ok (.if_icmp .ne off, 3)) (ht : (pc : Int) + off = (tgt : Int)) (hf : (if x = y then B else A) = some r) (kt : A = some r → G w X Z tgt lv st u) (kf : B = some r → G w X Z (pc + 3) lv st u) : G w X Z pc lv (.int y :: .int x :: st) u := fun H locs ls h1 h2 h3 h4 => lv_icmp_ne hX.1 hX.2.1 hd ht (fun h => kt (by rw [if_neg h] at hf; exact hf) H locs ls h1 h2 h3 h4) (fun h => kf (by rw [if_pos h] at hf; exact hf) H locs ls h1 h2 h3 h4)
theorem G_if_eq (hX : OKc w X o cc d) {x : Int32} {off : Int} {tgt : Nat} {ρ : Type} {A B : Option ρ} {r : ρ} (hd : decode cc pc = .ok (.ifCond .eq off, 3)) (ht : (pc : Int) + off = (tgt : Int)) (hf : (if x = 0 then A else B) = some r) (kt : A = some r → G w X Z tgt lv st u) (kf : B = some r → G w X Z (pc + 3) lv st u) : G w X Z pc lv (.int x :: st) u := fun H locs ls h1 h2 h3 h4 => lv_if_eq hX.1 hX.2.1 hd ht (fun h => kt (by rw [if_pos h] at hf; exact hf) H locs ls h1 h2 h3 h4) (fun h => kf (by rw [if_neg h] at hf; exact hf) H locs ls h1 h2 h3 h4)
theorem G_icmp_eq (hX : OKc w X o cc d) {x y : Int32} {off : Int} {tgt : Nat} {ρ : Type} {A B : Option ρ} {r : ρ} (hd : decode cc pc = .ok (.if_icmp .eq off, 3)) (ht : (pc : Int) + off = (tgt : Int)) (hf : (if x = y then A else B) = some r) (kt : A = some r → G w X Z tgt lv st u) (kf : B = some r → G w X Z (pc + 3) lv st u) : G w X Z pc lv (.int y :: .int x :: st) u := fun H locs ls h1 h2 h3 h4 => lv_icmp_eq hX.1 hX.2.1 hd ht (fun h => kt (by rw [if_pos h] at hf; exact hf) H locs ls h1 h2 h3 h4) (fun h => kf (by rw [if_neg h] at hf; exact hf) H locs ls h1 h2 h3 h4)
theorem G_if_lt (hX : OKc w X o cc d) {x : Int32} {off : Int} {tgt : Nat} {ρ : Type} {A B : Option ρ} {r : ρ} (hd : decode cc pc = .ok (.ifCond .lt off, 3)) (ht : (pc : Int) + off = (tgt : Int)) (hf : (if x < 0 then A else B) = some r) (kt : A = some r → G w X Z tgt lv st u) (kf : B = some r → G w X Z (pc + 3) lv st u) : G w X Z pc lv (.int x :: st) u := fun H locs ls h1 h2 h3 h4 => lv_if_lt hX.1 hX.2.1 hd ht (fun h => kt (by rw [if_pos h] at hf; exact hf) H locs ls h1 h2 h3 h4) (fun h => kf (by rw [if_neg h] at hf; exact hf) H locs ls h1 h2 h3 h4)
theorem G_icmp_lt (hX : OKc w X o cc d) {x y : Int32} {off : Int} {tgt : Nat} {ρ : Type} {A B : Option ρ} {r : ρ} (hd : decode cc pc = .ok (.if_icmp .lt off, 3)) (ht : (pc : Int) + off = (tgt : Int)) (hf : (if x < y then A else B) = some r) (kt : A = some r → G w X Z tgt lv st u) (kf : B = some r → G w X Z (pc + 3) lv st u) : G w X Z pc lv (.int y :: .int x :: st) u := fun H locs ls h1 h2 h3 h4 => lv_icmp_lt hX.1 hX.2.1 hd ht (fun h => kt (by rw [if_pos h] at hf; exact hf) H locs ls h1 h2 h3 h4) (fun h => kf (by rw [if_neg h] at hf; exact hf) H locs ls h1 h2 h3 h4)
theorem G_if_ge (hX : OKc w X o cc d) {x : Int32} {off : Int} {tgt : Nat} {ρ : Type} {A B : Option ρ} {r : ρ} (hd : decode cc pc = .ok (.ifCond .ge off, 3)) (ht : (pc : Int) + off = (tgt : Int)) (hf : (if 0 ≤ x then A else B) = some r) (kt : A = some r → G w X Z tgt lv st u) (kf : B = some r → G w X Z (pc + 3) lv st u) : G w X Z pc lv (.int x :: st) u := fun H locs ls h1 h2 h3 h4 => lv_if_ge hX.1 hX.2.1 hd ht (fun h => kt (by rw [if_pos h] at hf; exact hf) H locs ls h1 h2 h3 h4) (fun h => kf (by rw [if_neg h] at hf; exact hf) H locs ls h1 h2 h3 h4)
theorem G_icmp_ge (hX : OKc w X o cc d) {x y : Int32} {off : Int} {tgt : Nat} {ρ : Type} {A B : Option ρ} {r : ρ} (hd : decode cc pc = .ok (.if_icmp .ge off, 3)) (ht : (pc : Int) + off = (tgt : Int)) (hf : (if y ≤ x then A else B) = some r) (kt : A = some r → G w X Z tgt lv st u) (kf : B = some r → G w X Z (pc + 3) lv st u) : G w X Z pc lv (.int y :: .int x :: st) u := fun H locs ls h1 h2 h3 h4 => lv_icmp_ge hX.1 hX.2.1 hd ht (fun h => kt (by rw [if_pos h] at hf; exact hf) H locs ls h1 h2 h3 h4) (fun h => kf (by rw [if_neg h] at hf; exact hf) H locs ls h1 h2 h3 h4)
theorem G_if_gt (hX : OKc w X o cc d) {x : Int32} {off : Int} {tgt : Nat} {ρ : Type} {A B : Option ρ} {r : ρ} (hd : decode cc pc = .ok (.ifCond .gt off, 3)) (ht : (pc : Int) + off = (tgt : Int)) (hf : (if 0 < x then A else B) = some r) (kt : A = some r → G w X Z tgt lv st u) (kf : B = some r → G w X Z (pc + 3) lv st u) : G w X Z pc lv (.int x :: st) u := fun H locs ls h1 h2 h3 h4 => lv_if_gt hX.1 hX.2.1 hd ht (fun h => kt (by rw [if_pos h] at hf; exact hf) H locs ls h1 h2 h3 h4) (fun h => kf (by rw [if_neg h] at hf; exact hf) H locs ls h1 h2 h3 h4)
theorem G_icmp_gt (hX : OKc w X o cc d) {x y : Int32} {off : Int} {tgt : Nat} {ρ : Type} {A B : Option ρ} {r : ρ} (hd : decode cc pc = .ok (.if_icmp .gt off, 3)) (ht : (pc : Int) + off = (tgt : Int)) (hf : (if y < x then A else B) = some r) (kt : A = some r → G w X Z tgt lv st u) (kf : B = some r → G w X Z (pc + 3) lv st u) : G w X Z pc lv (.int y :: .int x :: st) u := fun H locs ls h1 h2 h3 h4 => lv_icmp_gt hX.1 hX.2.1 hd ht (fun h => kt (by rw [if_pos h] at hf; exact hf) H locs ls h1 h2 h3 h4) (fun h => kf (by rw [if_neg h] at hf; exact hf) H locs ls h1 h2 h3 h4)
theorem G_if_le (hX : OKc w X o cc d) {x : Int32} {off : Int} {tgt : Nat} {ρ : Type} {A B : Option ρ} {r : ρ} (hd : decode cc pc = .ok (.ifCond .le off, 3)) (ht : (pc : Int) + off = (tgt : Int)) (hf : (if x ≤ 0 then A else B) = some r) (kt : A = some r → G w X Z tgt lv st u) (kf : B = some r → G w X Z (pc + 3) lv st u) : G w X Z pc lv (.int x :: st) u := fun H locs ls h1 h2 h3 h4 => lv_if_le hX.1 hX.2.1 hd ht (fun h => kt (by rw [if_pos h] at hf; exact hf) H locs ls h1 h2 h3 h4) (fun h => kf (by rw [if_neg h] at hf; exact hf) H locs ls h1 h2 h3 h4)
theorem G_icmp_le (hX : OKc w X o cc d) {x y : Int32} {off : Int} {tgt : Nat} {ρ : Type} {A B : Option ρ} {r : ρ} (hd : decode cc pc = .ok (.if_icmp .le off, 3)) (ht : (pc : Int) + off = (tgt : Int)) (hf : (if x ≤ y then A else B) = some r) (kt : A = some r → G w X Z tgt lv st u) (kf : B = some r → G w X Z (pc + 3) lv st u) : G w X Z pc lv (.int y :: .int x :: st) u := fun H locs ls h1 h2 h3 h4 => lv_icmp_le hX.1 hX.2.1 hd ht (fun h => kt (by rw [if_pos h] at hf; exact hf) H locs ls h1 h2 h3 h4) (fun h => kf (by rw [if_neg h] at hf; exact hf) H locs ls h1 h2 h3 h4)
theorem G_ifnonnull (hX : OKc w X o cc d) {x : Nat} {off : Int} {tgt : Nat} (hd : decode cc pc = .ok (.ifnonnull off, 3)) (ht : (pc : Int) + off = (tgt : Int)) (k : G w X Z tgt lv st u) : G w X Z pc lv (.ref x :: st) u := fun H locs ls h1 h2 h3 h4 => lv_ifnonnull hX.1 hX.2.1 hd ht (k H locs ls h1 h2 h3 h4)
theorem G_ifnull (hX : OKc w X o cc d) {x : Nat} {off : Int} (hd : decode cc pc = .ok (.ifnull off, 3)) (k : G w X Z (pc + 3) lv st u) : G w X Z pc lv (.ref x :: st) u := fun H locs ls h1 h2 h3 h4 => lv_ifnull hX.1 hX.2.1 hd (k H locs ls h1 h2 h3 h4)
theorem G_ifnonnullN (hX : OKc w X o cc d) {off : Int} (hd : decode cc pc = .ok (.ifnonnull off, 3)) (k : G w X Z (pc + 3) lv st u) : G w X Z pc lv (.null :: st) u := fun H locs ls h1 h2 h3 h4 => lv_ifnonnullN hX.1 hX.2.1 hd (k H locs ls h1 h2 h3 h4)
theorem G_ifnullN (hX : OKc w X o cc d) {off : Int} {tgt : Nat} (hd : decode cc pc = .ok (.ifnull off, 3)) (ht : (pc : Int) + off = (tgt : Int)) (k : G w X Z tgt lv st u) : G w X Z pc lv (.null :: st) u := fun H locs ls h1 h2 h3 h4 => lv_ifnullN hX.1 hX.2.1 hd ht (k H locs ls h1 h2 h3 h4)
theorem enc_I {w : Wc} {u : Um} {P : Pm} {a n : Nat} (hk : kd a = 9) (hn : ln a = n) : enc w u P a = .inl (wcy w 0, n, .inl (u.1 a)) := by
  unfold enc
  rw [hk, hn]
  rfl
theorem enc_J {w : Wc} {u : Um} {P : Pm} {a n : Nat} (hk : kd a = 10) (hn : ln a = n) : enc w u P a = .inl (wcy w 1, n, .inr (.inl (u.2 a))) := by
  unfold enc
  rw [hk, hn]
  rfl
theorem enc_Z {w : Wc} {u : Um} {P : Pm} {a n : Nat} (hk : kd a = 11) (hn : ln a = n) : enc w u P a = .inl (wcy w 2, n, .inl (u.1 a)) := by
  unfold enc
  rw [hk, hn]
  rfl
theorem enc_C {w : Wc} {u : Um} {P : Pm} {a n : Nat} (hk : kd a = 12) (hn : ln a = n) : enc w u P a = .inl (wcy w 3, n, .inr (.inr (.inr (.inr (fun i => (P a i).map (wAd w)))))) := by
  unfold enc
  rw [hk, hn]
  rfl
theorem enc_S {w : Wc} {u : Um} {P : Pm} {a n : Nat} (hk : kd a = 13) (hn : ln a = n) : enc w u P a = .inl (wcy w 4, n, .inr (.inr (.inr (.inr (fun i => (P a i).map (wAd w)))))) := by
  unfold enc
  rw [hk, hn]
  rfl
theorem enc_O {w : Wc} {u : Um} {P : Pm} {a c : Nat} (hk : kd a = c) (hc : c < 9) : enc w u P a = .inr (c, encF w u P a) := by
  unfold enc
  rw [hk, if_pos hc]
theorem kd_lt {a c : Nat} (h : kd a = c) (hc : c < 99) : a < 133 := by
  by_cases hl : a < 133
  · exact hl
  · exfalso
    have h2 : kd a = 99 := by
      unfold kd
      rw [List.getD_eq_getElem?_getD, List.getElem?_eq_none (by show 133 ≤ a; omega)]
      rfl
    omega
theorem tv_a (w : Wc) {a : Nat} (h : a < 133) : tv w (.ref a) = .ref (w.1 + a) := by
  show Value.ref (wAd w a) = _
  rw [wAd_lt w (by omega)]
theorem enc_sI {w : Wc} {u : Um} {P : Pm} {a j : Nat} {f : Nat → Int32} (h : j ≠ a) : enc w (sIr u a f) P j = enc w u P j := by
  have e : (sIr u a f).1 j = u.1 j := by simp [sIr, h]
  unfold enc encF
  rw [e]
  rfl
theorem enc_sJ {w : Wc} {u : Um} {P : Pm} {a j : Nat} {f : Nat → Int64} (h : j ≠ a) : enc w (sJr u a f) P j = enc w u P j := by
  have e : (sJr u a f).2 j = u.2 j := by simp [sJr, h]
  unfold enc encF
  rw [e]
  rfl
theorem sIr_at {u : Um} {a : Nat} {f : Nat → Int32} : (sIr u a f).1 a = f := by simp [sIr]
theorem sJr_at {u : Um} {a : Nat} {f : Nat → Int64} : (sJr u a f).2 a = f := by simp [sJr]
theorem wld_I {w : Wc} {u : Um} {P : Pm} {nx a n : Nat} (f : Nat → Int32) (hk : kd a = 9) (hn : ln a = n) : (wld w u P nx).set a (w.1 + a, .inl (wcy w 0, n, .inl f)) = wld w (sIr u a f) P nx :=
  wld_set (by rw [enc_I hk hn, sIr_at]) (fun j h => enc_sI h)
theorem wld_Z {w : Wc} {u : Um} {P : Pm} {nx a n : Nat} (f : Nat → Int32) (hk : kd a = 11) (hn : ln a = n) : (wld w u P nx).set a (w.1 + a, .inl (wcy w 2, n, .inl f)) = wld w (sIr u a f) P nx :=
  wld_set (by rw [enc_Z hk hn, sIr_at]) (fun j h => enc_sI h)
theorem wld_J {w : Wc} {u : Um} {P : Pm} {nx a n : Nat} (f : Nat → Int64) (hk : kd a = 10) (hn : ln a = n) : (wld w u P nx).set a (w.1 + a, .inl (wcy w 1, n, .inr (.inl f))) = wld w (sJr u a f) P nx :=
  wld_set (by rw [enc_J hk hn, sJr_at]) (fun j h => enc_sJ h)
theorem gt_a {w : Wc} {u : Um} {P : Pm} {nx a : Nat} {e : va_E} (h : a < nx) (he : enc w u P a = e) : (wld w u P nx)[a]? = some (w.1 + a, e) := by rw [wld_get h, he]
theorem G_iald (hX : OKc w X o cc d) {a n : Nat} {i : Int32} {ρ : Type} {A : Option ρ} {r : ρ} (hk : kd a = 9) (hn : ln a = n) (hx : a < Z.2.2.2.1) (hd : decode cc pc = .ok (.iaload, 1)) (hf : (if inb i n = true then A else none) = some r) (k : A = some r → G w X Z (pc + 1) lv (.int (u.1 a i.toNatClampNeg) :: st) u) : G w X Z pc lv (.int i :: .ref a :: st) u := by
  intro H locs ls h1 h2 h3 h4
  by_cases hb : inb i n = true
  · rw [if_pos hb] at hf
    rw [List.map_cons, List.map_cons, tv_a w (kd_lt hk (by decide))]
    exact va_iald hX.1 hX.2.1 hX.2.2.2.2.1 h2 a 0 (gt_a hx (enc_I hk hn)) rfl (inb_in hb) hd (k hf H locs ls h1 h2 h3 h4)
  · rw [if_neg hb] at hf; cases hf
theorem G_lald (hX : OKc w X o cc d) {a n : Nat} {i : Int32} {ρ : Type} {A : Option ρ} {r : ρ} (hk : kd a = 10) (hn : ln a = n) (hx : a < Z.2.2.2.1) (hd : decode cc pc = .ok (.laload, 1)) (hf : (if inb i n = true then A else none) = some r) (k : A = some r → G w X Z (pc + 1) lv (.long (u.2 a i.toNatClampNeg) :: st) u) : G w X Z pc lv (.int i :: .ref a :: st) u := by
  intro H locs ls h1 h2 h3 h4
  by_cases hb : inb i n = true
  · rw [if_pos hb] at hf
    rw [List.map_cons, List.map_cons, tv_a w (kd_lt hk (by decide))]
    exact va_lald hX.1 hX.2.1 hX.2.2.2.2.1 h2 a 1 (gt_a hx (enc_J hk hn)) rfl (inb_in hb) hd (k hf H locs ls h1 h2 h3 h4)
  · rw [if_neg hb] at hf; cases hf
theorem G_zald (hX : OKc w X o cc d) {a n : Nat} {i : Int32} {ρ : Type} {A : Option ρ} {r : ρ} (hk : kd a = 11) (hn : ln a = n) (hx : a < Z.2.2.2.1) (hd : decode cc pc = .ok (.baload, 1)) (hf : (if inb i n = true then A else none) = some r) (k : A = some r → G w X Z (pc + 1) lv (.int (u.1 a i.toNatClampNeg) :: st) u) : G w X Z pc lv (.int i :: .ref a :: st) u := by
  intro H locs ls h1 h2 h3 h4
  by_cases hb : inb i n = true
  · rw [if_pos hb] at hf
    rw [List.map_cons, List.map_cons, tv_a w (kd_lt hk (by decide))]
    exact va_zald hX.1 hX.2.1 hX.2.2.2.2.1 h2 a 2 (gt_a hx (enc_Z hk hn)) rfl (inb_in hb) hd (k hf H locs ls h1 h2 h3 h4)
  · rw [if_neg hb] at hf; cases hf
theorem G_iast (hX : OKc w X o cc d) {a n : Nat} {i : Int32} {x : Int32} {ρ : Type} {A : Um → Option ρ} {r : ρ} (hk : kd a = 9) (hn : ln a = n) (hx : a < Z.2.2.2.1) (hz : Z.2.2.2.2 = false) (hd : decode cc pc = .ok (.iastore, 1)) (hf : (if inb i n = true then nm (sI u a i.toNatClampNeg x) A else none) = some r) (k : ∀ u', A u' = some r → G w X Z (pc + 1) lv st u') : G w X Z pc lv (.int x :: .int i :: .ref a :: st) u := by
  intro H locs ls h1 h2 h3 h4
  by_cases hb : inb i n = true
  · rw [if_pos hb] at hf
    rw [List.map_cons, List.map_cons, List.map_cons, tv_a w (kd_lt hk (by decide))]
    refine va_iast hX.1 hX.2.1 hX.2.2.2.2.1 h2 wld_D h3 a 0 (gt_a hx (enc_I hk hn)) rfl (inb_in hb) hd (fun H1 locs1 g1 g2 g3 => ?_)
    rw [wld_I _ hk hn] at g1
    exact k _ hf H1 locs1 ls (fun h => by rw [hz] at h; cases h) g1 g3 h4
  · rw [if_neg hb] at hf; cases hf
theorem G_last (hX : OKc w X o cc d) {a n : Nat} {i : Int32} {x : Int64} {ρ : Type} {A : Um → Option ρ} {r : ρ} (hk : kd a = 10) (hn : ln a = n) (hx : a < Z.2.2.2.1) (hz : Z.2.2.2.2 = false) (hd : decode cc pc = .ok (.lastore, 1)) (hf : (if inb i n = true then nm (sJ u a i.toNatClampNeg x) A else none) = some r) (k : ∀ u', A u' = some r → G w X Z (pc + 1) lv st u') : G w X Z pc lv (.long x :: .int i :: .ref a :: st) u := by
  intro H locs ls h1 h2 h3 h4
  by_cases hb : inb i n = true
  · rw [if_pos hb] at hf
    rw [List.map_cons, List.map_cons, List.map_cons, tv_a w (kd_lt hk (by decide))]
    refine va_last hX.1 hX.2.1 hX.2.2.2.2.1 h2 wld_D h3 a 1 (gt_a hx (enc_J hk hn)) rfl (inb_in hb) hd (fun H1 locs1 g1 g2 g3 => ?_)
    rw [wld_J _ hk hn] at g1
    exact k _ hf H1 locs1 ls (fun h => by rw [hz] at h; cases h) g1 g3 h4
  · rw [if_neg hb] at hf; cases hf
theorem G_zast (hX : OKc w X o cc d) {a n : Nat} {i : Int32} {x : Int32} {ρ : Type} {A : Um → Option ρ} {r : ρ} (hk : kd a = 11) (hn : ln a = n) (hx : a < Z.2.2.2.1) (hz : Z.2.2.2.2 = false) (hd : decode cc pc = .ok (.bastore, 1)) (hf : (if inb i n = true then nm (sI u a i.toNatClampNeg (vp_nar .boolean x)) A else none) = some r) (k : ∀ u', A u' = some r → G w X Z (pc + 1) lv st u') : G w X Z pc lv (.int x :: .int i :: .ref a :: st) u := by
  intro H locs ls h1 h2 h3 h4
  by_cases hb : inb i n = true
  · rw [if_pos hb] at hf
    rw [List.map_cons, List.map_cons, List.map_cons, tv_a w (kd_lt hk (by decide))]
    refine va_zast hX.1 hX.2.1 hX.2.2.2.2.1 h2 wld_D h3 a 2 (gt_a hx (enc_Z hk hn)) rfl (inb_in hb) hd (fun H1 locs1 g1 g2 g3 => ?_)
    rw [wld_Z _ hk hn] at g1
    exact k _ hf H1 locs1 ls (fun h => by rw [hz] at h; cases h) g1 g3 h4
  · rw [if_neg hb] at hf; cases hf
theorem G_alenI (hX : OKc w X o cc d) {a n : Nat} {v : Int32} (hk : kd a = 9) (hn : ln a = n) (hx : a < Z.2.2.2.1) (hd : decode cc pc = .ok (.arraylength, 1)) (hv : Int32.ofNat n = v) (k : G w X Z (pc + 1) lv (.int v :: st) u) : G w X Z pc lv (.ref a :: st) u := by
  intro H locs ls h1 h2 h3 h4
  rw [List.map_cons, tv_a w (kd_lt hk (by decide))]
  exact va_alen hX.1 hX.2.1 hX.2.2.2.2.1 h2 a 0 (gt_a hx (enc_I hk hn)) rfl hv hd (k H locs ls h1 h2 h3 h4)
theorem G_alenJ (hX : OKc w X o cc d) {a n : Nat} {v : Int32} (hk : kd a = 10) (hn : ln a = n) (hx : a < Z.2.2.2.1) (hd : decode cc pc = .ok (.arraylength, 1)) (hv : Int32.ofNat n = v) (k : G w X Z (pc + 1) lv (.int v :: st) u) : G w X Z pc lv (.ref a :: st) u := by
  intro H locs ls h1 h2 h3 h4
  rw [List.map_cons, tv_a w (kd_lt hk (by decide))]
  exact va_alen hX.1 hX.2.1 hX.2.2.2.2.1 h2 a 1 (gt_a hx (enc_J hk hn)) rfl hv hd (k H locs ls h1 h2 h3 h4)
theorem G_alenC (hX : OKc w X o cc d) {a n : Nat} {v : Int32} (hk : kd a = 12) (hn : ln a = n) (hx : a < Z.2.2.2.1) (hd : decode cc pc = .ok (.arraylength, 1)) (hv : Int32.ofNat n = v) (k : G w X Z (pc + 1) lv (.int v :: st) u) : G w X Z pc lv (.ref a :: st) u := by
  intro H locs ls h1 h2 h3 h4
  rw [List.map_cons, tv_a w (kd_lt hk (by decide))]
  exact va_alen hX.1 hX.2.1 hX.2.2.2.2.1 h2 a 3 (gt_a hx (enc_C hk hn)) rfl hv hd (k H locs ls h1 h2 h3 h4)
theorem G_alenS (hX : OKc w X o cc d) {a n : Nat} {v : Int32} (hk : kd a = 13) (hn : ln a = n) (hx : a < Z.2.2.2.1) (hd : decode cc pc = .ok (.arraylength, 1)) (hv : Int32.ofNat n = v) (k : G w X Z (pc + 1) lv (.int v :: st) u) : G w X Z pc lv (.ref a :: st) u := by
  intro H locs ls h1 h2 h3 h4
  rw [List.map_cons, tv_a w (kd_lt hk (by decide))]
  exact va_alen hX.1 hX.2.1 hX.2.2.2.2.1 h2 a 4 (gt_a hx (enc_S hk hn)) rfl hv hd (k H locs ls h1 h2 h3 h4)
theorem G_aaldC (hX : OKc w X o cc d) {a n t : Nat} {i : Int32} {ρ : Type} {A : Option ρ} {r : ρ} (hk : kd a = 12) (hn : ln a = n) (hx : a < Z.2.2.2.1) (hp : inb i n = true → Z.2.2.1 a i.toNatClampNeg = some t) (hd : decode cc pc = .ok (.aaload, 1)) (hf : (if inb i n = true then A else none) = some r) (k : A = some r → G w X Z (pc + 1) lv (.ref t :: st) u) : G w X Z pc lv (.int i :: .ref a :: st) u := by
  intro H locs ls h1 h2 h3 h4
  by_cases hb : inb i n = true
  · rw [if_pos hb] at hf
    rw [List.map_cons, List.map_cons, tv_a w (kd_lt hk (by decide))]
    refine va_aldq hX.1 hX.2.1 hX.2.2.2.2.1 h2 a 3 (gt_a hx (enc_C hk hn)) rfl (inb_in hb) hd ?_
    rw [hp hb]
    exact k hf H locs ls h1 h2 h3 h4
  · rw [if_neg hb] at hf; cases hf
theorem G_aaldS (hX : OKc w X o cc d) {a n t : Nat} {i : Int32} {ρ : Type} {A : Option ρ} {r : ρ} (hk : kd a = 13) (hn : ln a = n) (hx : a < Z.2.2.2.1) (hp : inb i n = true → Z.2.2.1 a i.toNatClampNeg = some t) (hd : decode cc pc = .ok (.aaload, 1)) (hf : (if inb i n = true then A else none) = some r) (k : A = some r → G w X Z (pc + 1) lv (.ref t :: st) u) : G w X Z pc lv (.int i :: .ref a :: st) u := by
  intro H locs ls h1 h2 h3 h4
  by_cases hb : inb i n = true
  · rw [if_pos hb] at hf
    rw [List.map_cons, List.map_cons, tv_a w (kd_lt hk (by decide))]
    refine va_aldq hX.1 hX.2.1 hX.2.2.2.2.1 h2 a 4 (gt_a hx (enc_S hk hn)) rfl (inb_in hb) hd ?_
    rw [hp hb]
    exact k hf H locs ls h1 h2 h3 h4
  · rw [if_neg hb] at hf; cases hf
/-! ===== fields ===== -/
def FL (o : String) (idx c i : Nat) : Prop := ∃ (C : String) (T : u_T) (N : Nat), vwCl[c]? = some (C, T, N) ∧ i < N ∧ Cond.fieldLink o idx (T i).1 (T i).2.1 (T i).2.2.1 ∈ tw ∧ ∀ q ∈ u_ws C T N, q ∈ tw
def FW (c i : Nat) : Prop := ∃ (C : String) (T : u_T) (N : Nat) (ty0 : Nat → FieldType), vwCl[c]? = some (C, T, N) ∧ (∀ k, k < N → parseFieldDescriptor (T k).2.2.1 = some (ty0 k)) ∧ (∀ a, a < N → ∀ b, b < N → a ≠ b → (T a).2.1 ≠ (T b).2.1) ∧ (T i).2.2.2 = false ∧ parseFieldDescriptor (T i).2.2.1 = some .int
theorem encF_int {w : Wc} {u : Um} {P : Pm} {a c i : Nat} (hk : kd a = c) (hi : (fty c)[i]? = some false) : (encF w u P a)[i]? = some (.int (u.1 a i)) := by
  unfold encF
  rw [hk, List.getElem?_mapIdx, hi]
  rfl
theorem encF_ref {w : Wc} {u : Um} {P : Pm} {a c i : Nat} (hk : kd a = c) (hi : (fty c)[i]? = some true) : (encF w u P a)[i]? = some (va_rf ((P a i).map (wAd w))) := by
  unfold encF
  rw [hk, List.getElem?_mapIdx, hi]
  rfl
theorem encF_set {w : Wc} {u : Um} {P : Pm} {a c i : Nat} {x : Int32} (hk : kd a = c) (hi : (fty c)[i]? = some false) : (encF w u P a).set i (.int x) = encF w (sI u a i x) P a := by
  apply List.ext_getElem?
  intro j
  have hl : i < (encF w u P a).length := (List.getElem?_eq_some_iff.mp (encF_int (w := w) (u := u) (P := P) hk hi)).1
  by_cases hj : j = i
  · subst hj
    rw [List.getElem?_set_self hl, encF_int hk hi]
    simp [sI, sIr, upd]
  · rw [List.getElem?_set_ne (Ne.symm hj)]
    unfold encF
    rw [List.getElem?_mapIdx, List.getElem?_mapIdx]
    simp [sI, sIr, upd, hj]
theorem wld_F {w : Wc} {u : Um} {P : Pm} {nx a c i : Nat} {x : Int32} (hk : kd a = c) (hc : c < 9) (hi : (fty c)[i]? = some false) : (wld w u P nx).set a (w.1 + a, .inr (c, (encF w u P a).set i (.int x))) = wld w (sI u a i x) P nx :=
  wld_set (by rw [enc_O hk hc, encF_set hk hi]) (fun j h => enc_sI h)
theorem G_getI (hX : OKc w X o cc d) {a c i idx : Nat} (hk : kd a = c) (hc : c < 9) (hx : a < Z.2.2.2.1) (hi : (fty c)[i]? = some false) (hl : FL o idx c i) (hd : decode cc pc = .ok (.getfield idx, 3)) (k : G w X Z (pc + 3) lv (.int (u.1 a i) :: st) u) : G w X Z pc lv (.ref a :: st) u := by
  intro H locs ls h1 h2 h3 h4
  obtain ⟨C, T, N, e1, e2, e3, e4⟩ := hl
  rw [List.map_cons, tv_a w (kd_lt hk (by omega))]
  exact va_get hX.1 hX.2.1 hX.2.2.2.1 e4 hX.2.2.1 hX.2.2.2.2.1 h2 a (gt_a hx (enc_O hk hc)) e1 i e2 (hX.2.2.2.1 _ e3) (fun _ h => h) (encF_int hk hi) hd (k H locs ls h1 h2 h3 h4)
theorem G_getR (hX : OKc w X o cc d) {a c i idx t : Nat} (hk : kd a = c) (hc : c < 9) (hx : a < Z.2.2.2.1) (hi : (fty c)[i]? = some true) (hp : Z.2.2.1 a i = some t) (hl : FL o idx c i) (hd : decode cc pc = .ok (.getfield idx, 3)) (k : G w X Z (pc + 3) lv (.ref t :: st) u) : G w X Z pc lv (.ref a :: st) u := by
  intro H locs ls h1 h2 h3 h4
  obtain ⟨C, T, N, e1, e2, e3, e4⟩ := hl
  rw [List.map_cons, tv_a w (kd_lt hk (by omega))]
  refine va_get hX.1 hX.2.1 hX.2.2.2.1 e4 hX.2.2.1 hX.2.2.2.2.1 h2 a (gt_a hx (enc_O hk hc)) e1 i e2 (hX.2.2.2.1 _ e3) (fun _ h => h) (encF_ref hk hi) hd ?_
  rw [hp]
  exact k H locs ls h1 h2 h3 h4
theorem G_putI (hX : OKc w X o cc d) {a c i idx : Nat} {x : Int32} {ρ : Type} {A : Um → Option ρ} {r : ρ} (hk : kd a = c) (hc : c < 9) (hx : a < Z.2.2.2.1) (hz : Z.2.2.2.2 = false) (hi : (fty c)[i]? = some false) (hl : FL o idx c i) (hw : FW c i) (hd : decode cc pc = .ok (.putfield idx, 3)) (hf : nm (sI u a i x) A = some r) (k : ∀ u', A u' = some r → G w X Z (pc + 3) lv st u') : G w X Z pc lv (.int x :: .ref a :: st) u := by
  intro H locs ls h1 h2 h3 h4
  obtain ⟨C, T, N, e1, e2, e3, e4⟩ := hl
  obtain ⟨C', T', N', ty0, g1, g2, g3, g4, g5⟩ := hw
  cases e1.symm.trans g1
  rw [List.map_cons, List.map_cons, tv_a w (kd_lt hk (by omega))]
  refine va_put hX.1 hX.2.1 hX.2.2.2.1 e4 ty0 g2 g3 hX.2.2.1 hX.2.2.2.2.1 h2 wld_D h3 a (gt_a hx (enc_O hk hc)) e1 i e2 (hX.2.2.2.1 _ e3) (fun _ h => h) g4 g5 rfl rfl (List.getElem?_eq_some_iff.mp (encF_int (w := w) (u := u) (P := Z.2.2.1) hk hi)).1 hd (fun H1 locs1 f1 f2 f3 => ?_)
  rw [show tv w (.int x) = .int x from rfl, wld_F hk hc hi] at f1
  exact k _ hf H1 locs1 ls (fun h => by rw [hz] at h; cases h) f1 f3 h4
/-! ===== the table KIND_OVER ===== -/
theorem G_getK (hX : OKc w X o cc d) {idx : Nat} (hl : Cond.fieldLink o idx RX7 "KIND_OVER" "[I" ∈ tw) (hd : decode cc pc = .ok (.getstatic idx, 3)) (k : G w X Z (pc + 3) lv (.ref 1000000 :: st) u) : G w X Z pc lv st u := by
  intro H locs ls h1 h2 h3 h4
  exact va_gets hX.1 hX.2.1 hX.2.2.2.2.2.1.1 h3 hX.2.2.1 (hX.2.2.2.1 _ hl) (fun _ h => h) hd (k H locs ls h1 h2 h3 h4)
theorem G_lenK (hX : OKc w X o cc d) (hd : decode cc pc = .ok (.arraylength, 1)) (k : G w X Z (pc + 1) lv (.int 6 :: st) u) : G w X Z pc lv (.ref 1000000 :: st) u := by
  intro H locs ls h1 h2 h3 h4
  exact va_tlen hX.1 hX.2.1 hX.2.2.2.2.2.1.2.1 h3 rfl hd (k H locs ls h1 h2 h3 h4)
theorem G_ldK (hX : OKc w X o cc d) {i : Int32} {ρ : Type} {A : Option ρ} {r : ρ} (hd : decode cc pc = .ok (.iaload, 1)) (hf : (if inb i 6 = true then A else none) = some r) (k : A = some r → G w X Z (pc + 1) lv (.int (kovV i.toNatClampNeg) :: st) u) : G w X Z pc lv (.int i :: .ref 1000000 :: st) u := by
  intro H locs ls h1 h2 h3 h4
  by_cases hb : inb i 6 = true
  · rw [if_pos hb] at hf
    exact va_ti hX.1 hX.2.1 hX.2.2.2.2.2.1.2.1 h3 (inb_in hb) rfl hd (k hf H locs ls h1 h2 h3 h4)
  · rw [if_neg hb] at hf; cases hf
/-! ===== calls ===== -/
def CQ (q : MI) (n : Nat) : Prop := Cond.initialized q.1.cls ∈ tw ∧ Cond.code q.1 q.2.1 q.2.2.1 q.2.2.2 ∈ tw ∧ (q.1.cls ≠ "java/lang/invoke/MethodHandle" ∧ q.1.cls ≠ "java/lang/invoke/VarHandle" ∧ (parseMethodDescriptor q.1.desc).map (fun d => d.parameters.length) = some n) ∧ q.2.2.1 ≤ 21
def CV (o : String) (idx : Nat) (q : MI) (c n : Nat) : Prop := Cond.methodLink o idx q.1 ∈ tw ∧ Cond.instanceMethod q.1 ∈ tw ∧ Cond.selects q.1.cls q.1 q.1 ∈ tw ∧ (∃ r : vw_C, vwCl[c]? = some r ∧ r.1 = q.1.cls) ∧ CQ q n
def CS (o : String) (idx : Nat) (q : MI) (n : Nat) : Prop := Cond.methodLink o idx q.1 ∈ tw ∧ Cond.static q.1 ∈ tw ∧ CQ q n
def CN (o : String) (idx : Nat) (q : MI) (n : Nat) : Prop := (o, idx, q.1) ∈ NSL ∧ Cond.static q.1 ∈ tw ∧ CQ q n
theorem tw_gd {c : Cond} (h : c ∈ tw) : (c.onTables && c.keeps) = true ∨ ∃ ty, c = .arrayClass ty := good_of_word (List.mem_filter.mp h).2
theorem pre_at (hX : OKc w X o cc d) {P : Pm} {nx : Nat} {b : Bool} {H : Heap} {locs : List Loc} {av : List Value} (h1 : b = true → H.size = w.1 + nx) (h2 : va_P (wD w) vwCl (wld w u P nx) H) (h3 : va_S (wA w) X.2.2.2.2.1.heap H locs) : ∀ U : State, U.heap = H → X.2.2.2.2.1.WarmedH U.vm → va_Pc av (Pre w u P nx b) av.toArray U := by
  intro U hU hW
  refine ⟨rfl, ?_, fun hb => by rw [hU]; exact h1 hb, by rw [hU]; exact h2, va_K.moved hW.alike hX.2.2.2.2.1, hX.2.2.2.2.2.1.move hW (fun a ha hA => by rw [hU]; exact h3.2.1 a ha hA)⟩
  rw [hU]
  exact Nat.le_trans hX.2.2.2.2.2.2.1 h3.1
theorem G_back {P' : Pm} {nx' mc ms : Nat} {b : Bool} {rv : Option Value} {u' : Um} {rest : List Value} {H : Heap} {locs : List Loc} {ls : Array Slot} {av : Array Value} {cs sl : Nat} {st0 : List Value}
    (hr : va_Run X.1 X.2.1 X.2.2.1 X.2.2.2.1 X.2.2.2.2.1 X.2.2.2.2.2.1 X.2.2.2.2.2.2.1 X.2.2.2.2.2.2.2.1 X.2.2.2.2.2.2.2.2.1 X.2.2.2.2.2.2.2.2.2.1 H locs cs sl mc ms (F0 X.2.2.2.2.2.1 pc ls st0) (rest.map (tv w)) (Qm w P' nx' b rv u' av) (wA w))
    (h3 : va_S (wA w) X.2.2.2.2.1.heap H locs) (h4 : LVs w ls X.2.2.2.2.2.2.2.2.2.1.maxLocals lv) (k : G w X (cs + mc, sl + ms, P', nx', b) (pc + 3) lv (rv.toList ++ rest) u') :
    W X.1 X.2.1 X.2.2.1 X.2.2.2.1 X.2.2.2.2.1 X.2.2.2.2.2.1 X.2.2.2.2.2.2.1 X.2.2.2.2.2.2.2.1 X.2.2.2.2.2.2.2.2.1 X.2.2.2.2.2.2.2.2.2.1 H locs cs sl X.2.2.2.2.2.2.2.2.2.2 (F0 X.2.2.2.2.2.1 pc ls st0) := by
  intro T hT Y
  obtain ⟨v, st₀, t, T', L, g0, Y', hL, e1, e2, ⟨⟨hv, hsz, hp⟩, hz, hk⟩, stp⟩ := hr T hT Y
  have hv2 : v = rv.map (tv w) := by cases hv; rfl
  subst hv2
  rw [g0] at hz hk
  have hS : va_S (wA w) X.2.2.2.2.1.heap T'.heap (locs ++ L) := ⟨Nat.le_trans h3.1 (by rw [e1]; exact hz), fun q a1 a2 => by rw [e1, hk q (Nat.lt_of_lt_of_le a1 h3.1) a2]; exact h3.2.1 q a1 a2, fun q hq => by
      rcases List.mem_append.mp hq with h | h
      · exact h3.2.2 q h
      · exact hL q h⟩
  obtain ⟨t2, a1, b1⟩ := k T'.heap (locs ++ L) ls (fun hb => by rw [e1]; exact hsz hb) (by rw [e1]; exact hp) hS h4 T' rfl Y'
  refine ⟨t2, stp t2 ?_, b1⟩
  have e3 : (rv.map (tv w)).toList ++ rest.map (tv w) = (rv.toList ++ rest).map (tv w) := by cases rv <;> simp
  show Steps _ _ _ (T'.setTop { F0 X.2.2.2.2.2.1 pc ls st0 with pc := pc + 3, stack := (rv.map (tv w)).toList ++ rest.map (tv w) }) t2
  rw [e3]
  exact a1
theorem G_callV (hX : OKc w X o cc d) {idx c n mc ms d' a nx nx' cs sl : Nat} {P P' : Pm} {b : Bool} {q : MI} {as rest : List Value} {rv : Option Value} {u' : Um} (hv : CV o idx q c n) (hM : MCg w d' q mc ms P nx P' nx' b (.ref a :: as) u rv u') (hdd : d' + 1 ≤ d) (hk : kd a = c) (hc : c < 9) (hx : a < nx) (hn : as.length = n) (hs : st = as.reverse ++ .ref a :: rest) (hr : (rest.map (fun v => v.category)).sum ≤ 8) (hd : decode cc pc = .ok (.invokevirtual idx, 3)) (hf : cs + mc ≤ X.2.2.2.1.cells ∧ sl + ms ≤ X.2.2.2.1.slots) (k : G w X (cs + mc, sl + ms, P', nx', b) (pc + 3) lv (rv.toList ++ rest) u') : G w X (cs, sl, P, nx, b) pc lv st u := by
  subst hs
  intro H locs ls h1 h2 h3 h4
  obtain ⟨v1, v2, v3, ⟨r, v4, v5⟩, v6, v7, v8, v9⟩ := hv
  have hCW := cwV (R := X.2.2.2.1) (s := X.2.2.2.2.1) (args := X.2.2.2.2.2.2.1) (own := o) (index := idx) (C := q.1.cls) (y := q.1) (bytes := q.2.1) (maxL := q.2.2.1) (ret := q.2.2.2) (ws := Cond.code q.1 q.2.1 q.2.2.1 q.2.2.2 :: tw) (rm := rmD d' mc ms) (mc := mc) (ms := ms) n hX.2.2.2.1
    (by
      intro z hz
      unfold wsV at hz
      rcases List.mem_append.mp hz with hz | hz
      · simp only [List.mem_cons, List.not_mem_nil, or_false] at hz
        rcases hz with rfl | rfl | rfl | rfl
        · exact ⟨v1, tw_gd v1⟩
        · exact ⟨v2, tw_gd v2⟩
        · exact ⟨v3, tw_gd v3⟩
        · exact ⟨v6, tw_gd v6⟩
      · exact tw_good0 v7 z hz) rfl rfl rfl ⟨rfl, v8⟩ ⟨Nat.le_trans hdd hX.2.2.2.2.2.2.2.1, by
        have := hX.2.2.2.2.2.2.2.2
        show 8 + (q.2.2.1 + 11) + 40 * d' ≤ _
        omega⟩
  have hrv : ∃ cell : Cell, H[w.1 + a]? = some cell ∧ cell.vm.isStatics = false ∧ X.2.2.2.2.1.vm.findClass q.1.cls = some cell.cls := by
    rw [← v5]
    exact va_recv hX.2.2.2.2.1 h2 v4 (gt_a hx (enc_O hk hc))
  have hea : tv w (.ref a) = .ref (w.1 + a) := tv_a w (kd_lt hk (by omega))
  have hM' := hM X.2.1
  rw [List.map_cons, hea] at hM'
  refine G_back (rest := rest) (va_runV (As := as.map (tv w)) (rest := rest.map (tv w)) (b := w.1 + a) ⟨hX.1, hX.2.1, rfl, hX.2.2.1, hX.2.2.2.1⟩ hM' hCW ⟨pre_blind, hrv, ?_⟩ rfl (by rw [List.length_map]; exact hn) h4.1 ?_ ?_ hd hf) h3 h4 k
  · exact pre_at hX h1 h2 h3
  · show (as.reverse ++ .ref a :: rest).map (tv w) = _
    rw [List.map_append, List.map_reverse, List.map_cons, hea]
  · refine lv_room ?_
    have e : (rest.map (tv w)).map (fun v => v.category) = rest.map (fun v => v.category) := by
      rw [List.map_map]
      exact List.map_congr_left (fun v _ => tv_cat w v)
    rw [e]
    exact hr
theorem G_callS (hX : OKc w X o cc d) {idx n mc ms d' nx nx' cs sl : Nat} {P P' : Pm} {b : Bool} {q : MI} {as rest : List Value} {rv : Option Value} {u' : Um} (hv : CS o idx q n) (hM : MCg w d' q mc ms P nx P' nx' b as u rv u') (hdd : d' + 1 ≤ d) (hn : as.length = n) (hs : st = as.reverse ++ rest) (hr : (rest.map (fun v => v.category)).sum ≤ 8) (hd : decode cc pc = .ok (.invokestatic idx, 3)) (hf : cs + mc ≤ X.2.2.2.1.cells ∧ sl + ms ≤ X.2.2.2.1.slots) (k : G w X (cs + mc, sl + ms, P', nx', b) (pc + 3) lv (rv.toList ++ rest) u') : G w X (cs, sl, P, nx, b) pc lv st u := by
  subst hs
  intro H locs ls h1 h2 h3 h4
  obtain ⟨v1, v2, v6, v7, v8, v9⟩ := hv
  have hCW := va_cwS (R := X.2.2.2.1) (s := X.2.2.2.2.1) (args := X.2.2.2.2.2.2.1) (own := o) (index := idx) (y := q.1) (bytes := q.2.1) (maxL := q.2.2.1) (ret := q.2.2.2) (ws := Cond.code q.1 q.2.1 q.2.2.1 q.2.2.2 :: tw) (rm := rmD d' mc ms) (mc := mc) (ms := ms) n hX.2.2.2.1
    (by
      intro z hz
      unfold va_wsS at hz
      rcases List.mem_append.mp hz with hz | hz
      · simp only [List.mem_cons, List.not_mem_nil, or_false] at hz
        rcases hz with rfl | rfl | rfl
        · exact ⟨v1, tw_gd v1⟩
        · exact ⟨v2, tw_gd v2⟩
        · exact ⟨v6, tw_gd v6⟩
      · exact tw_good0 v7 z hz) rfl rfl rfl v8 ⟨Nat.le_trans hdd hX.2.2.2.2.2.2.2.1, by
        have := hX.2.2.2.2.2.2.2.2
        show 8 + (q.2.2.1 + 11) + 40 * d' ≤ _
        omega⟩
  refine G_back (rest := rest) (va_runS (As := as.map (tv w)) (rest := rest.map (tv w)) ⟨hX.1, hX.2.1, rfl, hX.2.2.1, hX.2.2.2.1⟩ (hM X.2.1) hCW ⟨pre_blind, ?_⟩ rfl (by rw [List.length_map]; exact hn) h4.1 ?_ ?_ hd hf) h3 h4 k
  · exact pre_at hX h1 h2 h3
  · show (as.reverse ++ rest).map (tv w) = _
    rw [List.map_append, List.map_reverse]
  · refine lv_room ?_
    have e : (rest.map (tv w)).map (fun v => v.category) = rest.map (fun v => v.category) := by
      rw [List.map_map]
      exact List.map_congr_left (fun v _ => tv_cat w v)
    rw [e]
    exact hr
theorem G_callN (hX : OKc w X o cc d) {idx n mc ms d' nx nx' cs sl : Nat} {P P' : Pm} {b : Bool} {q : MI} {as rest : List Value} {rv : Option Value} {u' : Um} (hv : CN o idx q n) (hM : MCg w d' q mc ms P nx P' nx' b as u rv u') (hdd : d' + 1 ≤ d) (hn : as.length = n) (hs : st = as.reverse ++ rest) (hr : (rest.map (fun v => v.category)).sum ≤ 8) (hd : decode cc pc = .ok (.invokestatic idx, 3)) (hf : cs + mc ≤ X.2.2.2.1.cells ∧ sl + ms ≤ X.2.2.2.1.slots) (k : G w X (cs + mc, sl + ms, P', nx', b) (pc + 3) lv (rv.toList ++ rest) u') : G w X (cs, sl, P, nx, b) pc lv st u := by
  subst hs
  intro H locs ls h1 h2 h3 h4
  obtain ⟨v1, v2, v6, v7, v8, v9⟩ := hv
  have hCW := va_cnB (R := X.2.2.2.1) (s := X.2.2.2.2.1) (args := X.2.2.2.2.2.2.1) (own := o) (index := idx) (y := q.1) (host := RX7) (bytes := q.2.1) (maxL := q.2.2.1) (ret := q.2.2.2) (ws := Cond.code q.1 q.2.1 q.2.2.1 q.2.2.2 :: tw) (rm := rmD d' mc ms) (mc := mc) (ms := ms) n hX.2.2.2.1
    (tw_good0 v7) rfl rfl rfl (hX.2.2.2.2.2.1.2.2.1 _ v1) (hX.2.2.2.1 _ v6) v8 ⟨Nat.le_trans hdd hX.2.2.2.2.2.2.2.1, by
        have := hX.2.2.2.2.2.2.2.2
        show 8 + (q.2.2.1 + 11) + 40 * d' ≤ _
        omega⟩
  refine G_back (rest := rest) (va_runSN (As := as.map (tv w)) (rest := rest.map (tv w)) ⟨hX.1, hX.2.1, rfl, hX.2.2.1, hX.2.2.2.1⟩ (hM X.2.1) ⟨hCW, hX.2.2.2.1 _ v2, trivial⟩ ⟨pre_blind, ?_⟩ rfl (by rw [List.length_map]; exact hn) h4.1 ?_ ?_ hd hf) h3 h4 k
  · exact pre_at hX h1 h2 h3
  · show (as.reverse ++ rest).map (tv w) = _
    rw [List.map_append, List.map_reverse]
  · refine lv_room ?_
    have e : (rest.map (tv w)).map (fun v => v.category) = rest.map (fun v => v.category) := by
      rw [List.map_map]
      exact List.map_congr_left (fun v _ => tv_cat w v)
    rw [e]
    exact hr
/-! ===== a method's ends, its start ===== -/
def RT (w : Wc) (X : MX) (ret : Option FieldType) (mc ms : Nat) (P : Pm) (nx : Nat) (b : Bool) (rv : Option Value) (u : Um) : Prop :=
  X.2.2.2.2.2.2.2.2.2.2 = MQ X.2.2.2.2.2.2.2.1 (Qm w P nx b rv u) X.2.2.2.2.2.2.1 X.2.2.2.2.1 mc ms (wA w) ∧ X.2.2.2.2.2.2.2.2.1.sig.returnType = ret ∧ X.2.2.2.2.2.2.2.2.1.locks = false
theorem G_end {P : Pm} {nx mc ms : Nat} {b : Bool} {rv : Option Value} {H : Heap} {locs : List Loc} (h1 : b = true → H.size = w.1 + nx) (h2 : va_P (wD w) vwCl (wld w u P nx) H) (h3 : va_S (wA w) X.2.2.2.2.1.heap H locs) : ∀ t : State, t.heap = H → X.2.2.2.2.1.WarmedH t.vm → Qm w P nx b rv u X.2.2.2.2.2.2.1 X.2.2.2.2.1 (.returned (rv.map (tv w))) t := by
  intro t ht _
  exact ⟨⟨rfl, fun hb => by rw [ht]; exact h1 hb, by rw [ht]; exact h2⟩, h3.F ht⟩
theorem G_iret (hX : OKc w X o cc d) {P : Pm} {nx mc ms : Nat} {b : Bool} {x : Int32} (hR : RT w X (some .int) mc ms P nx b (some (.int x)) u) (hd : decode cc pc = .ok (.ireturn, 1)) : G w X (mc, ms, P, nx, b) pc lv [.int x] u := by
  intro H locs ls h1 h2 h3 h4
  obtain ⟨r1, r2, r3⟩ := hR
  rw [r1]
  exact W.iret hX.1 hX.2.1 r2 (G_end (mc := mc) (ms := ms) h1 h2 h3) h3.2.2 hd r3
theorem bz_nar {x : Int32} (h : x = 0 ∨ x = 1) : narrow .boolean (.int x) = .int x := by rcases h with rfl | rfl <;> rfl
theorem G_zret (hX : OKc w X o cc d) {P : Pm} {nx mc ms : Nat} {b : Bool} {x : Int32} (hR : RT w X (some .boolean) mc ms P nx b (some (.int x)) u) (hn : x = 0 ∨ x = 1) (hd : decode cc pc = .ok (.ireturn, 1)) : G w X (mc, ms, P, nx, b) pc lv [.int x] u := by
  intro H locs ls h1 h2 h3 h4
  obtain ⟨r1, r2, r3⟩ := hR
  rw [r1]
  exact W.zret hX.1 hX.2.1 r2 (bz_nar hn) (G_end (mc := mc) (ms := ms) h1 h2 h3) h3.2.2 hd r3
theorem G_lret (hX : OKc w X o cc d) {P : Pm} {nx mc ms : Nat} {b : Bool} {x : Int64} (hR : RT w X (some .long) mc ms P nx b (some (.long x)) u) (hd : decode cc pc = .ok (.lreturn, 1)) : G w X (mc, ms, P, nx, b) pc lv [.long x] u := by
  intro H locs ls h1 h2 h3 h4
  obtain ⟨r1, r2, r3⟩ := hR
  rw [r1]
  exact W.lret hX.1 hX.2.1 r2 (G_end (mc := mc) (ms := ms) h1 h2 h3) h3.2.2 hd r3
theorem G_vret (hX : OKc w X o cc d) {P : Pm} {nx mc ms : Nat} {b : Bool} (hR : RT w X none mc ms P nx b none u) (hd : decode cc pc = .ok (.return_, 1)) : G w X (mc, ms, P, nx, b) pc lv [] u := by
  intro H locs ls h1 h2 h3 h4
  obtain ⟨r1, r2, r3⟩ := hR
  rw [r1]
  exact W.vret hX.1 hX.2.1 r2 (G_end (mc := mc) (ms := ms) h1 h2 h3) h3.2.2 hd r3
theorem G_aret (hX : OKc w X o cc d) {P : Pm} {nx mc ms x : Nat} {b : Bool} {C : String} (hR : RT w X (some (.object C)) mc ms P nx b (some (.ref x)) u) (hd : decode cc pc = .ok (.areturn, 1)) : G w X (mc, ms, P, nx, b) pc lv [.ref x] u := by
  intro H locs ls h1 h2 h3 h4
  obtain ⟨r1, r2, r3⟩ := hR
  rw [r1]
  exact W.aret hX.1 hX.2.1 r2 (Or.inl ⟨_, rfl⟩) (Or.inr ⟨_, rfl⟩) (G_end (mc := mc) (ms := ms) h1 h2 h3) h3.2.2 hd r3
theorem G_aretN (hX : OKc w X o cc d) {P : Pm} {nx mc ms : Nat} {b : Bool} {C : String} (hR : RT w X (some (.object C)) mc ms P nx b (some .null) u) (hd : decode cc pc = .ok (.areturn, 1)) : G w X (mc, ms, P, nx, b) pc lv [.null] u := by
  intro H locs ls h1 h2 h3 h4
  obtain ⟨r1, r2, r3⟩ := hR
  rw [r1]
  exact W.aret hX.1 hX.2.1 r2 (Or.inl ⟨_, rfl⟩) (Or.inl rfl) (G_end (mc := mc) (ms := ms) h1 h2 h3) h3.2.2 hd r3
end GR
theorem MC_intro {w : Wc} {d mc ms nx nx' : Nat} {q : MI} {P P' : Pm} {b : Bool} {as : List Value} {u u' : Um} {rv : Option Value} (hy : plainName q.1.cls = true) (hlen : (entL as).length ≤ q.2.2.1)
    (h : ∀ X : MX, OKc w X q.1.cls q.2.1 d → RT w X q.2.2.2 mc ms P' nx' b rv u' → X.2.2.2.1.cells = mc ∧ X.2.2.2.1.slots = ms → X.2.2.2.2.2.2.2.2.1.name = q.1.name → G w X (0, 0, P, nx, b) 0 (entL as ++ List.replicate (q.2.2.1 - (entL as).length) none) [] u) : MCg w d q mc ms P nx P' nx' b as u rv u' := by
  intro l
  refine Met.ofW (cc := q.2.1) (maxL := q.2.2.1) (ret := q.2.2.2) hy rfl ?_
  intro p e s m args below meth c s₁ B hml hv
  obtain ⟨rfl, hv0, hsz, hP, hK, hST⟩ := hv
  have hts := atoms_spec (ws := Cond.code q.1 q.2.1 q.2.2.1 q.2.2.2 :: tw) B.pre
  have hX : OKc w (p, l, e, rmD d mc ms, s, m, (as.map (tv w)).toArray, below, meth, c, MQ below (Qm w P' nx' b rv u') (as.map (tv w)).toArray s mc ms (wA w)) q.1.cls q.2.1 d :=
    ⟨B.exec, B.bytes, findClass_of_methodNamed B.named, fun z hz => hts z (List.mem_cons_of_mem _ hz), hK, hST, hv0, Nat.le_refl _, Nat.le_refl _⟩
  have hg := h (p, l, e, rmD d mc ms, s, m, (as.map (tv w)).toArray, below, meth, c, MQ below (Qm w P' nx' b rv u') (as.map (tv w)).toArray s mc ms (wA w)) hX ⟨rfl, B.returns, B.notSynchronized⟩ ⟨rfl, rfl⟩ (name_of_methodNamed B.named B.method).1
  rw [lg_entry_eq]
  have he := LVs.entry w as (n := q.2.2.1) hlen
  exact hg s.heap [] _ hsz hP va_S.rf (by show LVs w _ c.maxLocals _; rw [hml]; exact he)
/-! ===== loops ===== -/
def lp {σ : Type} (body : σ → Option (Nat × σ)) : Nat → σ → Option (Nat × σ)
  | 0, _ => none
  | n + 1, s => (body s).bind (fun q => if q.1 = 0 then lp body n q.2 else some q)
theorem bind_some {α β : Type} {x : Option α} {f : α → Option β} {b : β} (h : x.bind f = some b) : ∃ a, x = some a ∧ f a = some b := by
  cases x with
  | none => cases h
  | some a => exact ⟨a, rfl, h⟩
theorem lp_G {σ : Type} {body : σ → Option (Nat × σ)} {Gh : σ → Prop} {Gx : Nat → σ → Prop} (hb : ∀ s e s', body s = some (e, s') → (e = 0 → Gh s') → (e ≠ 0 → Gx e s') → Gh s) : ∀ (n : Nat) (s : σ) (q : Nat × σ), lp body n s = some q → Gx q.1 q.2 → Gh s
  | 0, _, _, h, _ => by cases h
  | n + 1, s, q, h, hx => by
    obtain ⟨⟨e, s'⟩, h1, h2⟩ := bind_some h
    by_cases he : e = 0
    · subst he
      rw [if_pos rfl] at h2
      exact hb s 0 s' h1 (fun _ => lp_G hb n s' q h2 hx) (fun h => absurd rfl h)
    · rw [if_neg (by exact he)] at h2
      cases h2
      exact hb s e s' h1 (fun h => absurd h he) (fun _ => hx)
section GR
variable {w : Wc} {X : MX} {Z : ZZ} {o : String} {cc : ByteArray} {d pc : Nat} {lv lv' : List (Option Value)} {st : List Value} {u : Um}
theorem G_tswIn (hX : OKc w X o cc d) {dflt lo hi : Int} {offs : Array Int} {len tgt : Nat} {x : Int32} {off : Int} (hd : decode cc pc = .ok (.tableswitch dflt lo hi offs, len)) (g1 : ¬ x.toInt < lo) (g2 : ¬ hi < x.toInt) (ho : offs[(x.toInt - lo).toNat]? = some off) (ht : (pc : Int) + off = (tgt : Int)) (k : G w X Z tgt lv st u) : G w X Z pc lv (.int x :: st) u := fun H locs ls h1 h2 h3 h4 => lv_tableIn hX.1 hX.2.1 hd g1 g2 ho ht (k H locs ls h1 h2 h3 h4)
theorem G_tswOut (hX : OKc w X o cc d) {dflt lo hi : Int} {offs : Array Int} {len tgt : Nat} {x : Int32} (hd : decode cc pc = .ok (.tableswitch dflt lo hi offs, len)) (g1 : x.toInt < lo ∨ hi < x.toInt) (ht : (pc : Int) + dflt = (tgt : Int)) (k : G w X Z tgt lv st u) : G w X Z pc lv (.int x :: st) u := fun H locs ls h1 h2 h3 h4 => lv_tableOut hX.1 hX.2.1 hd g1 ht (k H locs ls h1 h2 h3 h4)
theorem G_lsw (hX : OKc w X o cc d) {dflt : Int} {ps : Array (Int × Int)} {len tgt : Nat} {x : Int32} {off : Int} (hd : decode cc pc = .ok (.lookupswitch dflt ps, len)) (hp : (ps.toList.zip (ps.toList.drop 1)).all (fun (a, next) => a.1 < next.1) = true) (ho : Op.lookupswitch.offset ps.toList dflt x.toInt = off) (ht : (pc : Int) + off = (tgt : Int)) (k : G w X Z tgt lv st u) : G w X Z pc lv (.int x :: st) u := fun H locs ls h1 h2 h3 h4 => lv_lookup hX.1 hX.2.1 hd hp ho ht (k H locs ls h1 h2 h3 h4)
def cpOk (sp dp n : Int32) (n0 n1 : Nat) : Bool := decide (0 ≤ sp.toInt ∧ 0 ≤ dp.toInt ∧ 0 ≤ n.toInt ∧ sp.toInt + n.toInt ≤ n0 ∧ dp.toInt + n.toInt ≤ n1)
theorem cl_nn {z : Int32} (h : 0 ≤ z.toInt) : z.toInt = (z.toNatClampNeg : Int) ∧ ¬ z < 0 := by
  refine ⟨?_, fun h2 => ?_⟩
  · show z.toInt = ((z.toInt.toNat : Nat) : Int)
    omega
  · have := Int32.lt_iff_toInt_lt.mp h2
    rw [Int32.toInt_zero] at this
    omega
def CA (o : String) (idx : Nat) : Prop := Cond.methodLink o idx arraycopyName ∈ tw ∧ Cond.native arraycopyName ∈ tw ∧ Cond.static arraycopyName ∈ tw ∧ Cond.initialized "java/lang/System" ∈ tw
theorem cat_map (w : Wc) (st : List Value) : (st.map (tv w)).map (fun v => v.category) = st.map (fun v => v.category) := by
  rw [List.map_map]
  exact List.map_congr_left (fun v _ => tv_cat w v)
theorem G_copyI (hX : OKc w X o cc d) {idx a b n0 n1 : Nat} {sp dp n : Int32} {ρ : Type} {A : Um → Option ρ} {r : ρ} (hl : CA o idx) (hk0 : kd a = 9) (hn0 : ln a = n0) (hx0 : a < Z.2.2.2.1) (hk1 : kd b = 9) (hn1 : ln b = n1) (hx1 : b < Z.2.2.2.1) (hz : Z.2.2.2.2 = false) (hdd : 1 ≤ d) (hr : (st.map (fun v => v.category)).sum ≤ 8) (hd : decode cc pc = .ok (.invokestatic idx, 3)) (hf : (if cpOk sp dp n n0 n1 = true then nm (sIr u b (va_cpy (u.1 a) (u.1 b) sp.toNatClampNeg dp.toNatClampNeg n.toNatClampNeg)) A else none) = some r) (k : ∀ u', A u' = some r → G w X Z (pc + 3) lv st u') : G w X Z pc lv (.int n :: .int dp :: .ref b :: .int sp :: .ref a :: st) u := by
  intro H locs ls h1 h2 h3 h4
  by_cases hb : cpOk sp dp n n0 n1 = true
  · rw [if_pos hb] at hf
    have hc : 0 ≤ sp.toInt ∧ 0 ≤ dp.toInt ∧ 0 ≤ n.toInt ∧ sp.toInt + n.toInt ≤ n0 ∧ dp.toInt + n.toInt ≤ n1 := by simpa [cpOk] using hb
    obtain ⟨c1, c2, c3, c4, c5⟩ := hc
    obtain ⟨e1, e1'⟩ := cl_nn c1
    obtain ⟨e2, e2'⟩ := cl_nn c2
    obtain ⟨e3, e3'⟩ := cl_nn c3
    have m1 := hX.2.2.2.2.2.2.2.1
    have m2 := hX.2.2.2.2.2.2.2.2
    simp only [List.map_cons, tv_a w (kd_lt hk0 (by decide)), tv_a w (kd_lt hk1 (by decide))]
    refine va_copyi (rest := st.map (tv w)) hX.1 hX.2.1 h4.1.symm hX.2.2.1 (hX.2.2.2.1 _ hl.1) (hX.2.2.2.1 _ hl.2.1) (hX.2.2.2.1 _ hl.2.2.1) (hX.2.2.2.1 _ hl.2.2.2) hX.2.2.2.2.1 h2 wld_D h3 a b 0 0 (gt_a hx0 (enc_I hk0 hn0)) (gt_a hx1 (enc_I hk1 hn1)) rfl rfl rfl e1' e2' e3' (by omega) (by omega) (fun _ _ => rfl) (by omega) ?_ hd (fun H1 locs1 g1 g2 g3 => ?_)
    · rw [cat_map]
      show _ + ((5 + 2) + 11) ≤ _
      omega
    · rw [wld_I _ hk1 hn1] at g1
      exact k _ hf H1 locs1 ls (fun h => by rw [hz] at h; cases h) g1 g3 h4
  · rw [if_neg hb] at hf; cases hf
theorem G_copyJ (hX : OKc w X o cc d) {idx a b n0 n1 : Nat} {sp dp n : Int32} {ρ : Type} {A : Um → Option ρ} {r : ρ} (hl : CA o idx) (hk0 : kd a = 10) (hn0 : ln a = n0) (hx0 : a < Z.2.2.2.1) (hk1 : kd b = 10) (hn1 : ln b = n1) (hx1 : b < Z.2.2.2.1) (hz : Z.2.2.2.2 = false) (hdd : 1 ≤ d) (hr : (st.map (fun v => v.category)).sum ≤ 8) (hd : decode cc pc = .ok (.invokestatic idx, 3)) (hf : (if cpOk sp dp n n0 n1 = true then nm (sJr u b (va_cpy (u.2 a) (u.2 b) sp.toNatClampNeg dp.toNatClampNeg n.toNatClampNeg)) A else none) = some r) (k : ∀ u', A u' = some r → G w X Z (pc + 3) lv st u') : G w X Z pc lv (.int n :: .int dp :: .ref b :: .int sp :: .ref a :: st) u := by
  intro H locs ls h1 h2 h3 h4
  by_cases hb : cpOk sp dp n n0 n1 = true
  · rw [if_pos hb] at hf
    have hc : 0 ≤ sp.toInt ∧ 0 ≤ dp.toInt ∧ 0 ≤ n.toInt ∧ sp.toInt + n.toInt ≤ n0 ∧ dp.toInt + n.toInt ≤ n1 := by simpa [cpOk] using hb
    obtain ⟨c1, c2, c3, c4, c5⟩ := hc
    obtain ⟨e1, e1'⟩ := cl_nn c1
    obtain ⟨e2, e2'⟩ := cl_nn c2
    obtain ⟨e3, e3'⟩ := cl_nn c3
    have m1 := hX.2.2.2.2.2.2.2.1
    have m2 := hX.2.2.2.2.2.2.2.2
    simp only [List.map_cons, tv_a w (kd_lt hk0 (by decide)), tv_a w (kd_lt hk1 (by decide))]
    refine va_copyl (rest := st.map (tv w)) hX.1 hX.2.1 h4.1.symm hX.2.2.1 (hX.2.2.2.1 _ hl.1) (hX.2.2.2.1 _ hl.2.1) (hX.2.2.2.1 _ hl.2.2.1) (hX.2.2.2.1 _ hl.2.2.2) hX.2.2.2.2.1 h2 wld_D h3 a b 1 1 (gt_a hx0 (enc_J hk0 hn0)) (gt_a hx1 (enc_J hk1 hn1)) rfl rfl rfl e1' e2' e3' (by omega) (by omega) (fun _ _ => rfl) (by omega) ?_ hd (fun H1 locs1 g1 g2 g3 => ?_)
    · rw [cat_map]
      show _ + ((5 + 2) + 11) ≤ _
      omega
    · rw [wld_J _ hk1 hn1] at g1
      exact k _ hf H1 locs1 ls (fun h => by rw [hz] at h; cases h) g1 g3 h4
  · rw [if_neg hb] at hf; cases hf
end GR
