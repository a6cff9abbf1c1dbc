def Pst (k i : Nat) : Option Nat := match kd k with
  | 0 => if i = 0 then some (k + 1) else if i = 1 then some (k + 2) else none
  | 1 => if i = 0 then some (k + 1) else none
  | 2 => if i < 3 then some (k + 1 + i) else none
  | 3 => if i = 0 then some (k + 1) else none
  | 4 => if i = 0 then some (k + 1) else if i = 1 then some (k + 11) else none
  | 5 => if i = 0 then some (k + 1) else none
  | 6 => if i = 0 then some (k + 1) else none
  | 7 => [1, 3, 6, 9, 83, 90, 99, 103, 115][i]?
  | 8 => [some 118, some 119, some 120, none, some 121, none, some 122, some 123, some 124, some 125, some 126, some 127, none, some 128, some 129, some 130, some 131, none, some 132].getD i none
  | 12 => if i < ln k then some (k + 1 + 3 * i) else none
  | 13 => if i < ln k then some (k + 1 + 2 * i) else none
  | _ => none
abbrev Zm : ZZ := (0, 0, Pst, 133, false)
/-- a method's contract in the finished world -/
abbrev MC (w : Wc) (d : Nat) (q : MI) (as : List Value) (u : Um) (rv : Option Value) (u' : Um) : Prop := MCg w d q 0 0 Pst 133 Pst 133 false as u rv u'
theorem fuel_ex : ∃ n : Nat, n = 5000 := ⟨5000, rfl⟩
noncomputable def fuel : Nat := Classical.choose fuel_ex
theorem fuel_eq : fuel = 5000 := Classical.choose_spec fuel_ex
theorem kd_all : ∀ a, a < 133 → (kd a = 0 → kd (a + 1) = 9 ∧ ln (a + 1) = 48 ∧ kd (a + 2) = 9 ∧ ln (a + 2) = 32 ∧ a + 2 < 133) ∧ (kd a = 5 → kd (a + 1) = 10 ∧ ln (a + 1) = 24 ∧ a + 1 < 133) := by decide +kernel
theorem kC1 {a : Nat} (h : kd a = 0) : kd (a + 1) = 9 := ((kd_all a (kd_lt h (by decide))).1 h).1
theorem lC1 {a : Nat} (h : kd a = 0) : ln (a + 1) = 48 := ((kd_all a (kd_lt h (by decide))).1 h).2.1
theorem kC2 {a : Nat} (h : kd a = 0) : kd (a + 2) = 9 := ((kd_all a (kd_lt h (by decide))).1 h).2.2.1
theorem lC2 {a : Nat} (h : kd a = 0) : ln (a + 2) = 32 := ((kd_all a (kd_lt h (by decide))).1 h).2.2.2.1
theorem xC2 {a : Nat} (h : kd a = 0) : a + 2 < 133 := ((kd_all a (kd_lt h (by decide))).1 h).2.2.2.2
theorem xC1 {a : Nat} (h : kd a = 0) : a + 1 < 133 := by have := xC2 h; omega
theorem kS1 {a : Nat} (h : kd a = 5) : kd (a + 1) = 10 := ((kd_all a (kd_lt h (by decide))).2 h).1
theorem lS1 {a : Nat} (h : kd a = 5) : ln (a + 1) = 24 := ((kd_all a (kd_lt h (by decide))).2 h).2.1
theorem xS1 {a : Nat} (h : kd a = 5) : a + 1 < 133 := ((kd_all a (kd_lt h (by decide))).2 h).2.2
theorem PC1 {a : Nat} (h : kd a = 0) : Pst a 0 = some (a + 1) := by unfold Pst; rw [h]; rfl
theorem PC2 {a : Nat} (h : kd a = 0) : Pst a 1 = some (a + 2) := by unfold Pst; rw [h]; rfl
theorem PS1 {a : Nat} (h : kd a = 5) : Pst a 0 = some (a + 1) := by unfold Pst; rw [h]; rfl
theorem PaC {a n : Nat} {i : Int32} (h : kd a = 12) (hn : ln a = n) (hb : inb i n = true) : Pst a i.toNatClampNeg = some (a + 1 + 3 * i.toNatClampNeg) := by
  unfold Pst; rw [h, hn]; exact if_pos (inb_lt hb)
theorem PaS {a n : Nat} {i : Int32} (h : kd a = 13) (hn : ln a = n) (hb : inb i n = true) : Pst a i.toNatClampNeg = some (a + 1 + 2 * i.toNatClampNeg) := by
  unfold Pst; rw [h, hn]; exact if_pos (inb_lt hb)
def spl {α : Type} (o : Option Nat) (k : Nat) (A : Option α) (B : Nat → Option α) : Option α := match o with
  | none => A
  | some x => if kd x = k then B x else none
theorem spl_none {α : Type} {k : Nat} {A : Option α} {B : Nat → Option α} {r : α} (h : spl none k A B = some r) : A = some r := h
theorem spl_some {α : Type} {k x : Nat} {A : Option α} {B : Nat → Option α} {r : α} (h : spl (some x) k A B = some r) : kd x = k ∧ B x = some r := by
  unfold spl at h
  dsimp only at h
  by_cases hk : kd x = k
  · rw [if_pos hk] at h; exact ⟨hk, h⟩
  · rw [if_neg hk] at h; cases h
theorem gz_some {α : Type} {x : Int32} {A : Option α} {r : α} (h : (if x = 0 ∨ x = 1 then A else none) = some r) : (x = 0 ∨ x = 1) ∧ A = some r := by
  by_cases hk : x = 0 ∨ x = 1
  · rw [if_pos hk] at h; exact ⟨hk, h⟩
  · rw [if_neg hk] at h; cases h
theorem gx2 {e n : Nat} {p1 p2 : Prop} {ρ : Type} {A B : Option ρ} {r : ρ} (hf : (if e = n then A else B) = some r) (h1 : A = some r → p1) (h2 : B = some r → p2) : if e = n then p1 else p2 := by
  by_cases h : e = n
  · rw [if_pos h] at hf ⊢; exact h1 hf
  · rw [if_neg h] at hf ⊢; exact h2 hf
theorem gx_hit {n : Nat} {p q : Prop} (h : if n = n then p else q) : p := by rwa [if_pos rfl] at h
theorem gx_miss {n k : Nat} {p q : Prop} (hn : n ≠ k) (h : if n = k then p else q) : q := by rwa [if_neg hn] at h
theorem ret2 {α β : Type} {a c : α} {b d : β} (h : some (a, b) = some (c, d)) : a = c ∧ b = d := Prod.mk.inj (Option.some.inj h)
def bd1 {α γ : Type} (x : Option α) (k : α → Option γ) : Option γ := x.bind k
theorem bd1_some {α γ : Type} {x : Option α} {k : α → Option γ} {c : γ} (h : bd1 x k = some c) : ∃ a, x = some a ∧ k a = some c := bind_some h
def bd2 {α1 α2 γ : Type} (x : Option (α1 × α2)) (k : α1 → α2 → Option γ) : Option γ := x.bind (fun q => k q.1 q.2)
theorem bd2_some {α1 α2 γ : Type} {x : Option (α1 × α2)} {k : α1 → α2 → Option γ} {c : γ} (h : bd2 x k = some c) : ∃ (a1 : α1) (a2 : α2), x = some (a1, a2) ∧ k a1 a2 = some c := by
  obtain ⟨⟨a1, a2⟩, h1, h2⟩ := bind_some h
  exact ⟨a1, a2, h1, h2⟩
def bd3 {α1 α2 α3 γ : Type} (x : Option (α1 × α2 × α3)) (k : α1 → α2 → α3 → Option γ) : Option γ := x.bind (fun q => k q.1 q.2.1 q.2.2)
theorem bd3_some {α1 α2 α3 γ : Type} {x : Option (α1 × α2 × α3)} {k : α1 → α2 → α3 → Option γ} {c : γ} (h : bd3 x k = some c) : ∃ (a1 : α1) (a2 : α2) (a3 : α3), x = some (a1, a2, a3) ∧ k a1 a2 a3 = some c := by
  obtain ⟨⟨a1, a2, a3⟩, h1, h2⟩ := bind_some h
  exact ⟨a1, a2, a3, h1, h2⟩
def bd4 {α1 α2 α3 α4 γ : Type} (x : Option (α1 × α2 × α3 × α4)) (k : α1 → α2 → α3 → α4 → Option γ) : Option γ := x.bind (fun q => k q.1 q.2.1 q.2.2.1 q.2.2.2)
theorem bd4_some {α1 α2 α3 α4 γ : Type} {x : Option (α1 × α2 × α3 × α4)} {k : α1 → α2 → α3 → α4 → Option γ} {c : γ} (h : bd4 x k = some c) : ∃ (a1 : α1) (a2 : α2) (a3 : α3) (a4 : α4), x = some (a1, a2, a3, a4) ∧ k a1 a2 a3 a4 = some c := by
  obtain ⟨⟨a1, a2, a3, a4⟩, h1, h2⟩ := bind_some h
  exact ⟨a1, a2, a3, a4, h1, h2⟩
def bd5 {α1 α2 α3 α4 α5 γ : Type} (x : Option (α1 × α2 × α3 × α4 × α5)) (k : α1 → α2 → α3 → α4 → α5 → Option γ) : Option γ := x.bind (fun q => k q.1 q.2.1 q.2.2.1 q.2.2.2.1 q.2.2.2.2)
theorem bd5_some {α1 α2 α3 α4 α5 γ : Type} {x : Option (α1 × α2 × α3 × α4 × α5)} {k : α1 → α2 → α3 → α4 → α5 → Option γ} {c : γ} (h : bd5 x k = some c) : ∃ (a1 : α1) (a2 : α2) (a3 : α3) (a4 : α4) (a5 : α5), x = some (a1, a2, a3, a4, a5) ∧ k a1 a2 a3 a4 a5 = some c := by
  obtain ⟨⟨a1, a2, a3, a4, a5⟩, h1, h2⟩ := bind_some h
  exact ⟨a1, a2, a3, a4, a5, h1, h2⟩
def bd6 {α1 α2 α3 α4 α5 α6 γ : Type} (x : Option (α1 × α2 × α3 × α4 × α5 × α6)) (k : α1 → α2 → α3 → α4 → α5 → α6 → Option γ) : Option γ := x.bind (fun q => k q.1 q.2.1 q.2.2.1 q.2.2.2.1 q.2.2.2.2.1 q.2.2.2.2.2)
theorem bd6_some {α1 α2 α3 α4 α5 α6 γ : Type} {x : Option (α1 × α2 × α3 × α4 × α5 × α6)} {k : α1 → α2 → α3 → α4 → α5 → α6 → Option γ} {c : γ} (h : bd6 x k = some c) : ∃ (a1 : α1) (a2 : α2) (a3 : α3) (a4 : α4) (a5 : α5) (a6 : α6), x = some (a1, a2, a3, a4, a5, a6) ∧ k a1 a2 a3 a4 a5 a6 = some c := by
  obtain ⟨⟨a1, a2, a3, a4, a5, a6⟩, h1, h2⟩ := bind_some h
  exact ⟨a1, a2, a3, a4, a5, a6, h1, h2⟩
def bd7 {α1 α2 α3 α4 α5 α6 α7 γ : Type} (x : Option (α1 × α2 × α3 × α4 × α5 × α6 × α7)) (k : α1 → α2 → α3 → α4 → α5 → α6 → α7 → Option γ) : Option γ := x.bind (fun q => k q.1 q.2.1 q.2.2.1 q.2.2.2.1 q.2.2.2.2.1 q.2.2.2.2.2.1 q.2.2.2.2.2.2)
theorem bd7_some {α1 α2 α3 α4 α5 α6 α7 γ : Type} {x : Option (α1 × α2 × α3 × α4 × α5 × α6 × α7)} {k : α1 → α2 → α3 → α4 → α5 → α6 → α7 → Option γ} {c : γ} (h : bd7 x k = some c) : ∃ (a1 : α1) (a2 : α2) (a3 : α3) (a4 : α4) (a5 : α5) (a6 : α6) (a7 : α7), x = some (a1, a2, a3, a4, a5, a6, a7) ∧ k a1 a2 a3 a4 a5 a6 a7 = some c := by
  obtain ⟨⟨a1, a2, a3, a4, a5, a6, a7⟩, h1, h2⟩ := bind_some h
  exact ⟨a1, a2, a3, a4, a5, a6, a7, h1, h2⟩
def bd8 {α1 α2 α3 α4 α5 α6 α7 α8 γ : Type} (x : Option (α1 × α2 × α3 × α4 × α5 × α6 × α7 × α8)) (k : α1 → α2 → α3 → α4 → α5 → α6 → α7 → α8 → Option γ) : Option γ := x.bind (fun q => k q.1 q.2.1 q.2.2.1 q.2.2.2.1 q.2.2.2.2.1 q.2.2.2.2.2.1 q.2.2.2.2.2.2.1 q.2.2.2.2.2.2.2)
theorem bd8_some {α1 α2 α3 α4 α5 α6 α7 α8 γ : Type} {x : Option (α1 × α2 × α3 × α4 × α5 × α6 × α7 × α8)} {k : α1 → α2 → α3 → α4 → α5 → α6 → α7 → α8 → Option γ} {c : γ} (h : bd8 x k = some c) : ∃ (a1 : α1) (a2 : α2) (a3 : α3) (a4 : α4) (a5 : α5) (a6 : α6) (a7 : α7) (a8 : α8), x = some (a1, a2, a3, a4, a5, a6, a7, a8) ∧ k a1 a2 a3 a4 a5 a6 a7 a8 = some c := by
  obtain ⟨⟨a1, a2, a3, a4, a5, a6, a7, a8⟩, h1, h2⟩ := bind_some h
  exact ⟨a1, a2, a3, a4, a5, a6, a7, a8, h1, h2⟩
def bd9 {α1 α2 α3 α4 α5 α6 α7 α8 α9 γ : Type} (x : Option (α1 × α2 × α3 × α4 × α5 × α6 × α7 × α8 × α9)) (k : α1 → α2 → α3 → α4 → α5 → α6 → α7 → α8 → α9 → Option γ) : Option γ := x.bind (fun q => k q.1 q.2.1 q.2.2.1 q.2.2.2.1 q.2.2.2.2.1 q.2.2.2.2.2.1 q.2.2.2.2.2.2.1 q.2.2.2.2.2.2.2.1 q.2.2.2.2.2.2.2.2)
theorem bd9_some {α1 α2 α3 α4 α5 α6 α7 α8 α9 γ : Type} {x : Option (α1 × α2 × α3 × α4 × α5 × α6 × α7 × α8 × α9)} {k : α1 → α2 → α3 → α4 → α5 → α6 → α7 → α8 → α9 → Option γ} {c : γ} (h : bd9 x k = some c) : ∃ (a1 : α1) (a2 : α2) (a3 : α3) (a4 : α4) (a5 : α5) (a6 : α6) (a7 : α7) (a8 : α8) (a9 : α9), x = some (a1, a2, a3, a4, a5, a6, a7, a8, a9) ∧ k a1 a2 a3 a4 a5 a6 a7 a8 a9 = some c := by
  obtain ⟨⟨a1, a2, a3, a4, a5, a6, a7, a8, a9⟩, h1, h2⟩ := bind_some h
  exact ⟨a1, a2, a3, a4, a5, a6, a7, a8, a9, h1, h2⟩
def bd10 {α1 α2 α3 α4 α5 α6 α7 α8 α9 α10 γ : Type} (x : Option (α1 × α2 × α3 × α4 × α5 × α6 × α7 × α8 × α9 × α10)) (k : α1 → α2 → α3 → α4 → α5 → α6 → α7 → α8 → α9 → α10 → Option γ) : Option γ := x.bind (fun q => k q.1 q.2.1 q.2.2.1 q.2.2.2.1 q.2.2.2.2.1 q.2.2.2.2.2.1 q.2.2.2.2.2.2.1 q.2.2.2.2.2.2.2.1 q.2.2.2.2.2.2.2.2.1 q.2.2.2.2.2.2.2.2.2)
theorem bd10_some {α1 α2 α3 α4 α5 α6 α7 α8 α9 α10 γ : Type} {x : Option (α1 × α2 × α3 × α4 × α5 × α6 × α7 × α8 × α9 × α10)} {k : α1 → α2 → α3 → α4 → α5 → α6 → α7 → α8 → α9 → α10 → Option γ} {c : γ} (h : bd10 x k = some c) : ∃ (a1 : α1) (a2 : α2) (a3 : α3) (a4 : α4) (a5 : α5) (a6 : α6) (a7 : α7) (a8 : α8) (a9 : α9) (a10 : α10), x = some (a1, a2, a3, a4, a5, a6, a7, a8, a9, a10) ∧ k a1 a2 a3 a4 a5 a6 a7 a8 a9 a10 = some c := by
  obtain ⟨⟨a1, a2, a3, a4, a5, a6, a7, a8, a9, a10⟩, h1, h2⟩ := bind_some h
  exact ⟨a1, a2, a3, a4, a5, a6, a7, a8, a9, a10, h1, h2⟩
def bd11 {α1 α2 α3 α4 α5 α6 α7 α8 α9 α10 α11 γ : Type} (x : Option (α1 × α2 × α3 × α4 × α5 × α6 × α7 × α8 × α9 × α10 × α11)) (k : α1 → α2 → α3 → α4 → α5 → α6 → α7 → α8 → α9 → α10 → α11 → Option γ) : Option γ := x.bind (fun q => k q.1 q.2.1 q.2.2.1 q.2.2.2.1 q.2.2.2.2.1 q.2.2.2.2.2.1 q.2.2.2.2.2.2.1 q.2.2.2.2.2.2.2.1 q.2.2.2.2.2.2.2.2.1 q.2.2.2.2.2.2.2.2.2.1 q.2.2.2.2.2.2.2.2.2.2)
theorem bd11_some {α1 α2 α3 α4 α5 α6 α7 α8 α9 α10 α11 γ : Type} {x : Option (α1 × α2 × α3 × α4 × α5 × α6 × α7 × α8 × α9 × α10 × α11)} {k : α1 → α2 → α3 → α4 → α5 → α6 → α7 → α8 → α9 → α10 → α11 → Option γ} {c : γ} (h : bd11 x k = some c) : ∃ (a1 : α1) (a2 : α2) (a3 : α3) (a4 : α4) (a5 : α5) (a6 : α6) (a7 : α7) (a8 : α8) (a9 : α9) (a10 : α10) (a11 : α11), x = some (a1, a2, a3, a4, a5, a6, a7, a8, a9, a10, a11) ∧ k a1 a2 a3 a4 a5 a6 a7 a8 a9 a10 a11 = some c := by
  obtain ⟨⟨a1, a2, a3, a4, a5, a6, a7, a8, a9, a10, a11⟩, h1, h2⟩ := bind_some h
  exact ⟨a1, a2, a3, a4, a5, a6, a7, a8, a9, a10, a11, h1, h2⟩
section GB
variable {w : Wc} {X : MX} {Z : ZZ} {o : String} {cc : ByteArray} {d pc : Nat} {lv lv' : List (Option Value)} {st : List Value} {u : Um}
theorem G_eql (h : lv = lv') (k : G w X Z pc lv' st u) : G w X Z pc lv st u := h ▸ k
def mask : List Bool → List (Option Value) → List (Option Value)
  | b :: bs, x :: xs => (if b = true then x else none) :: mask bs xs
  | _, _ => []
theorem mask_at : ∀ (bs : List Bool) (l : List (Option Value)) (i : Nat) (v : Value), (mask bs l)[i]? = some (some v) → l[i]? = some (some v)
  | [], _, _, _, h => by simp [mask] at h
  | _ :: _, [], _, _, h => by simp [mask] at h
  | b :: bs, x :: xs, 0, v, h => by
    cases b
    · simp [mask] at h
    · simpa [mask] using h
  | b :: bs, x :: xs, i + 1, v, h => by
    simp only [mask, List.getElem?_cons_succ] at h ⊢
    exact mask_at bs xs i v h
theorem G_mask (bs : List Bool) (h : mask bs lv = lv') (hn : lv'.length = lv.length) (k : G w X Z pc lv' st u) : G w X Z pc lv st u := by
  intro H locs ls h1 h2 h3 h4
  refine k H locs ls h1 h2 h3 ⟨h4.1, hn.trans h4.2.1, h4.2.2.1, fun i v hi => h4.2.2.2 i v ?_⟩
  rw [← h] at hi
  exact mask_at bs lv i v hi
theorem G_istore_nF (hX : OKc w X o cc d) {i : Fin 4} {x : Int32} {lvf : Int32 → List (Option Value)} {ρ : Type} {A : Int32 → Option ρ} {r : ρ} (hd : decode cc pc = .ok (.istore_n i, 1)) (hk : okst lv i.val = true) (hi : i.val < lv.length) (hl : ∀ v, lv.set i.val (some (.int v)) = lvf v) (hf : nm x A = some r) (k : ∀ v, A v = some r → G w X Z (pc + 1) (lvf v) st u) : G w X Z pc lv (.int x :: st) u := G_istore_n hX hd hk hi (hl x) (k x hf)
theorem G_istoreF (hX : OKc w X o cc d) {i : Nat} {x : Int32} {lvf : Int32 → List (Option Value)} {ρ : Type} {A : Int32 → Option ρ} {r : ρ} (hd : decode cc pc = .ok (.istore i, 2)) (hk : okst lv i = true) (hi : i < lv.length) (hl : ∀ v, lv.set i (some (.int v)) = lvf v) (hf : nm x A = some r) (k : ∀ v, A v = some r → G w X Z (pc + 2) (lvf v) st u) : G w X Z pc lv (.int x :: st) u := G_istore hX hd hk hi (hl x) (k x hf)
theorem G_lstore_nF (hX : OKc w X o cc d) {i : Fin 4} {x : Int64} {lvf : Int64 → List (Option Value)} {ρ : Type} {A : Int64 → Option ρ} {r : ρ} (hd : decode cc pc = .ok (.lstore_n i, 1)) (hk : okst lv i.val = true) (hi : i.val + 1 < lv.length) (hl : ∀ v, (lv.set i.val (some (.long v))).set (i.val + 1) none = lvf v) (hf : nm x A = some r) (k : ∀ v, A v = some r → G w X Z (pc + 1) (lvf v) st u) : G w X Z pc lv (.long x :: st) u := G_lstore_n hX hd hk hi (hl x) (k x hf)
theorem G_lstoreF (hX : OKc w X o cc d) {i : Nat} {x : Int64} {lvf : Int64 → List (Option Value)} {ρ : Type} {A : Int64 → Option ρ} {r : ρ} (hd : decode cc pc = .ok (.lstore i, 2)) (hk : okst lv i = true) (hi : i + 1 < lv.length) (hl : ∀ v, (lv.set i (some (.long v))).set (i + 1) none = lvf v) (hf : nm x A = some r) (k : ∀ v, A v = some r → G w X Z (pc + 2) (lvf v) st u) : G w X Z pc lv (.long x :: st) u := G_lstore hX hd hk hi (hl x) (k x hf)
theorem G_astoreF {x : Nat} {lvf : Nat → List (Option Value)} (hX : OKc w X o cc d) {i : Nat} {ρ : Type} {A : Nat → Option ρ} {r : ρ} (hd : decode cc pc = .ok (.astore i, 2)) (hk : okst lv i = true) (hi : i < lv.length) (hl : ∀ v, lv.set i (some (.ref v)) = lvf v) (hf : nm x A = some r) (k : ∀ v, A v = some r → G w X Z (pc + 2) (lvf v) st u) : G w X Z pc lv (.ref x :: st) u := G_astore hX hd hk hi (hl x) (k x hf)
theorem G_iincF (hX : OKc w X o cc d) {i : Nat} {n : Int} {x y : Int32} {lvf : Int32 → List (Option Value)} {ρ : Type} {A : Int32 → Option ρ} {r : ρ} (hd : decode cc pc = .ok (.iinc i n, 3)) (hg : lv[i]? = some (some (.int x))) (hv : x + Int32.ofInt n = y) (hk : okst lv i = true) (hi : i < lv.length) (hl : ∀ v, lv.set i (some (.int v)) = lvf v) (hf : nm y A = some r) (k : ∀ v, A v = some r → G w X Z (pc + 3) (lvf v) st u) : G w X Z pc lv st u := G_iinc hX hd hg hv hk hi (hl y) (k y hf)
theorem G_cV {st' : List Value} (hX : OKc w X o cc d) {idx c n d' a : Nat} {q : MI} {as rest : List Value} {rv : Option Value} {u' : Um} (hv : CV o idx q c n) (hM : MC w d' q (.ref a :: as) u rv u') (hdd : d' + 1 ≤ d) (hk : kd a = c) (hc : c < 9) (hx : a < 133) (hn : as.length = n) (hs : st = as.reverse ++ .ref a :: rest) (hr : (rest.map (fun v => v.category)).sum ≤ 8) (hd : decode cc pc = .ok (.invokevirtual idx, 3)) (hst : rv.toList ++ rest = st') (k : G w X Zm (pc + 3) lv st' u') : G w X Zm pc lv st u := by
  subst hst
  exact G_callV hX hv hM hdd hk hc hx hn hs hr hd ⟨Nat.zero_le _, Nat.zero_le _⟩ k
theorem G_cS {st' : List Value} (hX : OKc w X o cc d) {idx n d' : Nat} {q : MI} {as rest : List Value} {rv : Option Value} {u' : Um} (hv : CS o idx q n) (hM : MC w d' q as u rv u') (hdd : d' + 1 ≤ d) (hn : as.length = n) (hs : st = as.reverse ++ rest) (hr : (rest.map (fun v => v.category)).sum ≤ 8) (hd : decode cc pc = .ok (.invokestatic idx, 3)) (hst : rv.toList ++ rest = st') (k : G w X Zm (pc + 3) lv st' u') : G w X Zm pc lv st u := by
  subst hst
  exact G_callS hX hv hM hdd hn hs hr hd ⟨Nat.zero_le _, Nat.zero_le _⟩ k
theorem G_cN {st' : List Value} (hX : OKc w X o cc d) {idx n d' : Nat} {q : MI} {as rest : List Value} {rv : Option Value} {u' : Um} (hv : CN o idx q n) (hM : MC w d' q as u rv u') (hdd : d' + 1 ≤ d) (hn : as.length = n) (hs : st = as.reverse ++ rest) (hr : (rest.map (fun v => v.category)).sum ≤ 8) (hd : decode cc pc = .ok (.invokestatic idx, 3)) (hst : rv.toList ++ rest = st') (k : G w X Zm (pc + 3) lv st' u') : G w X Zm pc lv st u := by
  subst hst
  exact G_callN hX hv hM hdd hn hs hr hd ⟨Nat.zero_le _, Nat.zero_le _⟩ k
def mxI (x y : Int32) : Int32 := if x < y then y else x
def mnI (x y : Int32) : Int32 := if y < x then y else x
def abI (x : Int32) : Int32 := if 0 ≤ x then x else 0 - x
def CM (o : String) (idx : Nat) (y : MethodName) (bs : ByteArray) (n : Nat) : Prop := Cond.methodLink o idx y ∈ tw ∧ Cond.static y ∈ tw ∧ Cond.initialized "java/lang/Math" ∈ tw ∧ Cond.code y bs n (some .int) ∈ tw
theorem G_max (hX : OKc w X o cc d) {idx : Nat} {x y : Int32} (hl : CM o idx Lib.Math.max.name Lib.Math.max.code 2) (hdd : 1 ≤ d) (hr : (st.map (fun v => v.category)).sum ≤ 8) (hd : decode cc pc = .ok (.invokestatic idx, 3)) (k : G w X Zm (pc + 3) lv (.int (mxI x y) :: st) u) : G w X Zm pc lv (.int y :: .int x :: st) u := by
  intro H locs ls h1 h2 h3 h4
  have m1 := hX.2.2.2.2.2.2.2.1
  have m2 := hX.2.2.2.2.2.2.2.2
  exact va_mmax hX.1 hX.2.1 h4.1.symm hX.2.2.1 (hX.2.2.2.1 _ hl.1) (hX.2.2.2.1 _ hl.2.1) (hX.2.2.2.1 _ hl.2.2.1) (hX.2.2.2.1 _ hl.2.2.2) (by omega) (by rw [cat_map]; omega) (Nat.zero_le _) (Nat.zero_le _) hd (k H locs ls h1 h2 h3 h4)
theorem G_min (hX : OKc w X o cc d) {idx : Nat} {x y : Int32} (hl : CM o idx Lib.Math.min.name Lib.Math.min.code 2) (hdd : 1 ≤ d) (hr : (st.map (fun v => v.category)).sum ≤ 8) (hd : decode cc pc = .ok (.invokestatic idx, 3)) (k : G w X Zm (pc + 3) lv (.int (mnI x y) :: st) u) : G w X Zm pc lv (.int y :: .int x :: st) u := by
  intro H locs ls h1 h2 h3 h4
  have m1 := hX.2.2.2.2.2.2.2.1
  have m2 := hX.2.2.2.2.2.2.2.2
  exact va_mmin hX.1 hX.2.1 h4.1.symm hX.2.2.1 (hX.2.2.2.1 _ hl.1) (hX.2.2.2.1 _ hl.2.1) (hX.2.2.2.1 _ hl.2.2.1) (hX.2.2.2.1 _ hl.2.2.2) (by omega) (by rw [cat_map]; omega) (Nat.zero_le _) (Nat.zero_le _) hd (k H locs ls h1 h2 h3 h4)
theorem G_abs (hX : OKc w X o cc d) {idx : Nat} {x : Int32} (hl : CM o idx Lib.Math.abs.name Lib.Math.abs.code 1) (hdd : 1 ≤ d) (hr : (st.map (fun v => v.category)).sum ≤ 8) (hd : decode cc pc = .ok (.invokestatic idx, 3)) (k : G w X Zm (pc + 3) lv (.int (abI x) :: st) u) : G w X Zm pc lv (.int x :: st) u := by
  intro H locs ls h1 h2 h3 h4
  have m1 := hX.2.2.2.2.2.2.2.1
  have m2 := hX.2.2.2.2.2.2.2.2
  exact va_mabs hX.1 hX.2.1 h4.1.symm hX.2.2.1 (hX.2.2.2.1 _ hl.1) (hX.2.2.2.1 _ hl.2.1) (hX.2.2.2.1 _ hl.2.2.1) (hX.2.2.2.1 _ hl.2.2.2) (by omega) (by rw [cat_map]; omega) (Nat.zero_le _) (Nat.zero_le _) hd (k H locs ls h1 h2 h3 h4)
end GB
