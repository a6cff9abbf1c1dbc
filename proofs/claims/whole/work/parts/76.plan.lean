/-! ===== plan as numbers: the first best of the doings ===== -/
def stp {α : Type} (o : Nat) (v : Nat → Option Nat) (y : Nat → α) (d : Nat) (s : Nat × α) : Nat × α := (v d).elim s (fun t => if s.1 < o + t + 1 then (o + t + 1, y d) else s)
theorem stp_n {α : Type} {o : Nat} {v : Nat → Option Nat} {y : Nat → α} {d : Nat} {s : Nat × α} (h : v d = none) : stp o v y d s = s := by
  unfold stp
  rw [h]
  rfl
theorem stp_y {α : Type} {o : Nat} {v : Nat → Option Nat} {y : Nat → α} {d t : Nat} {s : Nat × α} (h : v d = some t) : stp o v y d s = if s.1 < o + t + 1 then (o + t + 1, y d) else s := by
  unfold stp
  rw [h]
  rfl
def bst (v : Nat → Option Nat) : Nat → Nat × Nat := acc (stp 0 v (fun d => d)) (0, 0)
theorem bst_s (v : Nat → Option Nat) (k : Nat) : bst v (k + 1) = stp 0 v (fun d => d) k (bst v k) := rfl
theorem bst_b {v : Nat → Option Nat} {B : Nat} (h : ∀ d t, v d = some t → t ≤ B) : ∀ n, (bst v n).1 ≤ B + 1
  | 0 => Nat.zero_le _
  | n + 1 => by
    rw [bst_s]
    have ih := bst_b h n
    cases hv : v n with
    | none => rw [stp_n hv]; exact ih
    | some t =>
      have ht := h n t hv
      rw [stp_y hv]
      by_cases h1 : (bst v n).1 < 0 + t + 1
      · rw [if_pos h1]
        show 0 + t + 1 ≤ B + 1
        omega
      · rw [if_neg h1]; exact ih
theorem bst_top {v : Nat → Option Nat} {B : Nat} (h : ∀ d t, v d = some t → t ≤ B) {k : Nat} (hk : B < (bst v k).1) : ∀ j, bst v (k + j) = bst v k
  | 0 => rfl
  | j + 1 => by
    show bst v (k + j + 1) = _
    rw [bst_s, bst_top h hk j]
    cases hv : v (k + j) with
    | none => exact stp_n hv
    | some t =>
      have ht := h _ t hv
      rw [stp_y hv, if_neg (by omega)]
theorem acc_gap {α : Type} {f : Nat → α → α} {a : α} {n : Nat} : ∀ j, (∀ d s, n ≤ d → d < n + j → f d s = s) → acc f a (n + j) = acc f a n
  | 0, _ => rfl
  | j + 1, h => by
    show acc f a (n + j + 1) = _
    rw [acc_s, h (n + j) _ (by omega) (by omega), acc_gap j (fun d s h1 h2 => h d s h1 (by omega))]
theorem tkf {α : Type} (o : Nat) (v : Nat → Option Nat) (y : Nat → α) (s : Nat × α) : ∀ n, acc (stp o v y) s n = if 0 < (bst v n).1 ∧ s.1 < o + (bst v n).1 then (o + (bst v n).1, y (bst v n).2) else s
  | 0 => by
    rw [if_neg (show ¬ (0 < (bst v 0).1 ∧ s.1 < o + (bst v 0).1) from fun h => absurd h.1 (Nat.lt_irrefl 0))]
    rfl
  | n + 1 => by
    rw [acc_s, tkf o v y s n, bst_s]
    cases hv : v n with
    | none => rw [stp_n hv, stp_n hv]
    | some t =>
      rw [stp_y hv, stp_y hv]
      by_cases h1 : (bst v n).1 < 0 + t + 1
      · rw [if_pos h1]
        by_cases hc : 0 < (bst v n).1 ∧ s.1 < o + (bst v n).1
        · rw [if_pos hc, if_pos (show o + (bst v n).1 < o + t + 1 by omega), if_pos (show 0 < 0 + t + 1 ∧ s.1 < o + (0 + t + 1) by omega), Nat.zero_add]
          rfl
        · rw [if_neg hc]
          by_cases h2 : s.1 < o + t + 1
          · rw [if_pos h2, if_pos (show 0 < 0 + t + 1 ∧ s.1 < o + (0 + t + 1) by omega), Nat.zero_add]
            rfl
          · rw [if_neg h2, if_neg (show ¬ (0 < 0 + t + 1 ∧ s.1 < o + (0 + t + 1)) by omega)]
      · rw [if_neg h1]
        by_cases hc : 0 < (bst v n).1 ∧ s.1 < o + (bst v n).1
        · rw [if_pos hc, if_neg (show ¬ o + (bst v n).1 < o + t + 1 by omega)]
        · rw [if_neg hc, if_neg (show ¬ s.1 < o + t + 1 by omega)]
noncomputable def gaN (P W : Nat) (c : Nat → Int32) (d : Nat) : Option Nat := if d = 99 then some 0 else @ite _ (d / 10 < W ∧ d % 10 < P ∧ sMay c (d / 10) (d % 10)) (Classical.propDecidable _) (some (if sCom c (d / 10) (d % 10) = 0 then 0 else 1)) none
theorem gaN_99 (P W : Nat) (c : Nat → Int32) : gaN P W c 99 = some 0 := if_pos rfl
theorem gaN_y {P W d : Nat} {c : Nat → Int32} (h9 : d ≠ 99) (hw : d / 10 < W) (hp : d % 10 < P) (hm : sMay c (d / 10) (d % 10)) : gaN P W c d = some (if sCom c (d / 10) (d % 10) = 0 then 0 else 1) := by
  unfold gaN
  rw [if_neg h9]
  exact if_pos ⟨hw, hp, hm⟩
theorem gaN_n {P W d : Nat} {c : Nat → Int32} (h9 : d ≠ 99) (h : ¬ (d / 10 < W ∧ d % 10 < P ∧ sMay c (d / 10) (d % 10))) : gaN P W c d = none := by
  unfold gaN
  rw [if_neg h9]
  exact if_neg h
theorem gaN_or {P W d t : Nat} {c : Nat → Int32} (h : gaN P W c d = some t) : t ≤ 1 ∧ (d = 99 ∨ (d ≠ 99 ∧ d / 10 < W ∧ d % 10 < P ∧ sMay c (d / 10) (d % 10))) := by
  by_cases h9 : d = 99
  · subst h9
    rw [gaN_99] at h
    exact ⟨by injection h; omega, Or.inl rfl⟩
  · by_cases hc : d / 10 < W ∧ d % 10 < P ∧ sMay c (d / 10) (d % 10)
    · rw [gaN_y h9 hc.1 hc.2.1 hc.2.2] at h
      refine ⟨?_, Or.inr ⟨h9, hc⟩⟩
      injection h with h
      by_cases h0 : sCom c (d / 10) (d % 10) = 0
      · rw [if_pos h0] at h; omega
      · rw [if_neg h0] at h; omega
    · rw [gaN_n h9 hc] at h
      exact absurd h (by simp)
noncomputable def nR (c : Nat → Int32) (d : Nat) : Nat → Int32 := if d = 99 then upd c 0 (c 0 + 1) else sCar c (d / 10) (d % 10)
theorem nR_99 (c : Nat → Int32) : nR c 99 = upd c 0 (c 0 + 1) := if_pos rfl
theorem nR_n {c : Nat → Int32} {d : Nat} (h : d ≠ 99) : nR c d = sCar c (d / 10) (d % 10) := if_neg h
theorem nR_VR {P W dd d t : Nat} {c : Nat → Int32} (hV : VR c P W dd) (h : gaN P W c d = some t) (hd : dd + 1 ≤ 20000) : VR (nR c d) P W (dd + 1) := by
  rcases (gaN_or h).2 with rfl | ⟨h9, hw, hp, hm⟩
  · rw [nR_99, hV.2.2.1, nI_1]
    exact VR_day hV hd
  · rw [nR_n h9]
    exact sCar_VR hV hw hp hd
theorem g83 {P W dd d : Nat} {c c' : Nat → Int32} (hV : VR c P W dd) (e : eq83 c' c) : gaN P W c' d = gaN P W c d := by
  by_cases h9 : d = 99
  · subst h9; rw [gaN_99, gaN_99]
  · by_cases hin : d / 10 < W ∧ d % 10 < P
    · obtain ⟨-, -, -, k4, k5⟩ := spec83 hV hin.1 hin.2 e
      by_cases hm : sMay c (d / 10) (d % 10)
      · rw [gaN_y h9 hin.1 hin.2 hm, gaN_y h9 hin.1 hin.2 (k5.mpr hm), k4]
      · rw [gaN_n h9 (fun h => hm h.2.2), gaN_n h9 (fun h => hm (k5.mp h.2.2))]
    · rw [gaN_n h9 (fun h => hin ⟨h.1, h.2.1⟩), gaN_n h9 (fun h => hin ⟨h.1, h.2.1⟩)]
theorem n83 {P W dd d t : Nat} {c c' : Nat → Int32} (hV : VR c P W dd) (e : eq83 c' c) (h : gaN P W c d = some t) : eq83 (nR c' d) (nR c d) := by
  rcases (gaN_or h).2 with rfl | ⟨h9, hw, hp, hm⟩
  · rw [nR_99, nR_99]
    exact upd83 e _ (by rw [e 0 (by decide)])
  · rw [nR_n h9, nR_n h9]
    exact car83 hV hw hp e
noncomputable def vl (P W : Nat) : Nat → (Nat → Int32) → Nat
  | 0, _ => 0
  | l + 1, c => (bst (fun d => (gaN P W c d).map (fun t => t + vl P W l (nR c d))) 100).1 - 1
noncomputable def vd (P W l : Nat) (c : Nat → Int32) (d : Nat) : Option Nat := (gaN P W c d).map (fun t => t + vl P W l (nR c d))
theorem vl_s (P W l : Nat) (c : Nat → Int32) : vl P W (l + 1) c = (bst (vd P W l c) 100).1 - 1 := rfl
theorem vd_y {P W l d t : Nat} {c : Nat → Int32} (h : gaN P W c d = some t) : vd P W l c d = some (t + vl P W l (nR c d)) := by
  unfold vd
  rw [h]
  rfl
theorem vd_n {P W l d : Nat} {c : Nat → Int32} (h : gaN P W c d = none) : vd P W l c d = none := by
  unfold vd
  rw [h]
  rfl
noncomputable def pl (P W : Nat) : Nat → (Nat → Int32) → Nat → Nat
  | 0, _, _ => 99
  | l + 1, c, 0 => (bst (vd P W l c) 100).2
  | l + 1, c, i + 1 => pl P W l (nR c (bst (vd P W l c) 100).2) i
theorem pl_0 (P W l : Nat) (c : Nat → Int32) : pl P W (l + 1) c 0 = (bst (vd P W l c) 100).2 := rfl
theorem pl_s (P W l i : Nat) (c : Nat → Int32) : pl P W (l + 1) c (i + 1) = pl P W l (nR c (bst (vd P W l c) 100).2) i := rfl
theorem vl_b (P W : Nat) : ∀ l c, vl P W l c ≤ l
  | 0, _ => Nat.le_refl _
  | l + 1, c => by
    rw [vl_s]
    have := bst_b (v := vd P W l c) (B := l + 1) (fun d t h => by
      cases hg : gaN P W c d with
      | none => rw [vd_n hg] at h; exact absurd h (by simp)
      | some x =>
        rw [vd_y hg] at h
        injection h with h
        have h1 := (gaN_or hg).1
        have h2 := vl_b P W l (nR c d)
        omega) 100
    omega
theorem vd_b {P W l d t : Nat} {c : Nat → Int32} (h : vd P W l c d = some t) : t ≤ l + 1 := by
  cases hg : gaN P W c d with
  | none => rw [vd_n hg] at h; exact absurd h (by simp)
  | some x =>
    rw [vd_y hg] at h
    injection h with h
    have h1 := (gaN_or hg).1
    have h2 := vl_b P W l (nR c d)
    omega
theorem bst_pos (P W l : Nat) (c : Nat → Int32) : 0 < (bst (vd P W l c) 100).1 := by
  show 0 < (bst (vd P W l c) (99 + 1)).1
  rw [bst_s, stp_y (vd_y (gaN_99 P W c))]
  by_cases h : (bst (vd P W l c) 99).1 < 0 + (0 + vl P W l (nR c 99)) + 1
  · rw [if_pos h]
    exact Nat.succ_pos _
  · rw [if_neg h]
    omega
theorem tk100 {α : Type} (P W l o : Nat) (c : Nat → Int32) (y : Nat → α) (s : Nat × α) : acc (stp o (vd P W l c) y) s 100 = if s.1 < o + vl P W (l + 1) c + 1 then (o + vl P W (l + 1) c + 1, y (pl P W (l + 1) c 0)) else s := by
  have h0 := bst_pos P W l c
  have h1 := vl_s P W l c
  have e : o + (bst (vd P W l c) 100).1 = o + vl P W (l + 1) c + 1 := by omega
  rw [tkf, e]
  by_cases h : s.1 < o + vl P W (l + 1) c + 1
  · rw [if_pos ⟨h0, h⟩, if_pos h]
    rfl
  · rw [if_neg (fun h' => h h'.2), if_neg h]
