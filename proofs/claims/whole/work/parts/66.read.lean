/-! ===== reading a COAST ===== -/
def pk (T : Nat → Int32) (n pos : Nat) : Int32 := if pos < n then T pos else -1
def CSt (n : Nat) (u0 u : Um) (pos : Nat) : Prop := pos ≤ n ∧ u.1 1 1 = nI n ∧ u.1 1 2 = nI pos ∧ (∀ k, k ≠ 1 → k ≠ 6 → k ≠ 7 → k ≠ 8 → u.1 k = u0.1 k) ∧ u.2 = u0.2
def MSt (n : Nat) (v0 v : Um) (pos : Nat) (c : Nat → Int32) : Prop := v.1 117 3 = nI n ∧ v.1 117 5 = nI pos ∧ eq83 (v.1 123) c ∧ (∀ k, k ≠ 117 → k ≠ 123 → v.1 k = v0.1 k) ∧ v.1 117 12 = v0.1 117 12 ∧ v.2 = v0.2
theorem CSt_adv {n pos : Nat} {u0 u : Um} (h : CSt n u0 u pos) (hp : pos < n) : CSt n u0 (sI u 1 2 (nI (pos + 1))) (pos + 1) := by
  obtain ⟨h1, h2, h3, h4, h5⟩ := h
  exact ⟨by omega, by rw [sI_ot (by decide)]; exact h2, sI_eq, fun k k1 k6 k7 k8 => by rw [sI_ne k1]; exact h4 k k1 k6 k7 k8, h5⟩
theorem MSt_adv {n pos : Nat} {v0 v : Um} {c : Nat → Int32} (h : MSt n v0 v pos c) : MSt n v0 (sI v 117 5 (nI (pos + 1))) (pos + 1) c := by
  obtain ⟨h1, h2, h3, h4, h5, h6⟩ := h
  exact ⟨by rw [sI_ot (by decide)]; exact h1, sI_eq, by rw [sI_ne (by decide)]; exact h3, fun k k1 k2 => by rw [sI_ne k1]; exact h4 k k1 k2, by rw [sI_ot (by decide)]; exact h5, h6⟩
theorem RC_adv {u : Um} {c : Nat → Int32} {P W : Nat} {x : Int32} (h : RC u 6 c P W) : RC (sI u 1 2 x) 6 c P W := RC_fr h (sI_ne (by decide)) (sI_ne (by decide)) (sI_ne (by decide))
section READ
variable {T : Nat → Int32} {n : Nat} {u0 v0 : Um}
theorem peek_c (hn : n ≤ 130) (hT : ∀ i, i < n → u0.1 2 i = T i) {u : Um} {pos : Nat} (h : CSt n u0 u pos) : fX6_peek u = some (pk T n pos) := by
  obtain ⟨h1, h2, h3, h4, h5⟩ := h
  unfold fX6_peek pk
  rw [h2, h3, if_neg (nI_pos (by omega))]
  by_cases hp : pos < n
  · rw [if_neg (nI_ge hp (by omega)), if_neg (by rw [lel130 (by omega)]; omega), if_pos (inbN (by omega) (by decide)), nI_clamp (by omega), if_pos hp, h4 2 (by decide) (by decide) (by decide) (by decide), hT pos hp]
  · rw [if_pos (nI_le (by omega) (by omega)), if_neg hp]
theorem peek_m (hn : n ≤ 130) (hT : ∀ i, i < n → v0.1 121 i = T i) {v : Um} {pos : Nat} {c : Nat → Int32} (hpn : pos ≤ n) (h : MSt n v0 v pos c) : fX8_peek v = some (pk T n pos) := by
  obtain ⟨h1, h2, h3, h4, h5, h6⟩ := h
  unfold fX8_peek pk
  rw [h1, h2]
  by_cases hp : pos < n
  · rw [if_neg (nI_ge hp (by omega)), if_pos (inbN (by omega) (by decide)), nI_clamp (by omega), if_pos hp, h4 121 (by decide) (by decide), hT pos hp]
  · rw [if_pos (nI_le (by omega) (by omega)), if_neg hp]
theorem pkk_lt {pos : Nat} (h : ¬ pk T n pos = -1) : pos < n := by
  unfold pk at h
  by_cases hp : pos < n
  · exact hp
  · rw [if_neg hp] at h; exact absurd rfl h
theorem sign_c (hn : n ≤ 130) (hT : ∀ i, i < n → u0.1 2 i = T i) {u : Um} {pos : Nat} (h : CSt n u0 u pos) (s : Int32) : (pk T n pos = s → fX6_takeSign s u = some (1, sI u 1 2 (nI (pos + 1)))) ∧ (¬ pk T n pos = s → fX6_takeSign s u = some (0, u)) := by
  unfold fX6_takeSign
  rw [peek_c hn hT h, bd1s, h.2.2.1, nI_1]
  exact ⟨fun e => by rw [if_pos e]; rfl, fun e => by rw [if_neg e]⟩
theorem sign_m (hn : n ≤ 130) (hT : ∀ i, i < n → v0.1 121 i = T i) {v : Um} {pos : Nat} {c : Nat → Int32} (hpn : pos ≤ n) (h : MSt n v0 v pos c) (s : Int32) : (pk T n pos = s → fX8_isSign s v = some (1, sI v 117 5 (nI (pos + 1)))) ∧ (¬ pk T n pos = s → fX8_isSign s v = some (0, v)) := by
  unfold fX8_isSign
  rw [peek_m hn hT hpn h, bd1s, h.2.1, nI_1]
  exact ⟨fun e => by rw [if_pos e]; rfl, fun e => by rw [if_neg e]⟩
def fgOK (x lo hi : Int32) : Prop := ¬ x < lo ∧ x ≤ hi
theorem fig_c (hn : n ≤ 130) (hT : ∀ i, i < n → u0.1 2 i = T i) {u : Um} {pos : Nat} (h : CSt n u0 u pos) (lo hi : Int32) : (fgOK (pk T n pos - 48) lo hi → fX6_takeFigure lo hi u = some (pk T n pos - 48, sI u 1 2 (nI (pos + 1)))) ∧ (¬ fgOK (pk T n pos - 48) lo hi → fX6_takeFigure lo hi u = some (-1, u)) := by
  unfold fX6_takeFigure
  rw [peek_c hn hT h, bd1s, h.2.2.1, nI_1]
  simp only [nm]
  refine ⟨fun e => by rw [if_neg e.1, if_pos e.2], fun e => ?_⟩
  by_cases h1 : pk T n pos - 48 < lo
  · rw [if_pos h1]
  · rw [if_neg h1, if_neg (fun h2 => e ⟨h1, h2⟩)]
theorem fig_m (hn : n ≤ 130) (hT : ∀ i, i < n → v0.1 121 i = T i) {v : Um} {pos : Nat} {c : Nat → Int32} (hpn : pos ≤ n) (h : MSt n v0 v pos c) (lo hi but : Int32) : (fgOK (pk T n pos - 48) lo hi ∧ ¬ pk T n pos - 48 = but → fX8_figure lo hi but v = some (pk T n pos - 48, sI v 117 5 (nI (pos + 1)))) ∧ (¬ (fgOK (pk T n pos - 48) lo hi ∧ ¬ pk T n pos - 48 = but) → fX8_figure lo hi but v = some (-1, v)) := by
  unfold fX8_figure
  rw [peek_m hn hT hpn h, bd1s, h.2.1, nI_1]
  simp only [nm]
  refine ⟨fun e => ?_, fun e => ?_⟩
  · rw [in_y e.1.1 (Int32.not_lt.mpr e.1.2), bd1s, if_neg i10, if_neg e.2]
  · by_cases hf : fgOK (pk T n pos - 48) lo hi
    · rw [in_y hf.1 (Int32.not_lt.mpr hf.2), bd1s, if_neg i10, if_pos (Classical.not_not.mp (fun h2 => e ⟨hf, h2⟩))]
    · have hx : pk T n pos - 48 < lo ∨ hi < pk T n pos - 48 := by
        by_cases h1 : pk T n pos - 48 < lo
        · exact Or.inl h1
        · exact Or.inr (Int32.not_le.mp (fun h2 => hf ⟨h1, h2⟩))
      rw [in_n hx, bd1s, if_pos rfl]
theorem oth_c (hn : n ≤ 130) (hT : ∀ i, i < n → u0.1 2 i = T i) {u : Um} {pos : Nat} (h : CSt n u0 u pos) (self pp : Int32) : (fgOK (pk T n pos - 48) 0 (pp - 1) ∧ ¬ pk T n pos - 48 = self → fX6_takeOther self pp u = some (pk T n pos - 48, sI u 1 2 (nI (pos + 1)))) ∧ (¬ (fgOK (pk T n pos - 48) 0 (pp - 1) ∧ ¬ pk T n pos - 48 = self) → fX6_takeOther self pp u = some (-1, u)) := by
  unfold fX6_takeOther
  rw [peek_c hn hT h, bd1s]
  refine ⟨fun e => ?_, fun e => ?_⟩
  · rw [if_neg e.2, (fig_c hn hT h 0 (pp - 1)).1 e.1, bd2s]
  · by_cases h1 : pk T n pos - 48 = self
    · rw [if_pos h1]
    · rw [if_neg h1, (fig_c hn hT h 0 (pp - 1)).2 (fun h2 => e ⟨h2, h1⟩), bd2s]
theorem fg_nat {pos l : Nat} {hi : Int32} {m : Nat} (hh : hi.toInt = m) (hm : m ≤ 9) (h : fgOK (pk T n pos - 48) (nI l) hi) (hl : l ≤ 9) : ∃ k : Nat, l ≤ k ∧ k ≤ m ∧ pk T n pos - 48 = nI k ∧ pos < n := by
  obtain ⟨h1, h2⟩ := h
  have h0 : ¬ pk T n pos - 48 < 0 := by
    intro h
    refine h1 (Int32.lt_of_lt_of_le h ?_)
    exact nI_pos' (by omega)
  obtain ⟨k, k1, k2⟩ := nI_of2 hh h0 h2
  refine ⟨k, ?_, k1, k2, ?_⟩
  · rw [k2] at h1
    exact Nat.not_lt.mp (fun h => h1 (nI_lt h (by omega)))
  · refine pkk_lt (T := T) (n := n) (fun e => ?_)
    rw [e] at h0
    exact h0 (by decide)
theorem kind_or (x : Int32) : (∃ k : Nat, 1 ≤ k ∧ k ≤ 5 ∧ ¬ x = -1 ∧ (∀ u, fX6_kindOf x u = some (nI k)) ∧ (∀ u, fX8_kindBy x u = some (nI k))) ∨ ((∀ u, fX6_kindOf x u = some (-1)) ∧ (∀ u, fX8_kindBy x u = some 0)) := by
  by_cases h1 : x = 99
  · subst h1; exact Or.inl ⟨1, by decide, by decide, by decide, fun _ => rfl, fun _ => rfl⟩
  by_cases h2 : x = 97
  · subst h2; exact Or.inl ⟨2, by decide, by decide, by decide, fun _ => rfl, fun _ => rfl⟩
  by_cases h3 : x = 102
  · subst h3; exact Or.inl ⟨3, by decide, by decide, by decide, fun _ => rfl, fun _ => rfl⟩
  by_cases h4 : x = 98
  · subst h4; exact Or.inl ⟨4, by decide, by decide, by decide, fun _ => rfl, fun _ => rfl⟩
  by_cases h5 : x = 114
  · subst h5; exact Or.inl ⟨5, by decide, by decide, by decide, fun _ => rfl, fun _ => rfl⟩
  refine Or.inr ⟨fun u => ?_, fun u => ?_⟩
  · unfold fX6_kindOf
    rw [if_neg h2, if_neg h4, if_neg h1, if_neg h3, if_neg h5]
  · unfold fX8_kindBy
    rw [if_neg h1, if_neg h2, if_neg h3, if_neg h4, if_neg h5]
/-! a PERSON laid into a row -/
def sPer (c : Nat → Int32) (p : Nat) (k s h o w : Int32) : Nat → Int32 := upd (upd (upd (upd (upd (upd (upd c (3 + p) k) (9 + p) s) (15 + p) h) (21 + p) o) (27 + p) o) (33 + p) w) (45 + p) (-4)
theorem sPer83 {c c' : Nat → Int32} (e : eq83 c' c) (p : Nat) (k s h o w : Int32) : eq83 (sPer c' p k s h o w) (sPer c p k s h o w) := upd83 (upd83 (upd83 (upd83 (upd83 (upd83 (upd83 e _ rfl) _ rfl) _ rfl) _ rfl) _ rfl) _ rfl) _ rfl
theorem per_m {v : Um} {p : Nat} {k s h o w : Int32} (hp : p < 6) : fX8_isPerson_j113 (nI p) k s h o w v = some (1, sIr v 123 (sPer (v.1 123) p k s h o w)) := by
  have key : ∀ c : Nat → Int32, fX8_isPerson_j113 (nI p) k s h o w (sIr v 123 c) = some (1, sIr v 123 (sPer c p k s h o w)) := by
    intro c
    unfold fX8_isPerson_j113 sPer
    simp only [nm, ic3 (show 3 + p < 83 by omega), ic9 (show 9 + p < 83 by omega), ic15 (show 15 + p < 83 by omega), ic21 (show 21 + p < 83 by omega), ic27 (show 27 + p < 83 by omega), ic33 (show 33 + p < 83 by omega), ic45 (show 45 + p < 83 by omega), if_true, sI_sIr, ix3 (n := p) (by omega), ix9 (n := p) (by omega), ix15 (n := p) (by omega), ix21 (n := p) (by omega), ix27 (n := p) (by omega), ix33 (n := p) (by omega), ix45 (n := p) (by omega)]
  have := key (v.1 123)
  rw [sIr_self] at this
  exact this
theorem per_c {u : Um} {p : Nat} {c : Nat → Int32} {k s h o w : Int32} (hp : p < 6) (hR : RC u 6 (upd c 1 (nI p)) p 0) (h39 : c (39 + p) = 0) : ∃ u', fX0_addPerson 6 k s h o w u = some u' ∧ (∀ j, j ≠ 6 → j ≠ 7 → u'.1 j = u.1 j) ∧ u'.2 = u.2 ∧ RC u' 6 (upd (sPer c p k s h o w) 1 (nI (p + 1))) (p + 1) 0 := by
  have e2 : u.1 6 2 = nI p := hR.1.trans pk_us
  have st : ∀ (j : Nat) (q : Int32) (v : Um), j < 8 → fX0_setTrait 6 (nI p) (nI j) q v = some (sI v 7 (8 * p + j) q) := fun j q v hj => str_at 6 q v hp hj
  have ea : ∀ (v : Um) (i : Nat) (q : Int32), (sI v 7 i q).1 6 = v.1 6 := fun v i q => sI_ne (by decide)
  unfold fX0_addPerson
  rw [e2, if_pos ((ltr6 (by omega)).mpr hp)]
  rw [show fX0_setTrait 6 (nI p) 0 k u = _ from st 0 k u (by decide), bd1s, ea, e2]
  rw [show ∀ v, fX0_setTrait 6 (nI p) 1 s v = _ from fun v => st 1 s v (by decide), bd1s, ea, ea, e2]
  rw [show ∀ v, fX0_setTrait 6 (nI p) 2 h v = _ from fun v => st 2 h v (by decide), bd1s, ea, ea, ea, e2]
  rw [show ∀ v, fX0_setTrait 6 (nI p) 3 o v = _ from fun v => st 3 o v (by decide), bd1s, ea, ea, ea, ea, e2]
  rw [show ∀ v, fX0_setTrait 6 (nI p) 4 o v = _ from fun v => st 4 o v (by decide), bd1s, ea, ea, ea, ea, ea, e2]
  rw [show ∀ v, fX0_setTrait 6 (nI p) 5 w v = _ from fun v => st 5 w v (by decide), bd1s, ea, ea, ea, ea, ea, ea, e2]
  rw [show ∀ v, fX0_setTrait 6 (nI p) 6 0 v = _ from fun v => st 6 0 v (by decide), bd1s, ea, ea, ea, ea, ea, ea, ea, e2]
  rw [show ∀ v, fX0_setTrait 6 (nI p) 7 (-4) v = _ from fun v => st 7 (-4) v (by decide), bd1s]
  simp only [nm, ea, e2, nI_1]
  refine ⟨_, rfl, fun j h6 h7 => ?_, rfl, ?_, ?_, ?_, fun p' k' hp' hk' => ?_, fun w k hw => absurd hw (Nat.not_lt_zero w)⟩
  · rw [sI_ne h6, sI_ne h7, sI_ne h7, sI_ne h7, sI_ne h7, sI_ne h7, sI_ne h7, sI_ne h7, sI_ne h7]
  · rw [sI_eq, pk_us]
  · rw [sI_ot (by decide), ea, ea, ea, ea, ea, ea, ea, ea, hR.2.1]
    unfold sPer
    rw [pk_un (by decide), pk_un (show 2 ≠ 1 by decide), pk_un (by omega), pk_un (by omega), pk_un (by omega), pk_un (by omega), pk_un (by omega), pk_un (by omega), pk_un (by omega)]
  · rw [sI_ot (by decide), ea, ea, ea, ea, ea, ea, ea, ea, hR.2.2.1]
    unfold sPer
    rw [pk_un (by decide), pk_un (show 0 ≠ 1 by decide), pk_un (by omega), pk_un (by omega), pk_un (by omega), pk_un (by omega), pk_un (by omega), pk_un (by omega), pk_un (by omega)]
  · show (sI _ 6 2 _).1 7 (8 * p' + k') = _
    rw [sI_ne (by decide), pk_un (by omega)]
    unfold sPer
    by_cases hpp : p' = p
    · subst hpp
      rcases (show k' = 0 ∨ k' = 1 ∨ k' = 2 ∨ k' = 3 ∨ k' = 4 ∨ k' = 5 ∨ k' = 6 ∨ k' = 7 by omega) with rfl | rfl | rfl | rfl | rfl | rfl | rfl | rfl
      · rw [sI_ot (by omega), sI_ot (by omega), sI_ot (by omega), sI_ot (by omega), sI_ot (by omega), sI_ot (by omega), sI_ot (by omega), sI_eq, pk_un (by omega), pk_un (by omega), pk_un (by omega), pk_un (by omega), pk_un (by omega), pk_un (by omega), show 3 + 6 * 0 + p' = 3 + p' by omega, pk_us]
      · rw [sI_ot (by omega), sI_ot (by omega), sI_ot (by omega), sI_ot (by omega), sI_ot (by omega), sI_ot (by omega), sI_eq, pk_un (by omega), pk_un (by omega), pk_un (by omega), pk_un (by omega), pk_un (by omega), show 3 + 6 * 1 + p' = 9 + p' by omega, pk_us]
      · rw [sI_ot (by omega), sI_ot (by omega), sI_ot (by omega), sI_ot (by omega), sI_ot (by omega), sI_eq, pk_un (by omega), pk_un (by omega), pk_un (by omega), pk_un (by omega), show 3 + 6 * 2 + p' = 15 + p' by omega, pk_us]
      · rw [sI_ot (by omega), sI_ot (by omega), sI_ot (by omega), sI_ot (by omega), sI_eq, pk_un (by omega), pk_un (by omega), pk_un (by omega), show 3 + 6 * 3 + p' = 21 + p' by omega, pk_us]
      · rw [sI_ot (by omega), sI_ot (by omega), sI_ot (by omega), sI_eq, pk_un (by omega), pk_un (by omega), show 3 + 6 * 4 + p' = 27 + p' by omega, pk_us]
      · rw [sI_ot (by omega), sI_ot (by omega), sI_eq, pk_un (by omega), show 3 + 6 * 5 + p' = 33 + p' by omega, pk_us]
      · rw [sI_ot (by omega), sI_eq, show 3 + 6 * 6 + p' = 39 + p' by omega, pk_un (by omega), pk_un (by omega), pk_un (by omega), pk_un (by omega), pk_un (by omega), pk_un (by omega), pk_un (by omega), h39]
      · rw [sI_eq, show 3 + 6 * 7 + p' = 45 + p' by omega, pk_us]
    · rw [sI_ot (by omega), sI_ot (by omega), sI_ot (by omega), sI_ot (by omega), sI_ot (by omega), sI_ot (by omega), sI_ot (by omega), sI_ot (by omega), pk_un (by omega), pk_un (by omega), pk_un (by omega), pk_un (by omega), pk_un (by omega), pk_un (by omega), pk_un (by omega)]
      have := hR.2.2.2.1 p' k' (by omega) hk'
      rw [pk_un (by omega)] at this
      exact this
theorem perOK {c : Nat → Int32} {p cnt : Nat} {k s h o : Nat} {w : Int32} (hp : p < cnt) (hc : cnt ≤ 6) (hok : ∀ i, rel p 0 i → okv cnt 0 i (c i)) (h39 : c (39 + p) = 0) (k1 : 1 ≤ k) (k5 : k ≤ 5) (s9 : s ≤ 9) (h9 : h ≤ 9) (o9 : o ≤ 9) (hw : w = -4 ∨ ∃ q, q < cnt ∧ w = nI q) : ∀ i, rel (p + 1) 0 i → okv cnt 0 i (sPer c p (nI k) (nI s) (nI h) (nI o) w i) := by
  intro i hi
  unfold sPer
  by_cases e7 : i = 45 + p
  · subst e7; rw [pk_us]; unfold okv; rw [if_neg (by omega), if_neg (by omega), if_neg (by omega), if_neg (by omega), if_pos (by omega)]; exact Or.inl rfl
  rw [pk_un e7]
  by_cases e5 : i = 33 + p
  · subst e5; rw [pk_us]; unfold okv; rw [if_neg (by omega), if_neg (by omega), if_pos (by omega)]; exact hw
  rw [pk_un e5]
  by_cases e4 : i = 27 + p
  · subst e4; rw [pk_us]; unfold okv; rw [if_neg (by omega), if_pos (by omega)]; exact ⟨o, o9, rfl⟩
  rw [pk_un e4]
  by_cases e3 : i = 21 + p
  · subst e3; rw [pk_us]; unfold okv; rw [if_neg (by omega), if_pos (by omega)]; exact ⟨o, o9, rfl⟩
  rw [pk_un e3]
  by_cases e2 : i = 15 + p
  · subst e2; rw [pk_us]; unfold okv; rw [if_neg (by omega), if_pos (by omega)]; exact ⟨h, h9, rfl⟩
  rw [pk_un e2]
  by_cases e1 : i = 9 + p
  · subst e1; rw [pk_us]; unfold okv; rw [if_neg (by omega), if_pos (by omega)]; exact ⟨s, s9, rfl⟩
  rw [pk_un e1]
  by_cases e0 : i = 3 + p
  · subst e0; rw [pk_us]; unfold okv; rw [if_pos (by omega)]; exact ⟨k, k1, k5, rfl⟩
  rw [pk_un e0]
  by_cases e6 : i = 39 + p
  · subst e6; rw [h39]; unfold okv; rw [if_neg (by omega), if_neg (by omega), if_neg (by omega), if_pos (by omega)]; exact ⟨0, Nat.le_refl _, rfl⟩
  refine hok i ?_
  rcases hi with ⟨k', p', hk', hp', rfl⟩ | ⟨k', w', hk', hw', rfl⟩
  · exact Or.inl ⟨k', p', hk', by omega, rfl⟩
  · exact absurd hw' (Nat.not_lt_zero w')
end READ
