/-! ===== least and gusts ===== -/
/-- what is scratch may change -/
theorem Inv_fr {u u' : Um} (hI : Inv u) (e : ∀ k, k ≤ 5 ∨ (9 ≤ k ∧ k ≤ 98) ∨ (118 ≤ k ∧ k ≤ 122) ∨ (125 ≤ k ∧ k ≤ 127) → u'.1 k = u.1 k) (e3 : u'.1 117 3 = u.1 117 3) (e12 : u'.1 117 12 = u.1 117 12) (e2 : u'.2 = u.2) : Inv u' := by
  obtain ⟨i1, i2, i3, i4, i5⟩ := hI
  exact ⟨IvC_fr i1 (e _ (by omega)) (e _ (by omega)) (e _ (by omega)) (e _ (by omega)), IvP_fr i2 (fun j hj => e _ (by omega)) e12, IvM_fr i3 (fun j hj => e _ (by omega)), IvT_fr i4 (e _ (by omega)) (e _ (by omega)) (e _ (by omega)) e3, IvS_fr i5 (fun j hj => e _ (by omega)) e2⟩
theorem first_of (L : Nat → Prop) : ∀ n, ∃ m, m ≤ n ∧ (∀ v, v < m → ¬ L v) ∧ (m = n ∨ (m < n ∧ L m))
  | 0 => ⟨0, Nat.le_refl _, fun v h => absurd h (Nat.not_lt_zero v), Or.inl rfl⟩
  | n + 1 => by
    obtain ⟨m, h1, h2, h3⟩ := first_of L n
    rcases h3 with h3 | ⟨h3, h4⟩
    · subst h3
      by_cases hL : L m
      · exact ⟨m, by omega, h2, Or.inr ⟨by omega, hL⟩⟩
      · refine ⟨m + 1, Nat.le_refl _, fun v hv => ?_, Or.inl rfl⟩
        by_cases hvm : v = m
        · subst hvm; exact hL
        · exact h2 v (by omega)
    · exact ⟨m, by omega, h2, Or.inr ⟨by omega, h4⟩⟩
theorem begin_m (u : Um) : ∃ u', fX8_begin u = some u' ∧ (∀ r, r ≠ 124 → u'.1 r = u.1 r) ∧ u'.2 = u.2 ∧ ∀ i, i < 83 → u'.1 124 i = u.1 122 i := by
  obtain ⟨u3, e3, g1, g2, g3, g4⟩ := bring_spec (s := 122) (d := 124) (i0 := 0) (j0 := 0) (n := 83) (I := 0) (J := 0) (N := 83) rfl rfl rfl (by rw [ln122]; omega) (by rw [ln124]; omega) (by rw [ln122]; omega) (by rw [ln124]; omega) (Or.inl (by decide)) (by decide) u
  refine ⟨u3, ?_, g1, g2, fun i hi => ?_⟩
  · unfold fX8_begin
    rw [e3, bd1s]
  · have := g4 i hi
    rw [Nat.zero_add] at this
    exact this
def Lk (c : Nat → Int32) (w p v : Nat) : Prop := sNeed c w ≤ sSay (c (3 + p)) (nI v) (c (39 + p)) (sMil c w p)
theorem least_c {u : Um} {P W dd w p m : Nat} {c : Nat → Int32} (hR : RC u 3 c P W) (hV : VR c P W dd) (hw : w < W) (hp : p < P) (hm : m ≤ 10) (h1 : ∀ v, v < m → ¬ Lk c w p v) (h2 : m = 10 ∨ (m < 10 ∧ Lk c w p m)) : fX0_leastSkill 3 (nI w) (nI p) u = some (if m = 10 then -4 else nI m) := by
  have hP := hV.2.2.2.1
  have hW := hV.2.2.2.2.1
  obtain ⟨k, k1, k5, ek⟩ := (hV.2.2.2.2.2.2.1 p hp).1
  unfold fX0_leastSkill
  have body : ∀ v, v < 10 → fX0_leastSkill_b2 3 (nI w) (nI p) (nI v) u = if sSay (c (3 + p)) (nI v) (c (39 + p)) (sMil c w p) < sNeed c w then some (0, nI (v + 1)) else some (2, nI v) := by
    intro v hv
    unfold fX0_leastSkill_b2
    rw [if_neg (by rw [ltl9 (by omega)]; omega), tR0 hR hP hp, bd1s, tR6 hR hP hp, bd1s, mil_c hR hV hw hp, bd1s, say_c u k1 k5 ek, bd1s, need_c hR hV hw, bd1s]
    simp only [nm, nI_1]
  rcases h2 with h2 | ⟨h2, h3⟩
  · subst h2
    have h := lp_end (body := fun s => fX0_leastSkill_b2 3 (nI w) (nI p) s u) (fun k => nI k) (m := 10) (e := 1) (s' := nI 10) (by omega) (fun v hv => by
      show fX0_leastSkill_b2 3 (nI w) (nI p) (nI v) u = _
      rw [body v hv, if_pos (Int32.not_le.mp (h1 v hv))]) (by
      show fX0_leastSkill_b2 3 (nI w) (nI p) (nI 10) u = _
      unfold fX0_leastSkill_b2
      rw [if_pos (by decide)]) (by decide)
    rw [show (0 : Int32) = nI 0 from rfl, h]
    rfl
  · have h := lp_end (body := fun s => fX0_leastSkill_b2 3 (nI w) (nI p) s u) (fun k => nI k) (m := m) (e := 2) (s' := nI m) (by omega) (fun v hv => by
      show fX0_leastSkill_b2 3 (nI w) (nI p) (nI v) u = _
      rw [body v (by omega), if_pos (Int32.not_le.mp (h1 v hv))]) (by
      show fX0_leastSkill_b2 3 (nI w) (nI p) (nI m) u = _
      rw [body m h2, if_neg (Int32.not_lt.mpr h3)]) (by decide)
    rw [show (0 : Int32) = nI 0 from rfl, h, bd2s, if_neg (by decide), if_neg (by omega)]
theorem sk_VR {c : Nat → Int32} {P W dd p v : Nat} (hV : VR c P W dd) (hp : p < P) (hv : v < 10) : VR (upd c (9 + p) (nI v)) P W dd := by
  have hP := hV.2.2.2.1
  exact VR_set hV (by omega) (by unfold okv; rw [if_neg (by omega), if_pos (by omega)]; exact ⟨v, by omega, rfl⟩)
theorem sk_com {c : Nat → Int32} {P W dd w p v : Nat} (hV : VR c P W dd) (hw : w < W) (hp : p < P) (hv : v < 10) : (Lk c w p v → ¬ sCom (upd c (9 + p) (nI v)) w p ≤ 0) ∧ (¬ Lk c w p v → sCom (upd c (9 + p) (nI v)) w p ≤ 0) := by
  have hP := hV.2.2.2.1
  have hW := hV.2.2.2.2.1
  obtain ⟨q, q1, q2, q3⟩ := whom_of hV hw
  have e59 : upd c (9 + p) (nI v) (59 + w) = c (59 + w) := pk_un (by omega)
  have e1 : sNeed (upd c (9 + p) (nI v)) w = sNeed c w := by
    unfold sNeed
    rw [e59, q3, pk_un (by omega), pk_un (by omega)]
  have e2 : sMil (upd c (9 + p) (nI v)) w p = sMil c w p := by
    unfold sMil
    rw [e59, q3, pk_un (by omega), pk_un (by omega)]
  have e3 : sSaid (upd c (9 + p) (nI v)) w p = sSay (c (3 + p)) (nI v) (c (39 + p)) (sMil c w p) := by
    unfold sSaid
    rw [e2, pk_un (by omega), pk_us, pk_un (by omega)]
  unfold sCom Lk
  rw [e1, e3]
  refine ⟨fun h => ?_, fun h => ?_⟩
  · rw [if_pos h]
    split
    · decide
    · split <;> decide
  · rw [if_neg h]
    decide
theorem least_m {u : Um} {P W dd w p m : Nat} (hV : VR (u.1 124) P W dd) (hw : w < W) (hp : p < P) (hm : m ≤ 10) (h1 : ∀ v, v < m → ¬ Lk (u.1 124) w p v) (h2 : m = 10 ∨ (m < 10 ∧ Lk (u.1 124) w p m)) : ∃ u', bd3 (lp (fun s : Int32 × Um => fX8_least_b20 (nI w) (nI p) s.1 s.2) fuel ((0 : Int32), u)) (fun e11 v9 u10 => if e11 = 1 then some ((-4 : Int32), u10) else some (v9, u10)) = some (if m = 10 then -4 else nI m, u') ∧ (∀ k, k ≠ 124 → u'.1 k = u.1 k) ∧ u'.2 = u.2 := by
  have hP := hV.2.2.2.1
  have hW := hV.2.2.2.2.1
  have hst : ∀ k, acc (fun k c => upd c (9 + p) (nI k)) (u.1 124) (k + 1) = upd (u.1 124) (9 + p) (nI k) := by
    intro k
    induction k with
    | zero => rfl
    | succ k ih =>
      rw [acc_s, ih]
      refine funext fun j => ?_
      by_cases hj : j = 9 + p
      · subst hj; rw [pk_us, pk_us]
      · rw [pk_un hj, pk_un hj, pk_un hj]
  have body : ∀ v, v < 10 → fX8_least_b20 (nI w) (nI p) (nI v) (sIr u 124 (acc (fun k c => upd c (9 + p) (nI k)) (u.1 124) v)) = if sCom (upd (u.1 124) (9 + p) (nI v)) w p ≤ 0 then some (0, nI (v + 1), sIr u 124 (acc (fun k c => upd c (9 + p) (nI k)) (u.1 124) (v + 1))) else some (2, nI v, sIr u 124 (acc (fun k c => upd c (9 + p) (nI k)) (u.1 124) (v + 1))) := by
    intro v hv
    unfold fX8_least_b20
    rw [if_neg (by rw [ltl9 (by omega)]; omega), if_pos (ic9 (by omega)), ix9 (by omega)]
    simp only [nm, nI_1]
    rw [sI_sIr, ← acc_s (fun k c => upd c (9 + p) (nI k)), com_m (P := P) (W := W) (dd := dd) ln124 (by rw [sIr_at, hst]; exact sk_VR hV hp hv) hw hp, bd1s, sIr_at, hst]
  rcases h2 with h2 | ⟨h2, h3⟩
  · subst h2
    have h := lp_end (body := fun s : Int32 × Um => fX8_least_b20 (nI w) (nI p) s.1 s.2) (fun k => (nI k, sIr u 124 (acc (fun k c => upd c (9 + p) (nI k)) (u.1 124) k))) (m := 10) (e := 1) (s' := (nI 10, sIr u 124 (acc (fun k c => upd c (9 + p) (nI k)) (u.1 124) 10))) (by omega) (fun v hv => by
      show fX8_least_b20 (nI w) (nI p) (nI v) _ = _
      rw [body v hv, if_pos ((sk_com hV hw hp hv).2 (h1 v hv))]) (by
      show fX8_least_b20 (nI w) (nI p) (nI 10) _ = _
      unfold fX8_least_b20
      rw [if_pos (by decide)]) (by decide)
    rw [show ((0 : Int32), u) = (nI 0, sIr u 124 (acc (fun k c => upd c (9 + p) (nI k)) (u.1 124) 0)) from by rw [show acc (fun k c => upd c (9 + p) (nI k)) (u.1 124) 0 = u.1 124 from rfl, sIr_self]; rfl, h, bd3s, if_pos rfl]
    exact ⟨_, rfl, fun k hk => sIr_ne hk, rfl⟩
  · have h := lp_end (body := fun s : Int32 × Um => fX8_least_b20 (nI w) (nI p) s.1 s.2) (fun k => (nI k, sIr u 124 (acc (fun k c => upd c (9 + p) (nI k)) (u.1 124) k))) (m := m) (e := 2) (s' := (nI m, sIr u 124 (acc (fun k c => upd c (9 + p) (nI k)) (u.1 124) (m + 1)))) (by omega) (fun v hv => by
      show fX8_least_b20 (nI w) (nI p) (nI v) _ = _
      rw [body v (by omega), if_pos ((sk_com hV hw hp (by omega)).2 (h1 v hv))]) (by
      show fX8_least_b20 (nI w) (nI p) (nI m) _ = _
      rw [body m h2, if_neg ((sk_com hV hw hp h2).1 h3)]) (by decide)
    rw [show ((0 : Int32), u) = (nI 0, sIr u 124 (acc (fun k c => upd c (9 + p) (nI k)) (u.1 124) 0)) from by rw [show acc (fun k c => upd c (9 + p) (nI k)) (u.1 124) 0 = u.1 124 from rfl, sIr_self]; rfl, h, bd3s, if_neg (by decide), if_neg (by omega)]
    exact ⟨_, rfl, fun k hk => sIr_ne hk, rfl⟩
theorem Lk_congr {c c' : Nat → Int32} {P W dd w p v : Nat} (hV : VR c P W dd) (hw : w < W) (hp : p < P) (e : ∀ i, i < 83 → c' i = c i) : Lk c' w p v ↔ Lk c w p v := by
  have hP := hV.2.2.2.1
  have hW := hV.2.2.2.2.1
  obtain ⟨q, q1, q2, q3⟩ := whom_of hV hw
  unfold Lk sNeed sMil
  rw [e (59 + w) (by omega), q3, e _ (by omega), e _ (by omega), e _ (by omega), e _ (by omega), e _ (by omega), e _ (by omega)]
theorem s_least (a b : Int32) : S12 (fX7_least a b) (fX8_least a b) := by
  intro u hI
  obtain ⟨P, W, dd, hV, hR, -, -⟩ := IvC_get hI.1
  unfold fX7_least fX8_least
  rcases why hV hR a b with ⟨r, h0, h1, h2⟩ | ⟨w, p, hw, hp, rfl, rfl, hm, h1, h2⟩
  · rw [h1, h2, bd1s, bd1s, if_neg h0, if_neg h0]
    exact ⟨r, u, rfl, rfl, hI⟩
  · rw [h1, h2, bd1s, bd1s, if_pos rfl, if_pos rfl]
    obtain ⟨m, m1, m2, m3⟩ := first_of (Lk (u.1 122) w p) 10
    obtain ⟨u1, e1, f1, f2, f3⟩ := begin_m u
    have hV1 : VR (u1.1 124) P W dd := VR_congr hV f3
    have cg : ∀ v, Lk (u1.1 124) w p v ↔ Lk (u.1 122) w p v := fun v => Lk_congr hV hw hp f3
    obtain ⟨u2, e2, g1, g2⟩ := least_m hV1 hw hp m1 (fun v hv h => m2 v hv ((cg v).mp h)) (m3.imp id (fun h => ⟨h.1, (cg m).mpr h.2⟩))
    rw [least_c hR hV hw hp m1 m2 m3, bd1s, e1, bd1s]
    refine ⟨_, u2, rfl, e2, ?_⟩
    exact Inv_fr hI (fun k hk => by rw [g1 k (by omega), f1 k (by omega)]) (by rw [g1 117 (by decide), f1 117 (by decide)]) (by rw [g1 117 (by decide), f1 117 (by decide)]) (by rw [g2, f2])
/-! gusts -/
theorem sh31 : ∀ k, k < 32 → ((nI k).toBitVec.smod 32).toNat = k := by decide +kernel
theorem k31 {k : Nat} (hk : k < 32) : (nI k &&& 31 : Int32) = nI k := by
  rw [pk_andN (by omega) 5 (by decide), Nat.mod_eq_of_lt (by omega)]
theorem bit_I {m k : Nat} (hm : m < 2 ^ 31) (hk : k < 32) : ((nI m >>> (nI k &&& 31)) &&& 1 : Int32) = nI (m / 2 ^ k % 2) := by
  have hd : m / 2 ^ k ≤ m := Nat.div_le_self _ _
  rw [k31 hk, pk_shrN hm (nI k) k (sh31 k hk), pk_andN (by omega) 1 (by decide)]
theorem has_m {m k : Nat} (u : Um) (hm : m < 2 ^ 31) (hk : k < 32) : fX8_has (nI m) (nI k) u = some (nI (m / 2 ^ k % 2)) := by
  unfold fX8_has
  rw [bit_I hm hk]
  rcases (show m / 2 ^ k % 2 = 0 ∨ m / 2 ^ k % 2 = 1 by omega) with h | h <;> rw [h] <;> rfl
def gO (q : Int32) (s : Nat) : Int32 := acc (fun k x => x * (if s / 2 ^ k % 2 = 1 then q else 10 - q)) 1 3
def gN (s : Nat) : Nat := acc (fun k x => x + s / 2 ^ k % 2) 0 3
theorem gin (u : Um) (x y q z i6 : Int32) {s : Nat} (hs : s < 8) : lp (fun t => fX8_gusts_b60 x y q z i6 (nI s) t.1 t.2.1 t.2.2 u) fuel ((1 : Int32), (0 : Int32), (0 : Int32)) = some (1, gO q s, nI (gN s), nI 3) := by
  refine lp_end (body := fun t => fX8_gusts_b60 x y q z i6 (nI s) t.1 t.2.1 t.2.2 u) (fun k => (acc (fun k x => x * (if s / 2 ^ k % 2 = 1 then q else 10 - q)) 1 k, nI (acc (fun k x => x + s / 2 ^ k % 2) 0 k), nI k)) (m := 3) (e := 1) (by omega) (fun k hk => ?_) ?_ (by decide)
  · show fX8_gusts_b60 x y q z i6 (nI s) _ _ (nI k) u = _
    unfold fX8_gusts_b60 fX8_gusts_j86 fX8_gusts_j106
    rw [if_neg (by rw [lel3 (by omega)]; omega), has_m u (by omega) (by omega), bd1s, acc_s, acc_s]
    simp only [nm, nI_1]
    rcases (show s / 2 ^ k % 2 = 0 ∨ s / 2 ^ k % 2 = 1 by omega) with h | h
    · rw [h, if_pos (show nI 0 = 0 from rfl), bd1s, if_pos (show nI 0 = 0 from rfl), if_neg (by decide), show (0 : Int32) = nI 0 from rfl, nI_add]
    · rw [h, if_neg (show ¬ nI 1 = 0 by decide), bd1s, if_neg (show ¬ nI 1 = 0 by decide), if_pos rfl]
  · show fX8_gusts_b60 x y q z i6 (nI s) _ _ (nI 3) u = _
    unfold fX8_gusts_b60
    rw [if_pos (by decide)]
    rfl
def fG (q : Int32) (b : Nat → Bool) (s : Nat) (x : Int32) : Int32 := x + (if b (gN s) = true then 0 else gO q s)
theorem gout {u : Um} {P W dd w p : Nat} {q z : Int32} (hV : VR (u.1 122) P W dd) (hw : w < W) (hp : p < P) : lp (fun s => fX8_gusts_b44 (nI w) (nI p) q z s.1 s.2 u) fuel ((0 : Int32), (0 : Int32)) = some (1, acc (fG q (fun k => decide (sSaid (u.1 122) w p - nI k < sNeed (u.1 122) w))) 0 8, nI 8) := by
  refine lp_end (body := fun s => fX8_gusts_b44 (nI w) (nI p) q z s.1 s.2 u) (fun k => (acc (fG q (fun k => decide (sSaid (u.1 122) w p - nI k < sNeed (u.1 122) w))) 0 k, nI k)) (m := 8) (e := 1) (by omega) (fun k hk => ?_) ?_ (by decide)
  · show fX8_gusts_b44 (nI w) (nI p) q z _ (nI k) u = _
    unfold fX8_gusts_b44 fX8_gusts_j146
    rw [if_neg (by rw [lel8 (by omega)]; omega), gin u _ _ _ _ _ hk, bd4s, said_m ln122 hV hw hp, bd1s, need_m ln122 hV hw, bd1s, acc_s]
    unfold fG
    simp only [nm, nI_1, decide_eq_true_eq]
    by_cases h : sSaid (u.1 122) w p - nI (gN k) < sNeed (u.1 122) w
    · rw [if_pos h, if_pos h]
    · rw [if_neg h, if_neg h]
  · show fX8_gusts_b44 (nI w) (nI p) q z _ (nI 8) u = _
    unfold fX8_gusts_b44
    rw [if_pos (by decide)]
def gC (q : Int32) (b0 b1 b2 b3 : Bool) : Int32 := (((0 + (if b0 = true then 0 else ((10 - q) * (10 - q)) * (10 - q))) + (if b1 = true then 0 else ((3 * q) * (10 - q)) * (10 - q))) + (if b2 = true then 0 else ((3 * q) * q) * (10 - q))) + (if b3 = true then 0 else (q * q) * q)
theorem gways (u : Um) (q s : Int32) : fX7_waysOfGusts q s u = some (gC q (decide (s < 0)) (decide (s < 1)) (decide (s < 2)) (decide (s < 3))) := by
  unfold fX7_waysOfGusts fX7_waysOfGusts_j19 fX7_waysOfGusts_j34 fX7_waysOfGusts_j49 gC
  simp only [nm, decide_eq_true_eq]
  by_cases h0 : s < 0 <;> by_cases h1 : s < 1 <;> by_cases h2 : s < 2 <;> by_cases h3 : s < 3 <;> simp [h0, h1, h2, h3]
theorem gsum : ∀ q, q < 11 → ∀ b0 b1 b2 b3 : Bool, acc (fG (nI q) (fun k => match k with | 0 => b0 | 1 => b1 | 2 => b2 | _ => b3)) 0 8 = gC (nI q) b0 b1 b2 b3 := by decide +kernel
def uZ : Um := (fun _ _ => 0, fun _ _ => 0)
noncomputable def gA (x : Int32) : Option (Nat × Int32 × Int32 × Int32) := lp (fun s => fX7_commonDivisor_b7 1000 x s.1 s.2.1 s.2.2 uZ) 5000 (1000, x, 0)
noncomputable def gB (x : Int32) : Option (Nat × Int32 × Int32) := lp (fun s => fX8_gusts_b164 0 0 0 0 0 s.1 s.2 uZ) 5000 (x, 1000)
noncomputable def gOK (x : Int32) : Bool := match gA x, gB x with
  | some (_, a, _, _), some (_, b, _) => decide (mxI 1 a = b) && decide (¬ b = 0)
  | _, _ => false
theorem gdec : ∀ q, q < 11 → ∀ b0 b1 b2 b3 : Bool, gOK (gC (nI q) b0 b1 b2 b3) = true := by decide +kernel
theorem ggcd {x : Int32} (h : gOK x = true) (u : Um) (a b c d e : Int32) : ∃ g z, ¬ g = 0 ∧ fX7_commonDivisor 1000 x u = some g ∧ lp (fun s => fX8_gusts_b164 a b c d e s.1 s.2 u) fuel (x, (1000 : Int32)) = some (1, g, z) := by
  unfold gOK at h
  have hA : lp (fun s => fX7_commonDivisor_b7 1000 x s.1 s.2.1 s.2.2 u) fuel (1000, x, (0 : Int32)) = gA x := by rw [fuel_eq]; rfl
  have hB : lp (fun s => fX8_gusts_b164 a b c d e s.1 s.2 u) fuel (x, (1000 : Int32)) = gB x := by rw [fuel_eq]; rfl
  have hB1 : ∀ (N : Nat) (s : Int32 × Int32) (k : Nat) (t : Int32 × Int32), lp (fun s => fX8_gusts_b164 a b c d e s.1 s.2 u) N s = some (k, t) → k = 1 := by
    intro N
    induction N with
    | zero => intro s k t h; cases h
    | succ N ih =>
      intro s k t h
      have h' : (fX8_gusts_b164 a b c d e s.1 s.2 u).bind (fun q => if q.1 = 0 then lp (fun s => fX8_gusts_b164 a b c d e s.1 s.2 u) N q.2 else some q) = some (k, t) := h
      unfold fX8_gusts_b164 at h'
      by_cases h0 : s.2 ≤ 0
      · rw [if_pos h0] at h'
        have h2 := Option.some.inj h'
        exact (congrArg Prod.fst h2).symm
      · rw [if_neg h0] at h'
        by_cases h00 : s.2 = 0
        · rw [if_pos h00] at h'; cases h'
        · rw [if_neg h00] at h'
          exact ih _ _ _ h'
  unfold fX7_commonDivisor
  rw [hA]
  cases hga : gA x with
  | none => rw [hga] at h; cases h
  | some va =>
    obtain ⟨n1, a1, a2, a3⟩ := va
    cases hgb : gB x with
    | none => rw [hga, hgb] at h; cases h
    | some vb =>
      obtain ⟨n2, b1, b2⟩ := vb
      rw [hga, hgb] at h
      have h3 := Bool.and_eq_true_iff.mp h
      have e1 : mxI 1 a1 = b1 := of_decide_eq_true h3.1
      have e2 : ¬ b1 = 0 := of_decide_eq_true h3.2
      have e3 : n2 = 1 := hB1 fuel _ _ _ (hB.trans hgb)
      refine ⟨b1, b2, e2, ?_, by rw [hB, hgb, e3]⟩
      rw [bd4s, e1]
theorem s_gusts (a b c d : Int32) : S11 (fX7_gusts a b c d) (fX8_gusts a b c d) := by
  intro u hI
  obtain ⟨P, W, dd, hV, hR, -, -⟩ := IvC_get hI.1
  unfold fX7_gusts fX8_gusts
  rcases ix_of c (n := 11) (by decide) with hc | ⟨q, hq, rfl⟩
  · rw [in_n (hi := 10) (hc.imp id (fun h => (last_lt (P := 11) (by decide)).mpr h)), bd1s, if_pos rfl]
    refine ⟨-1, ?_, rfl⟩
    by_cases h0 : c < 0
    · rw [if_pos h0]
    · rw [if_neg h0, if_pos (show (10 : Int32) < c from (last_lt (P := 11) (by decide)).mpr (hc.resolve_left h0))]
  rw [in_y (hi := 10) (nI_pos (by omega)) (by rw [ltl10 (by omega)]; omega), bd1s, if_neg i10, if_neg (nI_pos (n := q) (by omega)), if_neg (by rw [ltl10 (by omega)]; omega)]
  rcases ix_of d (n := 2) (by decide) with hd | ⟨z, hz, rfl⟩
  · rw [in01_n u hd, bd1s, if_pos rfl]
    refine ⟨-1, ?_, rfl⟩
    by_cases h0 : d < 0
    · rw [if_pos h0]
    · rw [if_neg h0, if_neg (show ¬ d ≤ 1 from fun h => Int32.not_le.mpr ((last_lt (P := 2) (by decide)).mpr (hd.resolve_left h0)) h)]
  rw [in01_y u hz, bd1s, if_neg i10, if_neg (nI_pos (n := z) (by omega)), if_pos ((ler1 (by omega)).mpr (by omega))]
  rcases why hV hR a b with ⟨r, h0, h1, h2⟩ | ⟨w, p, hw, hp, rfl, rfl, hm, h1, h2⟩
  · rw [h1, h2, bd1s, bd1s, if_neg h0, if_neg h0]
    exact ⟨r, rfl, rfl⟩
  rw [h1, h2, bd1s, bd1s, if_pos rfl, if_pos rfl, said_c hR hV hw hp, bd1s, need_c hR hV hw, bd1s, gout hV hw hp, bd3s]
  obtain ⟨x, y, hx, hy, ex, ey⟩ := sn_b hV hw hp
  rw [ex, ey]
  have cmp : ∀ k, k < 4 → (nI x - nI k < nI y ↔ nI x - nI y < nI k) := by
    intro k hk
    rw [Int32.lt_iff_toInt_lt, Int32.lt_iff_toInt_lt, pk_sub_toInt (by omega) (by omega), pk_sub_toInt (by omega) (by omega), nI_toInt (by omega), nI_toInt (by omega)]
    omega
  have hacc : acc (fG (nI q) (fun k => decide (nI x - nI k < nI y))) 0 8 = gC (nI q) (decide (nI x - nI y < 0)) (decide (nI x - nI y < 1)) (decide (nI x - nI y < 2)) (decide (nI x - nI y < 3)) := by
    rw [← gsum q hq]
    refine acc_ext (n := 8) (fun k v hk => ?_) 8 (Nat.le_refl _)
    unfold fG
    have hg : gN k < 4 := by
      show 0 + k / 2 ^ 0 % 2 + k / 2 ^ 1 % 2 + k / 2 ^ 2 % 2 < 4
      omega
    rcases (show gN k = 0 ∨ gN k = 1 ∨ gN k = 2 ∨ gN k = 3 by omega) with h | h | h | h <;> rw [h]
    · show v + (if decide (nI x - nI 0 < nI y) = true then 0 else gO (nI q) k) = v + (if decide (nI x - nI y < 0) = true then 0 else gO (nI q) k)
      rw [show decide (nI x - nI 0 < nI y) = decide (nI x - nI y < 0) from decide_eq_decide.mpr (cmp 0 (by decide))]
    · show v + (if decide (nI x - nI 1 < nI y) = true then 0 else gO (nI q) k) = v + (if decide (nI x - nI y < 1) = true then 0 else gO (nI q) k)
      rw [show decide (nI x - nI 1 < nI y) = decide (nI x - nI y < 1) from decide_eq_decide.mpr (cmp 1 (by decide))]
    · show v + (if decide (nI x - nI 2 < nI y) = true then 0 else gO (nI q) k) = v + (if decide (nI x - nI y < 2) = true then 0 else gO (nI q) k)
      rw [show decide (nI x - nI 2 < nI y) = decide (nI x - nI y < 2) from decide_eq_decide.mpr (cmp 2 (by decide))]
    · show v + (if decide (nI x - nI 3 < nI y) = true then 0 else gO (nI q) k) = v + (if decide (nI x - nI y < 3) = true then 0 else gO (nI q) k)
      rw [show decide (nI x - nI 3 < nI y) = decide (nI x - nI y < 3) from decide_eq_decide.mpr (cmp 3 (by decide))]
  rw [hacc]
  simp only [nm]
  rw [gways, bd1s]
  obtain ⟨g, t, g0, k1, k2⟩ := ggcd (gdec q hq (decide (nI x - nI y < 0)) (decide (nI x - nI y < 1)) (decide (nI x - nI y < 2)) (decide (nI x - nI y < 3))) u (nI w) (nI p) (nI q) (nI z) (gC (nI q) (decide (nI x - nI y < 0)) (decide (nI x - nI y < 1)) (decide (nI x - nI y < 2)) (decide (nI x - nI y < 3)))
  rw [k1, bd1s, k2, bd3s]
  unfold fX7_gusts_j90 fX8_gusts_j200
  simp only [if_neg g0]
  by_cases hz0 : nI z = 0
  · rw [if_pos hz0]; exact ⟨_, rfl, rfl⟩
  · rw [if_neg hz0]; exact ⟨_, rfl, rfl⟩
