/-! ===== sets as numbers; decades ===== -/
theorem nI_or (a b : Nat) : nI a ||| nI b = nI (a ||| b) := by
  refine Int32.toBitVec_inj.mp ?_
  rw [Int32.toBitVec_or]
  exact BitVec.ofNat_or.symm
theorem bitI_e {k : Nat} (hk : k < 31) : bitI k = nI (2 ^ k) := by
  unfold bitI
  have h2 : 2 ^ k < 2 ^ 31 := Nat.pow_lt_pow_right (by decide) hk
  have h : nI 1 <<< (nI k) = nI (1 * 2 ^ k) := pk_shlN (n := 1) (nI k) k (sh31 k (by omega)) (by omega)
  rw [k31 (by omega), show (1 : Int32) = nI 1 from rfl, h, Nat.one_mul]
def popc (m : Nat) : Nat := acc (fun k x => x + m / 2 ^ k % 2) 0 8
theorem popc_c : ∀ m, m < 256 → fJ6_bitCount_0f7a4 (nI m) uZ = some (nI (popc m)) := by decide +kernel
theorem popc_s : ∀ k, k < 8 → ∀ m, m < 2 ^ k → popc (m ||| 2 ^ k) = popc m + 1 ∧ (m ||| 2 ^ k) < 2 ^ (k + 1) := by decide +kernel
theorem popc_u {m : Nat} (h : m < 256) (u : Um) : fJ6_bitCount_0f7a4 (nI m) u = some (nI (popc m)) := popc_c m h
def mOpen (c : Nat → Int32) (k x : Nat) : Nat := if c (75 + k) = -4 then x ||| 2 ^ k else x
def nOpen (c : Nat → Int32) (k x : Nat) : Nat := if c (75 + k) = -4 then x else x + 1
theorem mOpen_s (c : Nat → Int32) : ∀ k, k ≤ 8 → acc (fOpen c) 0 k = nI (acc (mOpen c) 0 k) ∧ acc (mOpen c) 0 k < 2 ^ k ∧ popc (acc (mOpen c) 0 k) + acc (nOpen c) 0 k = k
  | 0, _ => ⟨rfl, show 0 < 2 ^ 0 by decide, show popc 0 + 0 = 0 by decide⟩
  | k + 1, hk => by
    obtain ⟨h1, h2, h3⟩ := mOpen_s c k (by omega)
    rw [acc_s, acc_s, acc_s, h1]
    by_cases h : c (75 + k) = -4
    · rw [show ∀ x, fOpen c k x = x ||| bitI k from fun x => if_pos h, show ∀ x, mOpen c k x = x ||| 2 ^ k from fun x => if_pos h, show ∀ x, nOpen c k x = x from fun x => if_pos h, bitI_e (by omega), nI_or]
      obtain ⟨p1, p2⟩ := popc_s k (by omega) _ h2
      exact ⟨rfl, p2, by omega⟩
    · rw [show ∀ x, fOpen c k x = x from fun x => if_neg h, show ∀ x, mOpen c k x = x from fun x => if_neg h, show ∀ x, nOpen c k x = x + 1 from fun x => if_neg h]
      refine ⟨rfl, ?_, by omega⟩
      have : 2 ^ (k + 1) = 2 * 2 ^ k := by rw [Nat.pow_succ]; omega
      omega
theorem forg_c {u : Um} {a P W dd : Nat} {c : Nat → Int32} (hR : RC u a c P W) (hV : VR c P W dd) : fX0_forgiven a u = some (nI (acc (nOpen c) 0 W)) := by
  have hW := hV.2.2.2.2.1
  obtain ⟨h1, h2, h3⟩ := mOpen_s c W hW
  have h256 : acc (mOpen c) 0 W < 256 := Nat.lt_of_lt_of_le h2 (Nat.pow_le_pow_right (n := 2) (by decide) hW)
  unfold fX0_forgiven
  rw [openS_c hR hV, bd1s, h1, popc_u h256, bd1s, hR.2.1, hV.2.1, pk_sub (by omega)]
  congr 2
  omega
theorem forg_m {u : Um} {s P W dd : Nat} (hs : ln s = 83) (hV : VR (u.1 s) P W dd) : fX8_forgivenOnes s u = some (nI (acc (nOpen (u.1 s)) 0 W)) := by
  have hW := hV.2.2.2.2.1
  have b2 : inb 2 (ln s) = true := by rw [hs]; exact b283
  unfold fX8_forgivenOnes
  have h := lp_end (body := fun q => fX8_forgivenOnes_b4 s q.1 q.2 u) (fun k => (nI (acc (nOpen (u.1 s)) 0 k), nI k)) (m := W) (e := 1) (s' := (nI (acc (nOpen (u.1 s)) 0 W), nI W)) (by omega) (fun k hk => ?_) ?_ (by decide)
  · rw [show ((0 : Int32), (0 : Int32)) = (nI (acc (nOpen (u.1 s)) 0 0), nI 0) from rfl, h, bd3s]
  · show fX8_forgivenOnes_b4 s _ (nI k) u = _
    unfold fX8_forgivenOnes_b4 fX8_forgivenOnes_j28
    rw [if_pos b2, cl2, hV.2.1, if_neg (nI_ge hk (by omega)), if_pos (ib75 hs (by omega)), ix75 (by omega), acc_s]
    unfold nOpen
    simp only [nm, nI_1]
    by_cases h4 : u.1 s (75 + k) = -4
    · rw [if_pos h4, if_pos h4, Int32.add_zero]
    · rw [if_neg h4, if_neg h4]
  · show fX8_forgivenOnes_b4 s _ (nI W) u = _
    unfold fX8_forgivenOnes_b4
    rw [if_pos b2, cl2, hV.2.1, if_pos (nI_le (Nat.le_refl _) (by omega))]
def rX (s : Nat) : Nat → Nat
  | 0 => s
  | k + 1 => rX s k * 16807 % 2147483647
theorem rX_lt {s : Nat} (h : s < 2147483647) : ∀ k, rX s k < 2147483647
  | 0 => h
  | k + 1 => Nat.mod_lt _ (by decide)
noncomputable def sStep (c : Nat → Int32) (w p : Nat) : Nat → Int32 := @ite _ (sMay c w p) (Classical.propDecidable _) (sCar c w p) (upd c 0 (c 0 + 1))
theorem sStep_y {c : Nat → Int32} {w p : Nat} (h : sMay c w p) : sStep c w p = sCar c w p := by unfold sStep; exact if_pos h
theorem sStep_n {c : Nat → Int32} {w p : Nat} (h : ¬ sMay c w p) : sStep c w p = upd c 0 (c 0 + 1) := by unfold sStep; exact if_neg h
noncomputable def rRow (c : Nat → Int32) (P W s k : Nat) : Nat → Int32 := acc (fun k c => sStep c (rX s (k + 1) % W) (rX s (k + 1) / 16 % P)) c k
theorem rRow_s (c : Nat → Int32) (P W s k : Nat) : rRow c P W s (k + 1) = sStep (rRow c P W s k) (rX s (k + 1) % W) (rX s (k + 1) / 16 % P) := rfl
theorem sStep_VR {c : Nat → Int32} {P W dd w p : Nat} (h : VR c P W dd) (hw : w < W) (hp : p < P) (hd : dd + 1 ≤ 20000) : VR (sStep c w p) P W (dd + 1) := by
  by_cases hm : sMay c w p
  · rw [sStep_y hm]; exact sCar_VR h hw hp hd
  · rw [sStep_n hm, h.2.2.1, nI_1]; exact VR_day h hd
theorem rRow_VR {c : Nat → Int32} {P W dd s : Nat} (h : VR c P W dd) (hP : 2 ≤ P) (hW : 1 ≤ W) (hd : dd ≤ 9999) : ∀ k, k ≤ 60 → VR (rRow c P W s k) P W (dd + k)
  | 0, _ => h
  | k + 1, hk => by
    rw [rRow_s]
    show VR _ P W (dd + k + 1)
    exact sStep_VR (rRow_VR h hP hW hd k (by omega)) (Nat.mod_lt _ (by omega)) (Nat.mod_lt _ (by omega)) (by omega)
theorem lrmN {a b : Nat} (ha : a < 2 ^ 63) (h0 : 0 < b) (hb : b < 2 ^ 63) : lrm (lN a) (lN b) = lN (a % b) := pk_lRem ha h0 hb
theorem dr_x {x : Nat} (hx : x < 2147483647) : lrm (16807 * lN x) 2147483647 = lN (x * 16807 % 2147483647) ∧ lrm (lN x * 16807) 2147483647 = lN (x * 16807 % 2147483647) := by
  have e1 : (16807 * lN x : Int64) = lN (x * 16807) := by rw [show (16807 : Int64) = lN 16807 from rfl, lN_mul, Nat.mul_comm]
  have e2 : (lN x * 16807 : Int64) = lN (x * 16807) := by rw [show (16807 : Int64) = lN 16807 from rfl, lN_mul]
  rw [e1, e2]
  have := lrmN (a := x * 16807) (b := 2147483647) (by omega) (by decide) (by decide)
  exact ⟨this, this⟩
theorem dr_w {x W : Nat} (hx : x < 2147483647) (h0 : 0 < W) (hW : W < 100) : ¬ (nI W).toInt64 = 0 ∧ (lrm (lN x) (nI W).toInt64).toInt32 = nI (x % W) ∧ (lrm (lN x / 16) (nI W).toInt64).toInt32 = nI (x / 16 % W) := by
  rw [nI_l (by omega)]
  refine ⟨fun h => ?_, ?_, ?_⟩
  · have := (pk_lEQ (a := W) (b := 0) (by omega) (by decide)).mp h
    omega
  · rw [lrmN (by omega) h0 (by omega), lN_i]
  · rw [show (lN x / 16 : Int64) = lN (x / 16) from pk_lDiv (b := 16) (by omega) (by decide) (by decide), lrmN (by omega) h0 (by omega), lN_i]
theorem draw_c {u : Um} {P W dd n sd : Nat} {c : Nat → Int32} (hR : RC u 6 c P W) (hV : VR c P W dd) (hP2 : 2 ≤ P) (hW1 : 1 ≤ W) (hd : dd ≤ 9999) (hn : n ≤ 60) (hs : sd < 2147483647) : ∃ u', fX7_drawDays 6 (nI n) (nI sd) u = some u' ∧ (∀ k, k ≠ 6 → k ≠ 7 → k ≠ 8 → u'.1 k = u.1 k) ∧ u'.2 = u.2 ∧ RC u' 6 (rRow c P W sd n) P W := by
  have hP := hV.2.2.2.1
  have hW := hV.2.2.2.2.1
  obtain ⟨e, q, h, h1, h2, h3⟩ := lp_inv (body := fun s : Int64 × Int32 × Um => fX7_drawDays_b30 6 (nI n) (nI sd) (nI P) (nI W) s.1 s.2.1 s.2.2) (fun k s => s.1 = lN (rX sd k) ∧ s.2.1 = nI k ∧ (∀ k, k ≠ 6 → k ≠ 7 → k ≠ 8 → s.2.2.1 k = u.1 k) ∧ s.2.2.2 = u.2 ∧ RC s.2.2 6 (rRow c P W sd k) P W) (fun e s => (∀ k, k ≠ 6 → k ≠ 7 → k ≠ 8 → s.2.2.1 k = u.1 k) ∧ s.2.2.2 = u.2 ∧ RC s.2.2 6 (rRow c P W sd n) P W) n (by omega) (fun k s hk hs' => by
    obtain ⟨x, y, w⟩ := s
    obtain ⟨h1, h2, h3, h4, h5⟩ := hs'
    dsimp only at h1 h2 h3 h4 h5
    subst h1; subst h2
    show (_ ∧ ∃ s', fX7_drawDays_b30 6 (nI n) (nI sd) (nI P) (nI W) (lN (rX sd k)) (nI k) w = _ ∧ _) ∨ (∃ e s', _ ∧ fX7_drawDays_b30 6 (nI n) (nI sd) (nI P) (nI W) (lN (rX sd k)) (nI k) w = _ ∧ _)
    unfold fX7_drawDays_b30 fX7_drawDays_j96
    by_cases hkn : k < n
    · have hVk := rRow_VR (s := sd) hV hP2 hW1 hd k (by omega)
      have hx := rX_lt hs (k + 1)
      have ew := dr_w hx (show 0 < W by omega) (by omega)
      have ep := dr_w hx (show 0 < P by omega) (by omega)
      have hw' : rX sd (k + 1) % W < W := Nat.mod_lt _ (by omega)
      have hp' : rX sd (k + 1) / 16 % P < P := Nat.mod_lt _ (by omega)
      rw [if_neg (nI_ge hkn (by omega)), (dr_x (rX_lt hs k)).1]
      simp only [nm]
      rw [show rX sd k * 16807 % 2147483647 = rX sd (k + 1) from rfl, if_neg ew.1, if_neg ep.1, ew.2.1, ep.2.2, nI_1]
      refine Or.inl ⟨hkn, ?_⟩
      by_cases hm : sMay (rRow c P W sd k) (rX sd (k + 1) % W) (rX sd (k + 1) / 16 % P)
      · obtain ⟨u', e1, f1, f2, f3⟩ := del_c h5 hVk hw' hp'
        rw [(may_c h5 hVk hw' hp').1 hm, bd1s, if_neg i10, e1, bd2s]
        refine ⟨_, rfl, rfl, rfl, fun k' a1 a2 a3 => by rw [f1 k' a1 a2 a3]; exact h3 k' a1 a2 a3, f2.trans h4, ?_⟩
        rw [rRow_s, sStep_y hm]
        exact f3
      · obtain ⟨e1, f1⟩ := day_c (dd := 0) h5 hP hW
        rw [(may_c h5 hVk hw' hp').2 hm, bd1s, if_pos rfl, e1, bd1s]
        refine ⟨_, rfl, rfl, rfl, fun k' a1 a2 a3 => by rw [sI_ne a1]; exact h3 k' a1 a2 a3, h4, ?_⟩
        rw [rRow_s, sStep_n hm]
        exact f1
    · have : k = n := by omega
      subst this
      rw [if_pos (nI_le (Nat.le_refl _) (by omega))]
      exact Or.inr ⟨1, _, by decide, rfl, h3, h4, h5⟩) (s := (lN sd, (0 : Int32), u)) ⟨rfl, rfl, fun _ _ _ _ => rfl, rfl, hR⟩
  refine ⟨q.2.2, ?_, h1, h2, h3⟩
  unfold fX7_drawDays fX0_people fX0_wrongs
  rw [bd1s, bd1s, hR.1, hV.1, hR.2.1, hV.2.1, if_neg (by rw [ltr1 (by omega)]; omega), if_pos ((lel1 (by omega)).mpr hW1)]
  simp only [nm]
  rw [nI_l (by omega), h]
  rfl
theorem draw_m {u : Um} {P W dd n sd : Nat} {z y : Int32} (hV : VR (u.1 124) P W dd) (hP2 : 2 ≤ P) (hW1 : 1 ≤ W) (hd : dd ≤ 9999) (hn : n ≤ 60) (hs : sd < 2147483647) : lp (fun s : Int64 × Int32 × Um => fX8_decades_b52 (nI n) z y s.1 s.2.1 s.2.2) fuel (lN sd, (0 : Int32), u) = some (1, lN (rX sd n), nI n, sIr u 124 (rRow (u.1 124) P W sd n)) := by
  have hP := hV.2.2.2.1
  have hW := hV.2.2.2.2.1
  have h := lp_end (body := fun s : Int64 × Int32 × Um => fX8_decades_b52 (nI n) z y s.1 s.2.1 s.2.2) (fun k => (lN (rX sd k), nI k, sIr u 124 (rRow (u.1 124) P W sd k))) (m := n) (e := 1) (s' := (lN (rX sd n), nI n, sIr u 124 (rRow (u.1 124) P W sd n))) (by omega) (fun k hk => ?_) ?_ (by decide)
  · rw [show (lN sd, (0 : Int32), u) = (lN (rX sd 0), nI 0, sIr u 124 (rRow (u.1 124) P W sd 0)) from by rw [show rRow (u.1 124) P W sd 0 = u.1 124 from rfl, sIr_self]; rfl, h]
  · show fX8_decades_b52 (nI n) z y (lN (rX sd k)) (nI k) _ = _
    have hVk := rRow_VR (s := sd) hV hP2 hW1 hd k (by omega)
    have hx := rX_lt hs (k + 1)
    have ew := dr_w hx (show 0 < W by omega) (by omega)
    have ep := dr_w hx (show 0 < P by omega) (by omega)
    have hw' : rX sd (k + 1) % W < W := Nat.mod_lt _ (by omega)
    have hp' : rX sd (k + 1) / 16 % P < P := Nat.mod_lt _ (by omega)
    have hVs : VR ((sIr u 124 (rRow (u.1 124) P W sd k)).1 124) P W (dd + k) := by rw [sIr_at]; exact hVk
    unfold fX8_decades_b52 fX8_decades_j139
    rw [if_neg (nI_ge hk (by omega)), (dr_x (rX_lt hs k)).2]
    simp only [nm]
    rw [show rX sd k * 16807 % 2147483647 = rX sd (k + 1) from rfl, if_pos b283, cl2, hVs.2.1, if_neg ew.1, if_pos b183, cl1, hVs.1, if_neg ep.1, ew.2.1, ep.2.2, nI_1, rRow_s]
    by_cases hm : sMay (rRow (u.1 124) P W sd k) (rX sd (k + 1) % W) (rX sd (k + 1) / 16 % P)
    · rw [(may_m ln124 hVs hw' hp').1 (by rw [sIr_at]; exact hm), bd1s, if_neg i10, car_m ln124 hVs hw' hp', bd2s, sIr_at, sStep_y hm]
      congr 4
      unfold sIr
      refine Prod.ext (funext fun j => ?_) rfl
      by_cases hj : j = 124 <;> simp [hj]
    · rw [(may_m ln124 hVs hw' hp').2 (by rw [sIr_at]; exact hm), bd1s, if_pos rfl, if_pos b083, if_pos b083, cl0, sI_sIr, sIr_at, sStep_n hm]
  · show fX8_decades_b52 (nI n) z y (lN (rX sd n)) (nI n) _ = _
    unfold fX8_decades_b52
    rw [if_pos (nI_le (Nat.le_refl _) (by omega))]
theorem mOpen_congr {c c' : Nat → Int32} {W : Nat} (hW : W ≤ 8) (e : ∀ i, i < 83 → c' i = c i) : acc (nOpen c') 0 W = acc (nOpen c) 0 W := by
  refine acc_ext (n := W) (fun k x hk => ?_) W (Nat.le_refl _)
  unfold nOpen
  rw [e _ (by omega)]
theorem fWon_congr {c c' : Nat → Int32} {P : Nat} (hP : P ≤ 6) (e : ∀ i, i < 83 → c' i = c i) : acc (fWon c') 0 P = acc (fWon c) 0 P := by
  refine acc_ext (n := P) (fun k x hk => ?_) P (Nat.le_refl _)
  unfold fWon
  rw [e _ (by omega)]
/-- rows that agree on their 83 places -/
def eq83 (c' c : Nat → Int32) : Prop := ∀ i, i < 83 → c' i = c i
theorem upd83 {c c' : Nat → Int32} (e : eq83 c' c) (k : Nat) {v v' : Int32} (hv : v' = v) : eq83 (upd c' k v') (upd c k v) := by
  intro i hi
  by_cases h : i = k
  · subst h; rw [pk_us, pk_us, hv]
  · rw [pk_un h, pk_un h]; exact e i hi
theorem spec83 {c c' : Nat → Int32} {P W dd w p : Nat} (hV : VR c P W dd) (hw : w < W) (hp : p < P) (e : eq83 c' c) : sNeed c' w = sNeed c w ∧ sMil c' w p = sMil c w p ∧ sSaid c' w p = sSaid c w p ∧ sCom c' w p = sCom c w p ∧ (sMay c' w p ↔ sMay c w p) := by
  have hP := hV.2.2.2.1
  have hW := hV.2.2.2.2.1
  obtain ⟨q, q1, q2, q3⟩ := whom_of hV hw
  have e1 : sNeed c' w = sNeed c w := by
    unfold sNeed
    rw [e (59 + w) (by omega), q3, e _ (by omega), e _ (by omega)]
  have e2 : sMil c' w p = sMil c w p := by
    unfold sMil
    rw [e (59 + w) (by omega), q3, e _ (by omega), e _ (by omega)]
  have e3 : sSaid c' w p = sSaid c w p := by
    unfold sSaid
    rw [e2, e _ (by omega), e _ (by omega), e _ (by omega)]
  refine ⟨e1, e2, e3, ?_, ?_⟩
  · unfold sCom
    rw [e1, e3, e (59 + w) (by omega), q3, e _ (by omega)]
  · unfold sMay
    rw [e (59 + w) (by omega), q3, e _ (by omega), e _ (by omega), e _ (by omega), e _ (by omega), e _ (by omega), e _ (by omega)]
theorem car83 {c c' : Nat → Int32} {P W dd w p : Nat} (hV : VR c P W dd) (hw : w < W) (hp : p < P) (e : eq83 c' c) : eq83 (sCar c' w p) (sCar c w p) := by
  have hP := hV.2.2.2.1
  have hW := hV.2.2.2.2.1
  obtain ⟨q, q1, q2, q3⟩ := whom_of hV hw
  obtain ⟨-, -, -, k4, -⟩ := spec83 hV hw hp e
  have h1 : eq83 (sC1 c' w p) (sC1 c w p) := by
    unfold sC1
    rw [k4]
    by_cases h0 : sCom c w p = 0
    · rw [if_pos h0, if_pos h0]
      exact upd83 e _ (by rw [e _ (by omega), e _ (by omega)])
    · rw [if_neg h0, if_neg h0]
      exact upd83 e _ rfl
  have h2 : eq83 (sC2 (sCom c w p) (sC1 c' w p) p q) (sC2 (sCom c w p) (sC1 c w p) p q) := by
    unfold sC2
    by_cases h0 : sCom c w p = 2
    · rw [if_pos h0, if_pos h0]
      exact upd83 (upd83 h1 _ rfl) _ rfl
    · rw [if_neg h0, if_neg h0]
      exact h1
  unfold sCar
  rw [k4, e (59 + w) (by omega), q3]
  unfold sC3
  refine upd83 (upd83 (upd83 h2 _ (h2 _ (by omega))) _ ?_) _ ?_
  · rw [h2 _ (by omega)]
  · rw [h2 _ (by omega)]
theorem step83 {c c' : Nat → Int32} {P W dd w p : Nat} (hV : VR c P W dd) (hw : w < W) (hp : p < P) (e : eq83 c' c) : eq83 (sStep c' w p) (sStep c w p) := by
  obtain ⟨-, -, -, -, k5⟩ := spec83 hV hw hp e
  by_cases hm : sMay c w p
  · rw [sStep_y hm, sStep_y (k5.mpr hm)]; exact car83 hV hw hp e
  · rw [sStep_n hm, sStep_n (fun h => hm (k5.mp h))]
    exact upd83 e _ (by rw [e 0 (by decide)])
theorem rRow83 {c c' : Nat → Int32} {P W dd s : Nat} (hV : VR c P W dd) (hP2 : 2 ≤ P) (hW1 : 1 ≤ W) (hd : dd ≤ 9999) (e : eq83 c' c) : ∀ k, k ≤ 60 → eq83 (rRow c' P W s k) (rRow c P W s k)
  | 0, _ => e
  | k + 1, hk => by
    rw [rRow_s, rRow_s]
    exact step83 (rRow_VR hV hP2 hW1 hd k (by omega)) (Nat.mod_lt _ (by omega)) (Nat.mod_lt _ (by omega)) (rRow83 hV hP2 hW1 hd e k (by omega))
theorem s_decades (a b c : Int32) : S22 (fX7_decades a b c) (fX8_decades a b c) := by
  intro u hI
  unfold fX7_decades fX8_decades
  rcases ix_of a (n := 61) (by decide) with ha | ⟨n, hn, rfl⟩
  · refine ⟨-1, u, u, ?_, ?_, hI⟩
    · by_cases h0 : a < 0
      · rw [if_pos h0]
      · rw [if_neg h0, if_pos (show (60 : Int32) < a from (last_lt (P := 61) (by decide)).mpr (ha.resolve_left h0))]
    · rw [in_n (hi := 60) (ha.imp id (fun h => (last_lt (P := 61) (by decide)).mpr h)), bd1s, if_pos rfl]
  have l60 : ¬ (60 : Int32) < nI n := nI_nlt (b := n) (a := 60) (by omega) (by decide)
  have hina : ∀ v : Um, fX8_in (nI n) 0 60 v = some 1 := fun v => in_y (nI_pos (by omega)) l60
  rw [if_neg (nI_pos (n := n) (by omega)), if_neg l60]
  by_cases hb1 : b < 1
  · refine ⟨-1, u, u, ?_, ?_, hI⟩
    · rw [if_pos hb1]
    · rw [hina, bd1s, if_neg i10, in_n (Or.inl hb1), bd1s, if_pos rfl]
  by_cases hb9 : 999999 < b
  · refine ⟨-1, u, u, ?_, ?_, hI⟩
    · rw [if_neg hb1, if_pos hb9]
    · rw [hina, bd1s, if_neg i10, in_n (Or.inr hb9), bd1s, if_pos rfl]
  rw [if_neg hb1, if_neg hb9]
  have hinb : ∀ v : Um, fX8_in b 1 999999 v = some 1 := fun v => in_y hb1 hb9
  obtain ⟨sd, hsd, rfl⟩ : ∃ j : Nat, j ≤ 999999 ∧ b = nI j := nI_of2 (M := 999999) (by decide) (fun h => hb1 (Int32.lt_trans h (by decide))) (Int32.not_lt.mp hb9)
  rcases ix_of c (n := 2) (by decide) with hc | ⟨z, hz, rfl⟩
  · refine ⟨-1, u, u, ?_, ?_, hI⟩
    · by_cases h0 : c < 0
      · rw [if_pos h0]
      · rw [if_neg h0, if_neg (show ¬ c ≤ 1 from fun h => Int32.not_le.mpr ((last_lt (P := 2) (by decide)).mpr (hc.resolve_left h0)) h)]
    · rw [hina, bd1s, if_neg i10, hinb, bd1s, if_neg i10, in01_n u hc, bd1s, if_pos rfl]
  rw [if_neg (nI_pos (n := z) (by omega)), if_pos ((ler1 (by omega)).mpr (by omega))]
  rcases stand_or hI.1 with ⟨h1, h2, -⟩ | ⟨h1, h2, hC⟩
  · refine ⟨-2, u, u, ?_, ?_, hI⟩
    · rw [h1, bd1s, if_pos rfl]
    · rw [hina, bd1s, if_neg i10, hinb, bd1s, if_neg i10, in01_y u hz, bd1s, if_neg i10, h2, bd1s, if_pos rfl]
  obtain ⟨P, W, dd, hP2, hW1, hd, hV, hR⟩ := hC
  have hP := hV.2.2.2.1
  have hW := hV.2.2.2.2.1
  obtain ⟨u1, e1, f1, f2, f3, f4, f5, f6, f7⟩ := copy_spec (a := 6) (b := 3) (by omega) u
  have hR1 : RC u1 6 (u.1 122) P W := RC_copy hR hP hW f3 f4 f5 f6 f7
  obtain ⟨u2, e2, g1, g2, hR2⟩ := draw_c (n := n) (sd := sd) hR1 hV hP2 hW1 hd (by omega) (by omega)
  have q122 : u2.1 122 = u.1 122 := by rw [g1 122 (by decide) (by decide) (by decide), f1 122 (by decide) (by decide) (by decide)]
  obtain ⟨u3, e3, k1, k2, k3⟩ := begin_m u2
  rw [q122] at k3
  have hV3 : VR (u3.1 124) P W dd := VR_congr hV k3
  have e4 := draw_m (z := nI sd) (y := nI z) (sd := sd) hV3 hP2 hW1 hd (show n ≤ 60 by omega) (by omega)
  have hVn := rRow_VR (s := sd) hV hP2 hW1 hd n (by omega)
  have h83 := rRow83 (s := sd) hV hP2 hW1 hd k3 n (by omega)
  have hV4 : VR ((sIr u3 124 (rRow (u3.1 124) P W sd n)).1 124) P W (dd + n) := by rw [sIr_at]; exact VR_congr hVn h83
  have hI4 : Inv (sIr u3 124 (rRow (u3.1 124) P W sd n)) := Inv_fr hI (fun k hk => by rw [sIr_ne (by omega), k1 k (by omega), g1 k (by omega) (by omega) (by omega), f1 k (by omega) (by omega) (by omega)]) (by rw [sIr_ne (by omega), k1 117 (by omega), g1 117 (by omega) (by omega) (by omega), f1 117 (by omega) (by omega) (by omega)]) (by rw [sIr_ne (by omega), k1 117 (by omega), g1 117 (by omega) (by omega) (by omega), f1 117 (by omega) (by omega) (by omega)]) (by rw [sIr_2, k2, g2, f2])
  have ref : ∀ r : Int32, (if nI z = 0 then fX8_forgivenOnes 124 (sIr u3 124 (rRow (u3.1 124) P W sd n)) else fX8_wonOnes 124 (sIr u3 124 (rRow (u3.1 124) P W sd n))) = some r → fX8_decades (nI n) (nI sd) (nI z) u2 = some (r, sIr u3 124 (rRow (u3.1 124) P W sd n)) := by
    intro r hr
    unfold fX8_decades
    rw [hina, bd1s, if_neg i10, hinb, bd1s, if_neg i10, in01_y u2 hz, bd1s, if_neg i10, there_fr q122, h2, bd1s, if_neg i10, e3, bd1s]
    simp only [nm]
    rw [nI_l (by omega), e4, bd4s]
    by_cases hz0 : nI z = 0
    · rw [if_pos hz0] at hr ⊢; rw [hr, bd1s]
    · rw [if_neg hz0] at hr ⊢; rw [hr, bd1s]
  rw [h1, bd1s, if_neg i10, e1, bd1s, e2, bd1s]
  by_cases hz0 : nI z = 0
  · rw [if_pos hz0, forg_c hR2 hVn, bd1s]
    refine ⟨_, u2, _, rfl, ref _ ?_, hI4⟩
    rw [if_pos hz0, forg_m ln124 hV4, sIr_at, mOpen_congr hW h83]
  · rw [if_neg hz0, wonS_c hR2 hVn, bd1s]
    refine ⟨_, u2, _, rfl, ref _ ?_, hI4⟩
    rw [if_neg hz0, wonS_m ln124 hV4, sIr_at, fWon_congr hP h83]
