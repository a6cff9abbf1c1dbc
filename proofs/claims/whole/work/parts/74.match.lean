/-! ===== MATCH in the class's memory ===== -/
noncomputable def oN (c : Nat → Int32) (P W w p : Nat) : Nat := @ite _ (w < W ∧ p < P ∧ sMay c w p) (Classical.propDecidable _) (nN (sCom c w p)) 0
theorem com_3 (c : Nat → Int32) (w p : Nat) : sCom c w p = nI 0 ∨ sCom c w p = nI 1 ∨ sCom c w p = nI 2 := by
  unfold sCom
  split
  · split
    · exact Or.inr (Or.inl rfl)
    · split
      · exact Or.inr (Or.inr rfl)
      · exact Or.inr (Or.inl rfl)
  · exact Or.inl rfl
theorem oN_y {c : Nat → Int32} {P W w p : Nat} (hw : w < W) (hp : p < P) (hm : sMay c w p) : sCom c w p = nI (oN c P W w p) ∧ oN c P W w p ≤ 2 := by
  have e : oN c P W w p = nN (sCom c w p) := if_pos ⟨hw, hp, hm⟩
  rw [e]
  rcases com_3 c w p with h | h | h <;> rw [h]
  · exact ⟨rfl, by decide⟩
  · exact ⟨rfl, by decide⟩
  · exact ⟨rfl, by decide⟩
theorem oN_n {c : Nat → Int32} {P W w p : Nat} (h : ¬ (w < W ∧ p < P ∧ sMay c w p)) : oN c P W w p = 0 := if_neg h
def wv (K o : Nat) : Nat := if o = 0 then 0 else if o = 1 then K else K - 1
theorem may_out {u : Um} {a P W dd w p : Nat} {c : Nat → Int32} (hR : RC u a c P W) (hV : VR c P W dd) (hw8 : w < 8) (hp6 : p < 6) (h : ¬ (w < W ∧ p < P)) : fX0_mayCarry a (nI w) (nI p) u = some 0 := by
  have hP := hV.2.2.2.1
  have hW := hV.2.2.2.2.1
  unfold fX0_mayCarry
  by_cases hw : w < W
  · have hp : ¬ p < P := fun hp => h ⟨hw, hp⟩
    rw [hasW_y (hR.2.1.trans hV.2.1) hW hw, bd1s, if_neg i10, hasP_n (hR.1.trans hV.1) (Or.inr (nI_le (by omega) (by omega))), bd1s, if_pos rfl]
  · rw [hasW_n (hR.2.1.trans hV.2.1) (Or.inr (nI_le (by omega) (by omega))), bd1s, if_pos rfl]
def TB (u : Um) (o : Nat → Nat → Nat) : Prop := ∀ w p, w < 8 → p < 6 → u.1 100 (6 * w + p) = nI (wv 16 (o w p))
theorem weigh_c {u : Um} {P W dd : Nat} {c : Nat → Int32} (hR : RC u 3 c P W) (hV : VR c P W dd) : ∃ u', fX2_weigh 3 u = some u' ∧ (∀ k, k ≠ 100 → u'.1 k = u.1 k) ∧ u'.2 = u.2 ∧ TB u' (oN c P W) := by
  have hP := hV.2.2.2.1
  have hW := hV.2.2.2.2.1
  unfold fX2_weigh
  obtain ⟨e, q, h, h1, h2, h3⟩ := lp_inv (body := fun s : Int32 × Um => fX2_weigh_b2 3 s.1 s.2) (fun k s => s.1 = nI k ∧ (∀ r, r ≠ 100 → s.2.1 r = u.1 r) ∧ s.2.2 = u.2 ∧ ∀ j, j < k → s.2.1 100 j = nI (wv 16 (oN c P W (j / 6) (j % 6)))) (fun e s => (∀ r, r ≠ 100 → s.2.1 r = u.1 r) ∧ s.2.2 = u.2 ∧ ∀ j, j < 48 → s.2.1 100 j = nI (wv 16 (oN c P W (j / 6) (j % 6)))) 48 (by omega) (fun k s hk hs' => by
    obtain ⟨x, w⟩ := s
    obtain ⟨h1, h2, h3, h4⟩ := hs'
    dsimp only at h1 h2 h3 h4
    subst h1
    show (_ ∧ ∃ s', fX2_weigh_b2 3 (nI k) w = _ ∧ _) ∨ (∃ e s', _ ∧ fX2_weigh_b2 3 (nI k) w = _ ∧ _)
    unfold fX2_weigh_b2
    by_cases hk48 : k < 48
    · have hRw : RC w 3 c P W := RC_fr hR (h2 3 (by decide)) (h2 4 (by decide)) (h2 5 (by decide))
      have e1 : (nI k / 6 : Int32) = nI (k / 6) := pk_div (d := 6) (by omega) (by decide) (by decide)
      have e2 : irm (nI k) 6 = nI (k % 6) := irmN (d := 6) (by omega) (by decide) (by decide)
      have j43 : ∀ z : Nat, z ≤ 2 → fX2_weigh_j43 3 (nI k) (nI z) w = some (0, nI (k + 1), sI w 100 k (nI (wv 16 z))) := by
        intro z hz
        unfold fX2_weigh_j43 fX2_weigh_j72
        rw [if_pos (inbN hk48 (by decide)), nI_clamp (by omega), nI_1]
        simp only [nm, if_pos (inbN hk48 (show 48 < 2 ^ 31 by decide)), nI_clamp (show k < 2 ^ 31 by omega)]
        rcases (show z = 0 ∨ z = 1 ∨ z = 2 by omega) with rfl | rfl | rfl <;> rfl
      have hval : ∃ z : Nat, z ≤ 2 ∧ z = oN c P W (k / 6) (k % 6) ∧ (bd1 (fX0_mayCarry 3 (nI (k / 6)) (nI (k % 6)) w) fun v4 => if v4 = 0 then fX2_weigh_j43 3 (nI k) 0 w else bd1 (fX0_outcome 3 (nI (k / 6)) (nI (k % 6)) w) fun v8 => fX2_weigh_j43 3 (nI k) v8 w) = fX2_weigh_j43 3 (nI k) (nI z) w := by
        by_cases hr : k / 6 < W ∧ k % 6 < P
        · by_cases hm : sMay c (k / 6) (k % 6)
          · obtain ⟨o1, o2⟩ := oN_y hr.1 hr.2 hm
            refine ⟨_, o2, rfl, ?_⟩
            rw [(may_c hRw hV hr.1 hr.2).1 hm, bd1s, if_neg i10, com_c hRw hV hr.1 hr.2 (sn_b hV hr.1 hr.2), bd1s, o1]
          · refine ⟨0, by decide, (oN_n (fun h => hm h.2.2)).symm, ?_⟩
            rw [(may_c hRw hV hr.1 hr.2).2 hm, bd1s, if_pos rfl]
            rfl
        · refine ⟨0, by decide, (oN_n (fun h => hr ⟨h.1, h.2.1⟩)).symm, ?_⟩
          rw [may_out hRw hV (by omega) (by omega) hr, bd1s, if_pos rfl]
          rfl
      obtain ⟨z, z2, z3, z4⟩ := hval
      rw [if_neg (show ¬ (48 : Int32) ≤ nI k from nI_ge (b := 48) hk48 (by decide)), e1, e2]
      simp only [nm]
      rw [z4, j43 z z2]
      refine Or.inl ⟨hk48, _, rfl, rfl, fun r hr => by rw [sI_ne hr]; exact h2 r hr, h3, fun j hj => ?_⟩
      show (sI w 100 k _).1 100 j = _
      by_cases hjk : j = k
      · subst hjk; rw [sI_eq, z3]
      · rw [sI_ot hjk]; exact h4 j (by omega)
    · have : k = 48 := by omega
      subst this
      rw [if_pos (by decide)]
      exact Or.inr ⟨1, _, by decide, rfl, h2, h3, h4⟩) (s := ((0 : Int32), u)) ⟨rfl, fun _ _ => rfl, rfl, fun j hj => absurd hj (Nat.not_lt_zero j)⟩
  rw [h]
  refine ⟨q.2, rfl, h1, h2, fun w p hw hp => ?_⟩
  rw [h3 (6 * w + p) (by omega), show (6 * w + p) / 6 = w by omega, show (6 * w + p) % 6 = p by omega]
def RWc (u : Um) (o : Nat → Nat → Nat) (W w : Nat) : Prop := ∀ set, set < 64 → u.1 101 (64 * w + set) = nI (vK 16 (DD o W (W - w) set))
theorem pairW {u : Um} {o : Nat → Nat → Nat} {w p : Nat} (h : TB u o) (hw : w < 8) (hp : p < 6) : fX2_pairWorth (nI w) (nI p) u = some (nI (wv 16 (o w p))) := by
  have e : (nI w * 6 + nI p : Int32) = nI (6 * w + p) := by rw [show (6 : Int32) = nI 6 from rfl, pk_mul, nI_add, Nat.mul_comm]
  unfold fX2_pairWorth
  simp only [nm]
  rw [e, if_neg (nI_pos (by omega)), if_pos (show nI (6 * w + p) < (48 : Int32) from nI_lt (b := 48) (by omega) (by decide)), if_pos (inbN (by omega) (by decide)), nI_clamp (by omega), h w p hw hp]
theorem bestA {u : Um} {w set : Nat} (hw : w ≤ 8) (hs : set < 64) : fX2_bestAt (nI w) (nI set) u = some (u.1 101 (64 * w + set)) := by
  have e : (nI w * 64 + nI set : Int32) = nI (64 * w + set) := by rw [show (64 : Int32) = nI 64 from rfl, pk_mul, nI_add, Nat.mul_comm]
  unfold fX2_bestAt
  simp only [nm]
  rw [e, if_neg (nI_pos (by omega)), if_pos (show nI (64 * w + set) < (576 : Int32) from nI_lt (b := 576) (by omega) (by decide)), if_pos (inbN (by omega) (by decide)), nI_clamp (by omega)]
theorem or_lt {set p : Nat} (hs : set < 64) (hp : p < 6) : set ||| 2 ^ p < 64 := Nat.or_lt_two_pow (n := 6) hs (Nat.pow_lt_pow_right (by decide) hp)
theorem bit_or {set p : Nat} (hp : p < 6) : (nI set ||| ((1 : Int32) <<< (nI p &&& 31))) = nI (set ||| 2 ^ p) := by
  rw [show ((1 : Int32) <<< (nI p &&& 31)) = bitI p from rfl, bitI_e (by omega), nI_or]
theorem worth_n {u : Um} {o : Nat → Nat → Nat} {W w set : Nat} (hR : RWc u o W (w + 1)) (hw : w < 8) (hs : set < 64) : fX2_worthOf (nI w) (nI set) (-4) u = some (nI (vK 16 (DD o W (W - (w + 1)) set))) := by
  unfold fX2_worthOf
  rw [if_neg (by decide), nI_1, bestA (by omega) hs, bd1s, hR set hs]
theorem worth_y {u : Um} {o : Nat → Nat → Nat} {W w set p : Nat} (hT : TB u o) (hR : RWc u o W (w + 1)) (hw : w < 8) (hwW : w < W) (hs : set < 64) (hp : p < 6) (ho : 0 < o w p) : fX2_worthOf (nI w) (nI set) (nI p) u = some (nI (cV o W (W - (w + 1)) set p)) := by
  unfold fX2_worthOf
  rw [if_pos (nI_pos' (by omega)), pairW hT hw hp, bd1s, nI_1, bit_or hp, bestA (by omega) (or_lt hs hp), bd1s, hR _ (or_lt hs hp), nI_add]
  unfold cV
  rw [show W - (W - (w + 1) + 1) = w by omega, vK_add (DD_b o W _ _).1 (by decide)]
  unfold wv
  rw [if_neg (by omega)]
theorem m1_le {a m : Nat} (ha : a < 2 ^ 31) (hm : m < 2 ^ 31) : nI a ≤ nI m + (-1) ↔ a < m := by
  cases m with
  | zero =>
    refine ⟨fun h => ?_, fun h => absurd h (Nat.not_lt_zero a)⟩
    have h2 := Int32.le_iff_toInt_le.mp h
    rw [nI_toInt ha, show (nI 0 + (-1) : Int32).toInt = -1 from by decide] at h2
    omega
  | succ k =>
    rw [pk_m1, nI_leI ha (by omega)]
    omega
theorem cV_b (o : Nat → Nat → Nat) (W r set p : Nat) (hr : r ≤ 8) : cV o W r set p ≤ 144 := by
  have h := DD_b o W r (set ||| 2 ^ p)
  have h2 := addp_b (o := o (W - (r + 1)) p) h.1 h.2
  unfold cV vK
  omega
theorem vDD_b (o : Nat → Nat → Nat) (W r set : Nat) (hr : r ≤ 8) : vK 16 (DD o W r set) ≤ 144 := by
  have h := DD_b o W r set
  unfold vK
  omega
theorem fcL_b (ok : Nat → Bool) (c : Nat → Nat) {B : Nat} (h : ∀ p, c p ≤ B) : ∀ n, (fcL ok c n).2 ≤ B + 1
  | 0 => Nat.zero_le _
  | n + 1 => by
    rw [fcL_s]
    split
    · have := h n
      show c n + 1 ≤ B + 1
      omega
    · exact fcL_b ok c h n
theorem firstC {u : Um} {o : Nat → Nat → Nat} {W w set : Nat} (hT : TB u o) (hR : RWc u o W (w + 1)) (hW : W ≤ 8) (hwW : w < W) (hs : set < 64) : fX2_firstCarrier (nI w) (nI set) u = some (pkC o W (W - (w + 1)) set) := by
  have ew : W - (W - (w + 1) + 1) = w := by omega
  have cb := fun p => cV_b o W (W - (w + 1)) set p (by omega)
  have fb := fcL_b (okc o w set) (cV o W (W - (w + 1)) set) cb
  unfold fX2_firstCarrier
  have hl := lp_end (body := fun s => fX2_firstCarrier_b9 (nI w) (nI set) s.1 s.2.1 s.2.2 u) (fun p => ((fcL (okc o w set) (cV o W (W - (w + 1)) set) p).1, nI (fcL (okc o w set) (cV o W (W - (w + 1)) set) p).2 + (-1), nI p)) (m := 6) (e := 1) (s' := ((fcL (okc o w set) (cV o W (W - (w + 1)) set) 6).1, nI (fcL (okc o w set) (cV o W (W - (w + 1)) set) 6).2 + (-1), nI 6)) (by omega) (fun p hp => ?_) ?_ (by decide)
  · have h00 : ((-4 : Int32), (-1 : Int32), (0 : Int32)) = ((fcL (okc o w set) (cV o W (W - (w + 1)) set) 0).1, nI (fcL (okc o w set) (cV o W (W - (w + 1)) set) 0).2 + (-1), nI 0) := by
      rw [show fcL (okc o w set) (cV o W (W - (w + 1)) set) 0 = (-4, 0) from rfl]
      show ((-4 : Int32), (-1 : Int32), (0 : Int32)) = (-4, nI 0 + (-1), nI 0)
      rw [show (nI 0 + (-1) : Int32) = -1 by decide]
      rfl
    rw [h00, hl, bd4s, worth_n hR (by omega) hs, bd1s]
    unfold pkC
    rw [ew]
    have b1 := fb 6
    have b2 := vDD_b o W (W - (w + 1)) set (by omega)
    by_cases h : vK 16 (DD o W (W - (w + 1)) set) < (fcL (okc o w set) (cV o W (W - (w + 1)) set) 6).2
    · rw [if_pos ((m1_le (by omega) (by omega)).mpr h), if_pos h]
    · rw [if_neg (fun h' => h ((m1_le (by omega) (by omega)).mp h')), if_neg h]
  · show fX2_firstCarrier_b9 (nI w) (nI set) _ _ (nI p) u = _
    have b1 := fb p
    have b2 := cb p
    unfold fX2_firstCarrier_b9 fX2_firstCarrier_j61
    rw [if_neg (by rw [lel6 (by omega)]; omega), pairW hT (by omega) hp, bd1s, fcL_s]
    simp only [nm, nI_1]
    by_cases ho : 0 < o w p
    · have hwv : 15 ≤ wv 16 (o w p) ∧ wv 16 (o w p) ≤ 16 := by
        unfold wv
        rw [if_neg (by omega)]
        split <;> omega
      rw [if_neg (by rw [ler0 (by omega)]; omega)]
      by_cases hm : memB set p = true
      · rw [if_neg (fun e => (bitB (by omega) (by omega)).mp e hm), if_neg]
        intro h
        have := (Bool.and_eq_true_iff.mp h).1
        unfold okc at this
        rw [hm] at this
        simp at this
      · have hok : okc o w set p = true := by
          unfold okc
          rw [decide_eq_true ho, Bool.eq_false_iff.mpr hm]
          rfl
        rw [if_pos ((bitB (by omega) (by omega)).mpr hm), worth_y hT hR (by omega) hwW hs hp ho, bd1s, bd1s, hok, Bool.true_and]
        by_cases hlt : (fcL (okc o w set) (cV o W (W - (w + 1)) set) p).2 < cV o W (W - (w + 1)) set p + 1
        · rw [if_neg (fun h' => by have := (m1_le (by omega) (by omega)).mp h'; omega), if_pos (decide_eq_true hlt)]
          show _ = some (0, nI p, nI (cV o W (W - (w + 1)) set p + 1) + (-1), nI (p + 1))
          rw [pk_m1]
        · rw [if_pos ((m1_le (by omega) (by omega)).mpr (by omega)), if_neg (fun h => hlt (of_decide_eq_true h))]
    · rw [show o w p = 0 by omega, show wv 16 0 = 0 from rfl, if_pos (by decide), if_neg]
      intro h
      have := (Bool.and_eq_true_iff.mp h).1
      unfold okc at this
      rw [decide_eq_false ho] at this
      simp at this
  · show fX2_firstCarrier_b9 (nI w) (nI set) _ _ (nI 6) u = _
    unfold fX2_firstCarrier_b9
    rw [if_pos (by decide)]
theorem TB_fr {u u' : Um} {o : Nat → Nat → Nat} (h : TB u o) (e : u'.1 100 = u.1 100) : TB u' o := fun w p hw hp => by rw [e]; exact h w p hw hp
theorem best_w {u : Um} {o : Nat → Nat → Nat} {W w set : Nat} (hT : TB u o) (hR : RWc u o W (w + 1)) (hW : W ≤ 8) (hwW : w < W) (hs : set < 64) : fX2_worthOf (nI w) (nI set) (pkC o W (W - (w + 1)) set) u = some (nI (vK 16 (DD o W (W - w) set))) := by
  have er : W - w = W - (w + 1) + 1 := by omega
  have ew : W - (W - (w + 1) + 1) = w := by omega
  rcases pkC_spec o W (W - (w + 1)) set with ⟨p, p1, p2, p3, p4, -⟩ | ⟨h, h2, -⟩
  · rw [ew] at p3
    have ho : 0 < o w p := by
      unfold okc at p3
      exact of_decide_eq_true (Bool.and_eq_true_iff.mp p3).1
    rw [p2, worth_y hT hR (by omega) hwW hs p1 ho, p4, er]
  · rw [h, worth_n hR (by omega) hs, er, h2]
theorem set_b {u : Um} {w set : Nat} {x : Int32} (hw : w < 8) (hs : set < 64) : fX2_setBest (nI w) (nI set) x u = some (sI u 101 (64 * w + set) x) := by
  have e : (nI w * 64 + nI set : Int32) = nI (64 * w + set) := by rw [show (64 : Int32) = nI 64 from rfl, pk_mul, nI_add, Nat.mul_comm]
  unfold fX2_setBest
  simp only [nm]
  rw [e, if_neg (nI_pos (by omega)), if_neg (show ¬ (576 : Int32) ≤ nI (64 * w + set) from nI_ge (b := 576) (by omega) (by decide)), if_pos (inbN (by omega) (by decide)), nI_clamp (by omega)]
theorem row_c {u : Um} {o : Nat → Nat → Nat} {W w a : Nat} (hT : TB u o) (hR : RWc u o W (w + 1)) (hW : W ≤ 8) (hwW : w < W) : ∃ u', lp (fun s : Int32 × Um => fX2_settle_b26 a (nI w) s.1 s.2) fuel ((0 : Int32), u) = some (1, nI 64, u') ∧ (∀ k, k ≠ 101 → u'.1 k = u.1 k) ∧ u'.2 = u.2 ∧ (∀ i, i < 64 * w ∨ 64 * w + 64 ≤ i → u'.1 101 i = u.1 101 i) ∧ RWc u' o W w := by
  obtain ⟨e, q, h, he, h0, h1, h2, h3, h4⟩ := lp_inv (body := fun s : Int32 × Um => fX2_settle_b26 a (nI w) s.1 s.2) (fun k s => s.1 = nI k ∧ (∀ r, r ≠ 101 → s.2.1 r = u.1 r) ∧ s.2.2 = u.2 ∧ (∀ i, i < 64 * w ∨ 64 * w + 64 ≤ i → s.2.1 101 i = u.1 101 i) ∧ ∀ set, set < k → s.2.1 101 (64 * w + set) = nI (vK 16 (DD o W (W - w) set))) (fun e s => e = 1 ∧ s.1 = nI 64 ∧ (∀ r, r ≠ 101 → s.2.1 r = u.1 r) ∧ s.2.2 = u.2 ∧ (∀ i, i < 64 * w ∨ 64 * w + 64 ≤ i → s.2.1 101 i = u.1 101 i) ∧ RWc s.2 o W w) 64 (by omega) (fun k s hk hs' => by
    obtain ⟨x, v⟩ := s
    obtain ⟨h1, h2, h3, h4, h5⟩ := hs'
    dsimp only at h1 h2 h3 h4 h5
    subst h1
    show (_ ∧ ∃ s', fX2_settle_b26 a (nI w) (nI k) v = _ ∧ _) ∨ (∃ e s', _ ∧ fX2_settle_b26 a (nI w) (nI k) v = _ ∧ _)
    unfold fX2_settle_b26
    by_cases hk64 : k < 64
    · have hTv : TB v o := TB_fr hT (h2 100 (by decide))
      have hRv : RWc v o W (w + 1) := fun set hs => by rw [h4 _ (by omega)]; exact hR set hs
      rw [if_neg (show ¬ (64 : Int32) ≤ nI k from nI_ge (b := 64) hk64 (by decide)), firstC hTv hRv hW hwW hk64, bd1s, best_w hTv hRv hW hwW hk64, bd1s, set_b (by omega) hk64, bd1s]
      simp only [nm, nI_1]
      refine Or.inl ⟨hk64, _, rfl, rfl, fun r hr => by rw [sI_ne hr]; exact h2 r hr, h3, fun i hi => ?_, fun set hs => ?_⟩
      · show (sI v 101 _ _).1 101 i = _
        rw [sI_ot (by omega)]; exact h4 i hi
      · show (sI v 101 _ _).1 101 (64 * w + set) = _
        by_cases hsk : set = k
        · subst hsk; exact sI_eq
        · rw [sI_ot (by omega)]; exact h5 set (by omega)
    · have : k = 64 := by omega
      subst this
      rw [if_pos (by decide)]
      exact Or.inr ⟨1, _, by decide, rfl, rfl, rfl, h2, h3, h4, h5⟩) (s := ((0 : Int32), u)) ⟨rfl, fun _ _ => rfl, rfl, fun _ _ => rfl, fun j hj => absurd hj (Nat.not_lt_zero j)⟩
  subst he
  obtain ⟨a1, a2⟩ := q
  dsimp only at h0 h1 h2 h3 h4
  subst h0
  exact ⟨a2, h, h1, h2, h3, h4⟩
theorem m1_neg : ((nI 0 + (-1) : Int32) < 0) := by decide
theorem m1_s {k : Nat} (h : 0 < k) : (nI k + (-1) : Int32) = nI (k - 1) := by
  cases k with
  | zero => omega
  | succ k => rw [pk_m1]; rfl
theorem rows_c {u : Um} {o : Nat → Nat → Nat} {W a : Nat} (hT : TB u o) (hR : RWc u o W W) (hW : W ≤ 8) : ∃ x u', lp (fun s : Int32 × Um => fX2_settle_b20 a s.1 s.2) fuel (nI W + (-1), u) = some (1, x, u') ∧ (∀ k, k ≠ 101 → u'.1 k = u.1 k) ∧ u'.2 = u.2 ∧ ∀ w, w ≤ W → RWc u' o W w := by
  obtain ⟨e, q, h, he, h1, h2, h3⟩ := lp_inv (body := fun s : Int32 × Um => fX2_settle_b20 a s.1 s.2) (fun j s => s.1 = nI (W - j) + (-1) ∧ (∀ r, r ≠ 101 → s.2.1 r = u.1 r) ∧ s.2.2 = u.2 ∧ ∀ w, W - j ≤ w → w ≤ W → RWc s.2 o W w) (fun e s => e = 1 ∧ (∀ r, r ≠ 101 → s.2.1 r = u.1 r) ∧ s.2.2 = u.2 ∧ ∀ w, w ≤ W → RWc s.2 o W w) W (by omega) (fun j s hj hs' => by
    obtain ⟨x, v⟩ := s
    obtain ⟨h1, h2, h3, h4⟩ := hs'
    dsimp only at h1 h2 h3 h4
    subst h1
    show (_ ∧ ∃ s', fX2_settle_b20 a (nI (W - j) + (-1)) v = _ ∧ _) ∨ (∃ e s', _ ∧ fX2_settle_b20 a (nI (W - j) + (-1)) v = _ ∧ _)
    unfold fX2_settle_b20
    by_cases hjW : j < W
    · have hTv : TB v o := TB_fr hT (h2 100 (by decide))
      rw [m1_s (show 0 < W - j by omega)]
      have hRv : RWc v o W (W - j - 1 + 1) := h4 _ (by omega) (by omega)
      obtain ⟨v', e1, g1, g2, g3, g4⟩ := row_c (a := a) hTv hRv hW (show W - j - 1 < W by omega)
      rw [if_neg (nI_pos (n := W - j - 1) (by omega)), e1, bd3s]
      simp only [nm]
      refine Or.inl ⟨hjW, _, rfl, ?_, fun r hr => by rw [g1 r hr]; exact h2 r hr, g2.trans h3, fun w hw1 hw2 => ?_⟩
      · show nI (W - j - 1) + (-1) = nI (W - (j + 1)) + (-1)
        rw [show W - (j + 1) = W - j - 1 by omega]
      · show RWc v' o W w
        by_cases hwe : w = W - j - 1
        · subst hwe; exact g4
        · intro set hs
          rw [g3 _ (by omega)]
          exact h4 w (by omega) hw2 set hs
    · have : j = W := by omega
      subst this
      rw [show j - j = 0 by omega, if_pos m1_neg]
      exact Or.inr ⟨1, _, by decide, rfl, rfl, h2, h3, fun w hw => h4 w (by omega) hw⟩) (s := (nI W + (-1), u)) ⟨rfl, fun _ _ => rfl, rfl, fun w h1 h2 => by rw [show w = W by omega]; exact hR⟩
  subst he
  obtain ⟨a1, a2⟩ := q
  exact ⟨a1, a2, h, h1, h2, h3⟩
theorem choose_c {u : Um} {o : Nat → Nat → Nat} {W : Nat} (hT : TB u o) (hR : ∀ w, w ≤ W → RWc u o W w) (hW : W ≤ 8) : ∃ u', fX2_choose (nI W) u = some u' ∧ (∀ k, k ≠ 99 → k ≠ 102 → u'.1 k = u.1 k) ∧ u'.2 = u.2 ∧ u'.1 99 3 = nI (nC o W W) ∧ ∀ w, w < W → u'.1 102 w = pkC o W (W - (w + 1)) (pS o W w) := by
  unfold fX2_choose
  simp only [nm]
  obtain ⟨e, q, h, h1, h2, h3, h4⟩ := lp_inv (body := fun s : Int32 × Int32 × Um => fX2_choose_b9 (nI W) s.1 s.2.1 s.2.2) (fun k s => s.1 = nI (pS o W k) ∧ s.2.1 = nI k ∧ (∀ r, r ≠ 99 → r ≠ 102 → s.2.2.1 r = u.1 r) ∧ s.2.2.2 = u.2 ∧ s.2.2.1 99 3 = nI (nC o W k) ∧ ∀ w, w < k → s.2.2.1 102 w = pkC o W (W - (w + 1)) (pS o W w)) (fun e s => (∀ r, r ≠ 99 → r ≠ 102 → s.2.2.1 r = u.1 r) ∧ s.2.2.2 = u.2 ∧ s.2.2.1 99 3 = nI (nC o W W) ∧ ∀ w, w < W → s.2.2.1 102 w = pkC o W (W - (w + 1)) (pS o W w)) W (by omega) (fun k s hk hs' => by
    obtain ⟨x, y, v⟩ := s
    obtain ⟨h1, h2, h3, h4, h5, h6⟩ := hs'
    dsimp only at h1 h2 h3 h4 h5 h6
    subst h1; subst h2
    show (_ ∧ ∃ s', fX2_choose_b9 (nI W) (nI (pS o W k)) (nI k) v = _ ∧ _) ∨ (∃ e s', _ ∧ fX2_choose_b9 (nI W) (nI (pS o W k)) (nI k) v = _ ∧ _)
    unfold fX2_choose_b9 fX2_choose_j61
    by_cases hkW : k < W
    · have hTv : TB v o := TB_fr hT (h3 100 (by decide) (by decide))
      have hRv : RWc v o W (k + 1) := fun set hs => by rw [h3 101 (by decide) (by decide)]; exact hR (k + 1) (by omega) set hs
      have hp := pS_lt o W k
      rw [if_neg (nI_ge hkW (by omega)), if_neg (by rw [lel8 (by omega)]; omega), firstC hTv hRv hW hkW hp, bd1s, if_pos (inbN (show k < 8 by omega) (by decide)), nI_clamp (by omega)]
      simp only [nm, nI_1]
      refine Or.inl ⟨hkW, ?_⟩
      have row : ∀ (z : Um), z.1 102 = upd (v.1 102) k (pkC o W (W - (k + 1)) (pS o W k)) → ∀ w, w < k + 1 → z.1 102 w = pkC o W (W - (w + 1)) (pS o W w) := by
        intro z hz w hw
        rw [hz]
        by_cases e : w = k
        · subst e; exact pk_us
        · rw [pk_un e]; exact h6 w (by omega)
      rcases pkC_in o W (W - (k + 1)) (pS o W k) with hp4 | ⟨p, p6, hpp⟩
      · rw [hp4, if_pos (by decide)]
        refine ⟨_, rfl, ?_, rfl, fun r r1 r2 => by rw [sI_ne r2]; exact h3 r r1 r2, h4, ?_, ?_⟩
        · show nI (pS o W k) = nI (nxS (pS o W k) (pkC o W (W - (k + 1)) (pS o W k)))
          rw [hp4]; rfl
        · show (sI v 102 k (-4)).1 99 3 = nI (nC o W k + (if pkC o W (W - (k + 1)) (pS o W k) < 0 then 0 else 1))
          rw [hp4, if_pos (by decide), sI_ne (by decide), Nat.add_zero]; exact h5
        · refine row _ ?_
          rw [hp4]; exact sI_row
      · rw [hpp, if_neg (nI_pos (n := p) (by omega)), bit_or p6, sI_ne (show 99 ≠ 102 by decide), h5, nI_1]
        refine ⟨_, rfl, ?_, rfl, fun r r1 r2 => by rw [sI_ne r1, sI_ne r2]; exact h3 r r1 r2, h4, ?_, ?_⟩
        · show nI (pS o W k ||| 2 ^ p) = nI (nxS (pS o W k) (pkC o W (W - (k + 1)) (pS o W k)))
          rw [hpp]
          unfold nxS
          rw [if_neg (nI_pos (n := p) (by omega)), show nN (nI p) = p from nI_clamp (by omega)]
        · show (sI _ 99 3 _).1 99 3 = nI (nC o W k + (if pkC o W (W - (k + 1)) (pS o W k) < 0 then 0 else 1))
          rw [hpp, if_neg (nI_pos (n := p) (by omega)), sI_eq]
        · refine row _ ?_
          rw [hpp, sI_ne (by decide)]; exact sI_row
    · have : k = W := by omega
      subst this
      rw [if_pos (nI_le (Nat.le_refl _) (by omega))]
      exact Or.inr ⟨1, _, by decide, rfl, h3, h4, h5, h6⟩) (s := ((0 : Int32), (0 : Int32), sI u 99 3 0)) ⟨rfl, rfl, fun r r1 r2 => by rw [sI_ne r1], rfl, sI_eq, fun w hw => absurd hw (Nat.not_lt_zero w)⟩
  rw [h]
  exact ⟨q.2.2, rfl, h1, h2, h3, h4⟩
theorem ln101 : ln 101 = 576 := by decide +kernel
theorem fillI_spec {d : Nat} (hd : ln d < 4000) (v : Int32) (u : Um) : ∃ u', fJ7_fill_53178 d v u = some u' ∧ (∀ r, r ≠ d → u'.1 r = u.1 r) ∧ u'.2 = u.2 ∧ ∀ i, i < ln d → u'.1 d i = v := by
  unfold fJ7_fill_53178
  obtain ⟨e, s', h, h1, h2, h3⟩ := lp_inv (body := fun s : Int32 × Um => fJ7_fill_53178_b5 d v (nI (ln d)) s.1 s.2) (fun k s => s.1 = nI k ∧ (∀ r, r ≠ d → s.2.1 r = u.1 r) ∧ s.2.2 = u.2 ∧ ∀ i, i < k → s.2.1 d i = v) (fun e s => (∀ r, r ≠ d → s.2.1 r = u.1 r) ∧ s.2.2 = u.2 ∧ ∀ i, i < ln d → s.2.1 d i = v) (ln d) (by omega) (fun k s hk hs => by
    obtain ⟨x, w⟩ := s
    obtain ⟨h1, h2, h3, h4⟩ := hs
    dsimp only at h1 h2 h3 h4
    subst h1
    show (_ ∧ ∃ s', fJ7_fill_53178_b5 d v (nI (ln d)) (nI k) w = _ ∧ _) ∨ (∃ e s', _ ∧ fJ7_fill_53178_b5 d v (nI (ln d)) (nI k) w = _ ∧ _)
    unfold fJ7_fill_53178_b5
    by_cases hkn : k < ln d
    · rw [if_neg (nI_ge hkn (by omega)), if_pos (inbN hkn (by omega)), nI_clamp (by omega)]
      simp only [nm]
      refine Or.inl ⟨hkn, _, rfl, nI_1 k, fun r hr => by rw [sI_ne hr]; exact h2 r hr, h3, fun i hi => ?_⟩
      by_cases hik : i = k
      · subst hik; exact sI_eq
      · show (sI w d k v).1 d i = v
        rw [sI_ot hik]; exact h4 i (by omega)
    · rw [if_pos (nI_le (by omega) (by omega))]
      exact Or.inr ⟨1, _, by decide, rfl, h2, h3, fun i hi => h4 i (by omega)⟩) (s := ((0 : Int32), u)) ⟨rfl, fun _ _ => rfl, rfl, fun i hi => absurd hi (Nat.not_lt_zero i)⟩
  refine ⟨s'.2, ?_, h1, h2, h3⟩
  simp only [nm]
  show bd3 (lp (fun s : Int32 × Um => fJ7_fill_53178_b5 d v (nI (ln d)) s.1 s.2) fuel ((0 : Int32), u)) _ = _
  rw [h]
  rfl
theorem settle_c {u : Um} {P W dd : Nat} {c : Nat → Int32} (hR : RC u 3 c P W) (hV : VR c P W dd) (hW1 : 1 ≤ W) : ∃ u', fX2_settle 3 u = some u' ∧ (∀ k, k < 99 ∨ 102 < k → u'.1 k = u.1 k) ∧ u'.2 = u.2 ∧ u'.1 99 3 = nI (nC (oN c P W) W W) ∧ ∀ w, w < W → u'.1 102 w = pkC (oN c P W) W (W - (w + 1)) (pS (oN c P W) W w) := by
  have hW := hV.2.2.2.2.1
  obtain ⟨u1, e1, f1, f2, f3⟩ := weigh_c hR hV
  obtain ⟨u2, e2, g1, g2, g3⟩ := fillI_spec (d := 101) (by rw [ln101]; decide) 0 u1
  have hT2 : TB u2 (oN c P W) := TB_fr f3 (g1 100 (by decide))
  have hRW : RWc u2 (oN c P W) W W := fun set hs => by
    rw [g3 _ (by rw [ln101]; omega), Nat.sub_self]
    rfl
  obtain ⟨x, u3, e3, k1, k2, k3⟩ := rows_c (a := 3) hT2 hRW hW
  obtain ⟨u4, e4, m1, m2, m3, m4⟩ := choose_c (TB_fr hT2 (k1 100 (by decide))) k3 hW
  have w2 : u2.1 3 3 = nI W := by rw [g1 3 (by decide), f1 3 (by decide)]; exact hR.2.1.trans hV.2.1
  have w3 : u3.1 3 3 = nI W := by rw [k1 3 (by decide)]; exact w2
  refine ⟨u4, ?_, fun k hk => by rw [m1 k (by omega) (by omega), k1 k (by omega), g1 k (by omega), f1 k (by omega)], by rw [m2, k2, g2, f2], m3, m4⟩
  unfold fX2_settle fX0_wrongs
  rw [e1, bd1s, e2, bd1s, bd1s, w2]
  simp only [nm]
  rw [show (nI W - 1 : Int32) = nI W + (-1) from by rw [m1_s (by omega)]; exact pk_sub (a := W) (b := 1) hW1, e3, bd3s, bd1s, w3, e4, bd1s]
