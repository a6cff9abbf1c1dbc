noncomputable def fX1_partLike_j54 (p0 : Int32) (p1 : Int32) (p2 : Int32) (j4 : Int32) (j5 : Int32) (u : Um) : Option (Nat × Int32 × Int32) :=
  nm (j5 + 1) fun v2 =>
  some (0, j4, v2)
set_option maxHeartbeats 4000000 in
set_option maxRecDepth 100000 in
theorem tX1_partLike_j54 {w : Wc} {X : MX} (hX : OKc w X RX1 cX1_partLike 2) {p0 : Int32} {p1 : Int32} {p2 : Int32} {j4 : Int32} {j5 : Int32}  {u : Um} {e : Nat} {s' : Int32 × Int32} (K0 : e = 0 → G w X Zm 9 [some (.ref 115), some (.int p0), some (.int p1), some (.int p2), some (.int s'.1), some (.int s'.2)] [] u) (K1 : e ≠ 0 → G w X Zm 60 [none, none, none, none, some (.int s'.1), none] [] u) (hf : fX1_partLike_j54 p0 p1 p2 j4 j5 u = some (e, s')) : G w X Zm 54 [some (.ref 115), some (.int p0), some (.int p1), some (.int p2), some (.int j4), some (.int j5)] [] u := by
  unfold fX1_partLike_j54 at hf
  refine G_iincF (lvf := fun v2 => [some (.ref 115), some (.int p0), some (.int p1), some (.int p2), some (.int j4), some (.int v2)]) hX dX1_partLike_54 rfl rfl rfl (Nat.le_of_ble_eq_true rfl) (fun _ => rfl) hf (fun v2 hf => ?_)
  refine G_goto (tgt := 9) hX dX1_partLike_57 rfl ?_
  obtain ⟨rfl, rfl⟩ := ret2 hf
  refine G_mask (lv' := [some (.ref 115), some (.int p0), some (.int p1), some (.int p2), some (.int j4), some (.int v2)]) [true, true, true, true, true, true] rfl rfl ?_
  exact K0 rfl
noncomputable def fX1_partLike_b9 (p0 : Int32) (p1 : Int32) (p2 : Int32) (s4 : Int32) (s5 : Int32) (u : Um) : Option (Nat × Int32 × Int32) :=
  if (u.1 115 2) < s5 then
    some (1, s4, s5)
  else
    if ((p1 >>> (p0 &&& 31)) &&& 1) = 0 then
      some (1, s4, s5)
    else
      if ((p1 >>> (s5 &&& 31)) &&& 1) = 0 then
        fX1_partLike_j54 p0 p1 p2 s4 s5 u
      else
        bd1 (fX1_sayingAt s5 p2 u) fun v4 =>
        bd1 (fX1_sayingAt p0 p2 u) fun v6 =>
        if v4 = v6 then
          nm (s4 + 1) fun v7 =>
          fX1_partLike_j54 p0 p1 p2 v7 s5 u
        else
          fX1_partLike_j54 p0 p1 p2 s4 s5 u
set_option maxHeartbeats 4000000 in
set_option maxRecDepth 100000 in
theorem tX1_partLike_b9 {w : Wc} {X : MX} (hX : OKc w X RX1 cX1_partLike 2) {p0 : Int32} {p1 : Int32} {p2 : Int32} {s : Int32 × Int32} {e : Nat} {s' : Int32 × Int32} {u : Um} (hf : fX1_partLike_b9 p0 p1 p2 s.1 s.2 u = some (e, s')) (K0 : e = 0 → G w X Zm 9 [some (.ref 115), some (.int p0), some (.int p1), some (.int p2), some (.int s'.1), some (.int s'.2)] [] u) (K1 : e ≠ 0 → G w X Zm 60 [none, none, none, none, some (.int s'.1), none] [] u) : G w X Zm 9 [some (.ref 115), some (.int p0), some (.int p1), some (.int p2), some (.int s.1), some (.int s.2)] [] u := by
  obtain ⟨s4, s5⟩ := s
  unfold fX1_partLike_b9 at hf
  try dsimp only at hf ⊢
  refine G_iload hX dX1_partLike_9 rfl ?_
  refine G_aload_n hX dX1_partLike_11 rfl ?_
  refine G_getI (i := 2) hX kK115 (Nat.le_of_ble_eq_true rfl) (Nat.le_of_ble_eq_true rfl) rfl flX1_19 dX1_partLike_12 ?_
  refine G_icmp_gt (tgt := 60) hX dX1_partLike_15 rfl hf (fun hf => ?_) (fun hf => ?_)
  · obtain ⟨rfl, rfl⟩ := ret2 hf
    refine G_mask (lv' := [none, none, none, none, some (.int s4), none]) [false, false, false, false, true, false] rfl rfl ?_
    exact K1 (by decide)
  · refine G_iload_n hX dX1_partLike_18 rfl ?_
    refine G_iload_n hX dX1_partLike_19 rfl ?_
    refine G_ishr hX dX1_partLike_20 ?_
    refine G_iconst (v := 1) hX dX1_partLike_21 rfl ?_
    refine G_iand hX dX1_partLike_22 ?_
    refine G_if_eq (tgt := 60) hX dX1_partLike_23 rfl hf (fun hf => ?_) (fun hf => ?_)
    · obtain ⟨rfl, rfl⟩ := ret2 hf
      refine G_mask (lv' := [none, none, none, none, some (.int s4), none]) [false, false, false, false, true, false] rfl rfl ?_
      exact K1 (by decide)
    · refine G_iload_n hX dX1_partLike_26 rfl ?_
      refine G_iload hX dX1_partLike_27 rfl ?_
      refine G_ishr hX dX1_partLike_29 ?_
      refine G_iconst (v := 1) hX dX1_partLike_30 rfl ?_
      refine G_iand hX dX1_partLike_31 ?_
      refine G_if_eq (tgt := 54) hX dX1_partLike_32 rfl hf (fun hf => ?_) (fun hf => ?_)
      · refine G_mask (lv' := [some (.ref 115), some (.int p0), some (.int p1), some (.int p2), some (.int s4), some (.int s5)]) [true, true, true, true, true, true] rfl rfl ?_
        exact tX1_partLike_j54 hX  K0 K1 hf
      · refine G_aload_n hX dX1_partLike_35 rfl ?_
        refine G_iload hX dX1_partLike_36 rfl ?_
        refine G_iload_n hX dX1_partLike_38 rfl ?_
        obtain ⟨v4, h3, hf⟩ := bd1_some hf
        refine G_cV (as := [.int s5, .int p2]) (rest := []) hX cvX1_50 (mX1_sayingAt w h3) (Nat.le_of_ble_eq_true rfl) kK115 (Nat.le_of_ble_eq_true rfl) (Nat.le_of_ble_eq_true rfl) rfl rfl (Nat.le_of_ble_eq_true rfl) dX1_partLike_39 (st' := [.int v4]) rfl ?_
        refine G_aload_n hX dX1_partLike_42 rfl ?_
        refine G_iload_n hX dX1_partLike_43 rfl ?_
        refine G_iload_n hX dX1_partLike_44 rfl ?_
        obtain ⟨v6, h5, hf⟩ := bd1_some hf
        refine G_cV (as := [.int p0, .int p2]) (rest := [.int v4]) hX cvX1_50 (mX1_sayingAt w h5) (Nat.le_of_ble_eq_true rfl) kK115 (Nat.le_of_ble_eq_true rfl) (Nat.le_of_ble_eq_true rfl) rfl rfl (Nat.le_of_ble_eq_true rfl) dX1_partLike_45 (st' := [.int v6, .int v4]) rfl ?_
        refine G_icmp_ne (tgt := 54) hX dX1_partLike_48 rfl hf (fun hf => ?_) (fun hf => ?_)
        · refine G_mask (lv' := [some (.ref 115), some (.int p0), some (.int p1), some (.int p2), some (.int s4), some (.int s5)]) [true, true, true, true, true, true] rfl rfl ?_
          exact tX1_partLike_j54 hX  K0 K1 hf
        · refine G_iincF (lvf := fun v7 => [some (.ref 115), some (.int p0), some (.int p1), some (.int p2), some (.int v7), some (.int s5)]) hX dX1_partLike_51 rfl rfl rfl (Nat.le_of_ble_eq_true rfl) (fun _ => rfl) hf (fun v7 hf => ?_)
          refine G_mask (lv' := [some (.ref 115), some (.int p0), some (.int p1), some (.int p2), some (.int v7), some (.int s5)]) [true, true, true, true, true, true] rfl rfl ?_
          exact tX1_partLike_j54 hX  K0 K1 hf
noncomputable def fX1_partLike (p0 : Int32) (p1 : Int32) (p2 : Int32) (u : Um) : Option Int32 :=
  nm (u.1 115 1) fun v1 =>
  bd3 (lp (fun s => fX1_partLike_b9 p0 p1 p2 s.1 s.2 u) fuel ((0 : Int32), v1)) fun e10 v8 v9 =>
  some v8
set_option maxHeartbeats 4000000 in
set_option maxRecDepth 100000 in
theorem mX1_partLike (w : Wc) {p0 : Int32} {p1 : Int32} {p2 : Int32}  {u : Um} {r : Int32} (hf : fX1_partLike p0 p1 p2 u = some r) : MC w 2 qX1_partLike [.ref 115, .int p0, .int p1, .int p2] u (some (.int r)) u := by
  unfold fX1_partLike at hf
  refine MC_intro pnX1 (Nat.le_of_ble_eq_true rfl) (fun X hX hR _ _ => ?_)
  have hX : OKc w X RX1 cX1_partLike 2 := hX
  have hR : RT w X (some .int) 0 0 Pst 133 false (some (.int r)) u := hR
  refine G_eql (lv' := [some (.ref 115), some (.int p0), some (.int p1), some (.int p2), none, none]) rfl ?_
  refine G_iconst (v := 0) hX dX1_partLike_0 rfl ?_
  refine G_istore (lv' := [some (.ref 115), some (.int p0), some (.int p1), some (.int p2), some (.int 0), none]) hX dX1_partLike_1 rfl (Nat.le_of_ble_eq_true rfl) rfl ?_
  refine G_aload_n hX dX1_partLike_3 rfl ?_
  refine G_getI (i := 1) hX kK115 (Nat.le_of_ble_eq_true rfl) (Nat.le_of_ble_eq_true rfl) rfl flX1_15 dX1_partLike_4 ?_
  refine G_istoreF (lvf := fun v1 => [some (.ref 115), some (.int p0), some (.int p1), some (.int p2), some (.int 0), some (.int v1)]) hX dX1_partLike_7 rfl (Nat.le_of_ble_eq_true rfl) (fun _ => rfl) hf (fun v1 hf => ?_)
  obtain ⟨e10, v8, v9, h11, hf⟩ := bd3_some hf
  refine G_mask (lv' := [some (.ref 115), some (.int p0), some (.int p1), some (.int p2), some (.int 0), some (.int v1)]) [true, true, true, true, true, true] rfl rfl ?_
  refine lp_G (body := (fun s => fX1_partLike_b9 p0 p1 p2 s.1 s.2 u)) (Gh := fun s => G w X Zm 9 [some (.ref 115), some (.int p0), some (.int p1), some (.int p2), some (.int s.1), some (.int s.2)] [] u) (Gx := fun e s => G w X Zm 60 [none, none, none, none, some (.int s.1), none] [] u) (fun s e s' hb K0 K1 => tX1_partLike_b9 (s := s) (e := e) (s' := s') hX   hb K0 K1) fuel ((0 : Int32), v1) (e10, v8, v9) h11 ?_
  refine G_iload hX dX1_partLike_60 rfl ?_
  obtain rfl := Option.some.inj hf
  exact G_iret hX hR dX1_partLike_62
noncomputable def fX1_greatestPart_b8 (p0 : Int32) (p1 : Int32) (s3 : Int32) (s4 : Int32) (u : Um) : Option (Nat × Int32 × Int32) :=
  if (u.1 115 2) < s4 then
    some (1, s3, s4)
  else
    bd1 (fX1_partLike s4 p0 p1 u) fun v3 =>
    nm (mxI s3 v3) fun v4 =>
    nm (s4 + 1) fun v5 =>
    some (0, v4, v5)
set_option maxHeartbeats 4000000 in
set_option maxRecDepth 100000 in
theorem tX1_greatestPart_b8 {w : Wc} {X : MX} (hX : OKc w X RX1 cX1_greatestPart 3) {p0 : Int32} {p1 : Int32} {s : Int32 × Int32} {e : Nat} {s' : Int32 × Int32} {u : Um} (hf : fX1_greatestPart_b8 p0 p1 s.1 s.2 u = some (e, s')) (K0 : e = 0 → G w X Zm 8 [some (.ref 115), some (.int p0), some (.int p1), some (.int s'.1), some (.int s'.2)] [] u) (K1 : e ≠ 0 → G w X Zm 36 [none, none, none, some (.int s'.1), none] [] u) : G w X Zm 8 [some (.ref 115), some (.int p0), some (.int p1), some (.int s.1), some (.int s.2)] [] u := by
  obtain ⟨s3, s4⟩ := s
  unfold fX1_greatestPart_b8 at hf
  try dsimp only at hf ⊢
  refine G_iload hX dX1_greatestPart_8 rfl ?_
  refine G_aload_n hX dX1_greatestPart_10 rfl ?_
  refine G_getI (i := 2) hX kK115 (Nat.le_of_ble_eq_true rfl) (Nat.le_of_ble_eq_true rfl) rfl flX1_19 dX1_greatestPart_11 ?_
  refine G_icmp_gt (tgt := 36) hX dX1_greatestPart_14 rfl hf (fun hf => ?_) (fun hf => ?_)
  · obtain ⟨rfl, rfl⟩ := ret2 hf
    refine G_mask (lv' := [none, none, none, some (.int s3), none]) [false, false, false, true, false] rfl rfl ?_
    exact K1 (by decide)
  · refine G_iload_n hX dX1_greatestPart_17 rfl ?_
    refine G_aload_n hX dX1_greatestPart_18 rfl ?_
    refine G_iload hX dX1_greatestPart_19 rfl ?_
    refine G_iload_n hX dX1_greatestPart_21 rfl ?_
    refine G_iload_n hX dX1_greatestPart_22 rfl ?_
    obtain ⟨v3, h2, hf⟩ := bd1_some hf
    refine G_cV (as := [.int s4, .int p0, .int p1]) (rest := [.int s3]) hX cvX1_61 (mX1_partLike w h2) (Nat.le_of_ble_eq_true rfl) kK115 (Nat.le_of_ble_eq_true rfl) (Nat.le_of_ble_eq_true rfl) rfl rfl (Nat.le_of_ble_eq_true rfl) dX1_greatestPart_23 (st' := [.int v3, .int s3]) rfl ?_
    refine G_max hX cmX1_65 (Nat.le_of_ble_eq_true rfl) (Nat.le_of_ble_eq_true rfl) dX1_greatestPart_26 ?_
    refine G_istore_nF (lvf := fun v4 => [some (.ref 115), some (.int p0), some (.int p1), some (.int v4), some (.int s4)]) hX dX1_greatestPart_29 rfl (Nat.le_of_ble_eq_true rfl) (fun _ => rfl) hf (fun v4 hf => ?_)
    refine G_iincF (lvf := fun v5 => [some (.ref 115), some (.int p0), some (.int p1), some (.int v4), some (.int v5)]) hX dX1_greatestPart_30 rfl rfl rfl (Nat.le_of_ble_eq_true rfl) (fun _ => rfl) hf (fun v5 hf => ?_)
    refine G_goto (tgt := 8) hX dX1_greatestPart_33 rfl ?_
    obtain ⟨rfl, rfl⟩ := ret2 hf
    refine G_mask (lv' := [some (.ref 115), some (.int p0), some (.int p1), some (.int v4), some (.int v5)]) [true, true, true, true, true] rfl rfl ?_
    exact K0 rfl
noncomputable def fX1_greatestPart (p0 : Int32) (p1 : Int32) (u : Um) : Option Int32 :=
  nm (u.1 115 1) fun v1 =>
  bd3 (lp (fun s => fX1_greatestPart_b8 p0 p1 s.1 s.2 u) fuel ((0 : Int32), v1)) fun e8 v6 v7 =>
  some v6
set_option maxHeartbeats 4000000 in
set_option maxRecDepth 100000 in
theorem mX1_greatestPart (w : Wc) {p0 : Int32} {p1 : Int32}  {u : Um} {r : Int32} (hf : fX1_greatestPart p0 p1 u = some r) : MC w 3 qX1_greatestPart [.ref 115, .int p0, .int p1] u (some (.int r)) u := by
  unfold fX1_greatestPart at hf
  refine MC_intro pnX1 (Nat.le_of_ble_eq_true rfl) (fun X hX hR _ _ => ?_)
  have hX : OKc w X RX1 cX1_greatestPart 3 := hX
  have hR : RT w X (some .int) 0 0 Pst 133 false (some (.int r)) u := hR
  refine G_eql (lv' := [some (.ref 115), some (.int p0), some (.int p1), none, none]) rfl ?_
  refine G_iconst (v := 0) hX dX1_greatestPart_0 rfl ?_
  refine G_istore_n (lv' := [some (.ref 115), some (.int p0), some (.int p1), some (.int 0), none]) hX dX1_greatestPart_1 rfl (Nat.le_of_ble_eq_true rfl) rfl ?_
  refine G_aload_n hX dX1_greatestPart_2 rfl ?_
  refine G_getI (i := 1) hX kK115 (Nat.le_of_ble_eq_true rfl) (Nat.le_of_ble_eq_true rfl) rfl flX1_15 dX1_greatestPart_3 ?_
  refine G_istoreF (lvf := fun v1 => [some (.ref 115), some (.int p0), some (.int p1), some (.int 0), some (.int v1)]) hX dX1_greatestPart_6 rfl (Nat.le_of_ble_eq_true rfl) (fun _ => rfl) hf (fun v1 hf => ?_)
  obtain ⟨e8, v6, v7, h9, hf⟩ := bd3_some hf
  refine G_mask (lv' := [some (.ref 115), some (.int p0), some (.int p1), some (.int 0), some (.int v1)]) [true, true, true, true, true] rfl rfl ?_
  refine lp_G (body := (fun s => fX1_greatestPart_b8 p0 p1 s.1 s.2 u)) (Gh := fun s => G w X Zm 8 [some (.ref 115), some (.int p0), some (.int p1), some (.int s.1), some (.int s.2)] [] u) (Gx := fun e s => G w X Zm 36 [none, none, none, some (.int s.1), none] [] u) (fun s e s' hb K0 K1 => tX1_greatestPart_b8 (s := s) (e := e) (s' := s') hX   hb K0 K1) fuel ((0 : Int32), v1) (e8, v6, v7) h9 ?_
  refine G_iload_n hX dX1_greatestPart_36 rfl ?_
  obtain rfl := Option.some.inj hf
  exact G_iret hX hR dX1_greatestPart_37
noncomputable def fX1_bestTry_j45 (p0 : Int32) (j2 : Int32) (j3 : Int32) (j4 : Int32) (u : Um) : Option (Nat × Int32 × Int32 × Int32) :=
  nm (j4 + 1) fun v6 =>
  some (0, j2, j3, v6)
set_option maxHeartbeats 4000000 in
set_option maxRecDepth 100000 in
theorem tX1_bestTry_j45 {w : Wc} {X : MX} (hX : OKc w X RX1 cX1_bestTry 4) {p0 : Int32} {j2 : Int32} {j3 : Int32} {j4 : Int32}  {u : Um} {e : Nat} {s' : Int32 × Int32 × Int32} (K0 : e = 0 → G w X Zm 13 [some (.ref 115), some (.int p0), some (.int s'.1), some (.int s'.2.1), some (.int s'.2.2), none] [] u) (K1 : e ≠ 0 → G w X Zm 51 [none, none, some (.int s'.1), none, none, none] [] u) (hf : fX1_bestTry_j45 p0 j2 j3 j4 u = some (e, s')) : G w X Zm 45 [some (.ref 115), some (.int p0), some (.int j2), some (.int j3), some (.int j4), none] [] u := by
  unfold fX1_bestTry_j45 at hf
  refine G_iincF (lvf := fun v6 => [some (.ref 115), some (.int p0), some (.int j2), some (.int j3), some (.int v6), none]) hX dX1_bestTry_45 rfl rfl rfl (Nat.le_of_ble_eq_true rfl) (fun _ => rfl) hf (fun v6 hf => ?_)
  refine G_goto (tgt := 13) hX dX1_bestTry_48 rfl ?_
  obtain ⟨rfl, rfl⟩ := ret2 hf
  refine G_mask (lv' := [some (.ref 115), some (.int p0), some (.int j2), some (.int j3), some (.int v6), none]) [true, true, true, true, true, false] rfl rfl ?_
  exact K0 rfl
noncomputable def fX1_bestTry_b13 (p0 : Int32) (s2 : Int32) (s3 : Int32) (s4 : Int32) (u : Um) : Option (Nat × Int32 × Int32 × Int32) :=
  if p0 = 0 then
    some (1, s2, s3, s4)
  else
    if 10 ≤ s4 then
      some (1, s2, s3, s4)
    else
      bd1 (fX1_greatestPart p0 s4 u) fun v5 =>
      if s3 ≤ v5 then
        fX1_bestTry_j45 p0 s2 s3 s4 u
      else
        fX1_bestTry_j45 p0 s4 v5 s4 u
set_option maxHeartbeats 4000000 in
set_option maxRecDepth 100000 in
theorem tX1_bestTry_b13 {w : Wc} {X : MX} (hX : OKc w X RX1 cX1_bestTry 4) {p0 : Int32} {s : Int32 × Int32 × Int32} {e : Nat} {s' : Int32 × Int32 × Int32} {u : Um} (hf : fX1_bestTry_b13 p0 s.1 s.2.1 s.2.2 u = some (e, s')) (K0 : e = 0 → G w X Zm 13 [some (.ref 115), some (.int p0), some (.int s'.1), some (.int s'.2.1), some (.int s'.2.2), none] [] u) (K1 : e ≠ 0 → G w X Zm 51 [none, none, some (.int s'.1), none, none, none] [] u) : G w X Zm 13 [some (.ref 115), some (.int p0), some (.int s.1), some (.int s.2.1), some (.int s.2.2), none] [] u := by
  obtain ⟨s2, s3, s4⟩ := s
  unfold fX1_bestTry_b13 at hf
  try dsimp only at hf ⊢
  refine G_iload_n hX dX1_bestTry_13 rfl ?_
  refine G_if_eq (tgt := 51) hX dX1_bestTry_14 rfl hf (fun hf => ?_) (fun hf => ?_)
  · obtain ⟨rfl, rfl⟩ := ret2 hf
    refine G_mask (lv' := [none, none, some (.int s2), none, none, none]) [false, false, true, false, false, false] rfl rfl ?_
    exact K1 (by decide)
  · refine G_iload hX dX1_bestTry_17 rfl ?_
    refine G_bipush (v := 10) hX dX1_bestTry_19 rfl ?_
    refine G_icmp_ge (tgt := 51) hX dX1_bestTry_21 rfl hf (fun hf => ?_) (fun hf => ?_)
    · obtain ⟨rfl, rfl⟩ := ret2 hf
      refine G_mask (lv' := [none, none, some (.int s2), none, none, none]) [false, false, true, false, false, false] rfl rfl ?_
      exact K1 (by decide)
    · refine G_aload_n hX dX1_bestTry_24 rfl ?_
      refine G_iload_n hX dX1_bestTry_25 rfl ?_
      refine G_iload hX dX1_bestTry_26 rfl ?_
      obtain ⟨v5, h4, hf⟩ := bd1_some hf
      refine G_cV (as := [.int p0, .int s4]) (rest := []) hX cvX1_58 (mX1_greatestPart w h4) (Nat.le_of_ble_eq_true rfl) kK115 (Nat.le_of_ble_eq_true rfl) (Nat.le_of_ble_eq_true rfl) rfl rfl (Nat.le_of_ble_eq_true rfl) dX1_bestTry_28 (st' := [.int v5]) rfl ?_
      refine G_istore (lv' := [some (.ref 115), some (.int p0), some (.int s2), some (.int s3), some (.int s4), some (.int v5)]) hX dX1_bestTry_31 rfl (Nat.le_of_ble_eq_true rfl) rfl ?_
      refine G_iload hX dX1_bestTry_33 rfl ?_
      refine G_iload_n hX dX1_bestTry_35 rfl ?_
      refine G_icmp_ge (tgt := 45) hX dX1_bestTry_36 rfl hf (fun hf => ?_) (fun hf => ?_)
      · refine G_mask (lv' := [some (.ref 115), some (.int p0), some (.int s2), some (.int s3), some (.int s4), none]) [true, true, true, true, true, false] rfl rfl ?_
        exact tX1_bestTry_j45 hX  K0 K1 hf
      · refine G_iload hX dX1_bestTry_39 rfl ?_
        refine G_istore_n (lv' := [some (.ref 115), some (.int p0), some (.int s2), some (.int v5), some (.int s4), some (.int v5)]) hX dX1_bestTry_41 rfl (Nat.le_of_ble_eq_true rfl) rfl ?_
        refine G_iload hX dX1_bestTry_42 rfl ?_
        refine G_istore_n (lv' := [some (.ref 115), some (.int p0), some (.int s4), some (.int v5), some (.int s4), some (.int v5)]) hX dX1_bestTry_44 rfl (Nat.le_of_ble_eq_true rfl) rfl ?_
        refine G_mask (lv' := [some (.ref 115), some (.int p0), some (.int s4), some (.int v5), some (.int s4), none]) [true, true, true, true, true, false] rfl rfl ?_
        exact tX1_bestTry_j45 hX  K0 K1 hf
noncomputable def fX1_bestTry (p0 : Int32) (u : Um) : Option Int32 :=
  bd1 (fJ6_bitCount_0f7a4 p0 u) fun v2 =>
  nm (v2 + 1) fun v3 =>
  bd4 (lp (fun s => fX1_bestTry_b13 p0 s.1 s.2.1 s.2.2 u) fuel (((-4) : Int32), v3, (0 : Int32))) fun e10 v7 v8 v9 =>
  some v7
set_option maxHeartbeats 4000000 in
set_option maxRecDepth 100000 in
theorem mX1_bestTry (w : Wc) {p0 : Int32}  {u : Um} {r : Int32} (hf : fX1_bestTry p0 u = some r) : MC w 4 qX1_bestTry [.ref 115, .int p0] u (some (.int r)) u := by
  unfold fX1_bestTry at hf
  refine MC_intro pnX1 (Nat.le_of_ble_eq_true rfl) (fun X hX hR _ _ => ?_)
  have hX : OKc w X RX1 cX1_bestTry 4 := hX
  have hR : RT w X (some .int) 0 0 Pst 133 false (some (.int r)) u := hR
  refine G_eql (lv' := [some (.ref 115), some (.int p0), none, none, none, none]) rfl ?_
  refine G_bipush (v := (-4)) hX dX1_bestTry_0 rfl ?_
  refine G_istore_n (lv' := [some (.ref 115), some (.int p0), some (.int (-4)), none, none, none]) hX dX1_bestTry_2 rfl (Nat.le_of_ble_eq_true rfl) rfl ?_
  refine G_iload_n hX dX1_bestTry_3 rfl ?_
  obtain ⟨v2, h1, hf⟩ := bd1_some hf
  refine G_cS (as := [.int p0]) (rest := []) hX csX1_53 (mJ6_bitCount_0f7a4 w h1) (Nat.le_of_ble_eq_true rfl) rfl rfl (Nat.le_of_ble_eq_true rfl) dX1_bestTry_4 (st' := [.int v2]) rfl ?_
  refine G_iconst (v := 1) hX dX1_bestTry_7 rfl ?_
  refine G_iadd hX dX1_bestTry_8 ?_
  refine G_istore_nF (lvf := fun v3 => [some (.ref 115), some (.int p0), some (.int (-4)), some (.int v3), none, none]) hX dX1_bestTry_9 rfl (Nat.le_of_ble_eq_true rfl) (fun _ => rfl) hf (fun v3 hf => ?_)
  refine G_iconst (v := 0) hX dX1_bestTry_10 rfl ?_
  refine G_istore (lv' := [some (.ref 115), some (.int p0), some (.int (-4)), some (.int v3), some (.int 0), none]) hX dX1_bestTry_11 rfl (Nat.le_of_ble_eq_true rfl) rfl ?_
  obtain ⟨e10, v7, v8, v9, h11, hf⟩ := bd4_some hf
  refine G_mask (lv' := [some (.ref 115), some (.int p0), some (.int (-4)), some (.int v3), some (.int 0), none]) [true, true, true, true, true, false] rfl rfl ?_
  refine lp_G (body := (fun s => fX1_bestTry_b13 p0 s.1 s.2.1 s.2.2 u)) (Gh := fun s => G w X Zm 13 [some (.ref 115), some (.int p0), some (.int s.1), some (.int s.2.1), some (.int s.2.2), none] [] u) (Gx := fun e s => G w X Zm 51 [none, none, some (.int s.1), none, none, none] [] u) (fun s e s' hb K0 K1 => tX1_bestTry_b13 (s := s) (e := e) (s' := s') hX   hb K0 K1) fuel (((-4) : Int32), v3, (0 : Int32)) (e10, v7, v8, v9) h11 ?_
  refine G_iload_n hX dX1_bestTry_51 rfl ?_
  obtain rfl := Option.some.inj hf
  exact G_iret hX hR dX1_bestTry_52
noncomputable def fX1_answer (p0 : Option Nat) (p1 : Int32) (p2 : Int32) (p3 : Int32) (u : Um) : Option Int32 :=
  spl p0 5
    (some (-11))
  (fun x0 =>
    bd1 (fX1_fitting x0 p1 p2 u) fun v2 =>
    if p3 = 0 then
      some v2
    else
      bd1 (fX1_bestTry v2 u) fun v4 =>
      some v4)
set_option maxHeartbeats 4000000 in
set_option maxRecDepth 100000 in
theorem mX1_answer (w : Wc) {p0 : Option Nat} {p1 : Int32} {p2 : Int32} {p3 : Int32}  {u : Um} {r : Int32} (hf : fX1_answer p0 p1 p2 p3 u = some r) : MC w 5 qX1_answer [.ref 115, va_rf p0, .int p1, .int p2, .int p3] u (some (.int r)) u := by
  unfold fX1_answer at hf
  cases p0 with
  | none =>
    replace hf := spl_none hf
    refine MC_intro pnX1 (Nat.le_of_ble_eq_true rfl) (fun X hX hR _ _ => ?_)
    have hX : OKc w X RX1 cX1_answer 5 := hX
    have hR : RT w X (some .int) 0 0 Pst 133 false (some (.int r)) u := hR
    refine G_eql (lv' := [some (.ref 115), some (.null), some (.int p1), some (.int p2), some (.int p3), none]) rfl ?_
    refine G_aload_nN hX dX1_answer_0 rfl ?_
    refine G_ifnonnullN hX dX1_answer_1 ?_
    refine G_bipush (v := (-11)) hX dX1_answer_4 rfl ?_
    obtain rfl := Option.some.inj hf
    exact G_iret hX hR dX1_answer_6
  | some x0 =>
    obtain ⟨hx0, hf⟩ := spl_some hf
    refine MC_intro pnX1 (Nat.le_of_ble_eq_true rfl) (fun X hX hR _ _ => ?_)
    have hX : OKc w X RX1 cX1_answer 5 := hX
    have hR : RT w X (some .int) 0 0 Pst 133 false (some (.int r)) u := hR
    refine G_eql (lv' := [some (.ref 115), some (.ref x0), some (.int p1), some (.int p2), some (.int p3), none]) rfl ?_
    refine G_aload_n hX dX1_answer_0 rfl ?_
    refine G_ifnonnull (tgt := 7) hX dX1_answer_1 rfl ?_
    refine G_aload_n hX dX1_answer_7 rfl ?_
    refine G_aload_n hX dX1_answer_8 rfl ?_
    refine G_iload_n hX dX1_answer_9 rfl ?_
    refine G_iload_n hX dX1_answer_10 rfl ?_
    obtain ⟨v2, h1, hf⟩ := bd1_some hf
    refine G_cV (as := [.ref x0, .int p1, .int p2]) (rest := []) hX cvX1_32 (mX1_fitting w hx0 h1) (Nat.le_of_ble_eq_true rfl) kK115 (Nat.le_of_ble_eq_true rfl) (Nat.le_of_ble_eq_true rfl) rfl rfl (Nat.le_of_ble_eq_true rfl) dX1_answer_11 (st' := [.int v2]) rfl ?_
    refine G_istore (lv' := [some (.ref 115), some (.ref x0), some (.int p1), some (.int p2), some (.int p3), some (.int v2)]) hX dX1_answer_14 rfl (Nat.le_of_ble_eq_true rfl) rfl ?_
    refine G_iload hX dX1_answer_16 rfl ?_
    refine G_if_ne (tgt := 26) hX dX1_answer_18 rfl hf (fun hf => ?_) (fun hf => ?_)
    · refine G_aload_n hX dX1_answer_26 rfl ?_
      refine G_iload hX dX1_answer_27 rfl ?_
      obtain ⟨v4, h3, hf⟩ := bd1_some hf
      refine G_cV (as := [.int v2]) (rest := []) hX cvX1_36 (mX1_bestTry w h3) (Nat.le_of_ble_eq_true rfl) kK115 (Nat.le_of_ble_eq_true rfl) (Nat.le_of_ble_eq_true rfl) rfl rfl (Nat.le_of_ble_eq_true rfl) dX1_answer_29 (st' := [.int v4]) rfl ?_
      obtain rfl := Option.some.inj hf
      exact G_iret hX hR dX1_answer_32
    · refine G_iload hX dX1_answer_21 rfl ?_
      refine G_goto (tgt := 32) hX dX1_answer_23 rfl ?_
      obtain rfl := Option.some.inj hf
      exact G_iret hX hR dX1_answer_32
noncomputable def fX7_skills (p0 : Int32) (p1 : Int32) (p2 : Int32) (p3 : Int32) (p4 : Int32) (p5 : Int32) (u : Um) : Option (Int32 × Um) :=
  bd1 (fX7_refusePairs p0 p1 p2 p3 p4 p5 u) fun v2 =>
  if v2 = 0 then
    bd1 (fX1_amongSkills 3 p0 u) fun u4 =>
    bd1 (fX7_sheetAt p1 u4) fun o6 =>
    spl o6 5
      (bd1 (fX1_answer none p3 p4 p5 u4) fun v10 =>
      some (v10, u4))
    (fun x7 =>
      bd1 (fX1_answer (some x7) p3 p4 p5 u4) fun v12 =>
      some (v12, u4))
  else
    some (v2, u)
set_option maxHeartbeats 4000000 in
set_option maxRecDepth 100000 in
theorem mX7_skills (w : Wc) {p0 : Int32} {p1 : Int32} {p2 : Int32} {p3 : Int32} {p4 : Int32} {p5 : Int32}  {u : Um} {r : Int32} {u' : Um} (hf : fX7_skills p0 p1 p2 p3 p4 p5 u = some (r, u')) : MC w 6 qX7_skills [.ref 0, .int p0, .int p1, .int p2, .int p3, .int p4, .int p5] u (some (.int r)) u' := by
  unfold fX7_skills at hf
  refine MC_intro pnX7 (Nat.le_of_ble_eq_true rfl) (fun X hX hR _ _ => ?_)
  have hX : OKc w X RX7 cX7_skills 6 := hX
  have hR : RT w X (some .int) 0 0 Pst 133 false (some (.int r)) u' := hR
  refine G_eql (lv' := [some (.ref 0), some (.int p0), some (.int p1), some (.int p2), some (.int p3), some (.int p4), some (.int p5), none]) rfl ?_
  refine G_aload_n hX dX7_skills_0 rfl ?_
  refine G_iload_n hX dX7_skills_1 rfl ?_
  refine G_iload_n hX dX7_skills_2 rfl ?_
  refine G_iload_n hX dX7_skills_3 rfl ?_
  refine G_iload hX dX7_skills_4 rfl ?_
  refine G_iload hX dX7_skills_6 rfl ?_
  refine G_iload hX dX7_skills_8 rfl ?_
  obtain ⟨v2, h1, hf⟩ := bd1_some hf
  refine G_cV (as := [.int p0, .int p1, .int p2, .int p3, .int p4, .int p5]) (rest := []) hX cvX7_242 (mX7_refusePairs w h1) (Nat.le_of_ble_eq_true rfl) kK0 (Nat.le_of_ble_eq_true rfl) (Nat.le_of_ble_eq_true rfl) rfl rfl (Nat.le_of_ble_eq_true rfl) dX7_skills_10 (st' := [.int v2]) rfl ?_
  refine G_istore (lv' := [some (.ref 0), some (.int p0), some (.int p1), some (.int p2), some (.int p3), some (.int p4), some (.int p5), some (.int v2)]) hX dX7_skills_13 rfl (Nat.le_of_ble_eq_true rfl) rfl ?_
  refine G_iload hX dX7_skills_15 rfl ?_
  refine G_if_eq (tgt := 23) hX dX7_skills_17 rfl hf (fun hf => ?_) (fun hf => ?_)
  · refine G_aload_n hX dX7_skills_23 rfl ?_
    refine G_getR (i := 8) (t := 115) hX kK0 (Nat.le_of_ble_eq_true rfl) (Nat.le_of_ble_eq_true rfl) rfl pK0_8 flX7_61 dX7_skills_24 ?_
    refine G_aload_n hX dX7_skills_27 rfl ?_
    refine G_getR (i := 1) (t := 3) hX kK0 (Nat.le_of_ble_eq_true rfl) (Nat.le_of_ble_eq_true rfl) rfl pK0_1 flX7_19 dX7_skills_28 ?_
    refine G_iload_n hX dX7_skills_31 rfl ?_
    obtain ⟨u4, h3, hf⟩ := bd1_some hf
    refine G_cV (as := [.ref 3, .int p0]) (rest := []) hX cvX7_246 (mX1_amongSkills w kK3 h3) (Nat.le_of_ble_eq_true rfl) kK115 (Nat.le_of_ble_eq_true rfl) (Nat.le_of_ble_eq_true rfl) rfl rfl (Nat.le_of_ble_eq_true rfl) dX7_skills_32 (st' := []) rfl ?_
    refine G_aload_n hX dX7_skills_35 rfl ?_
    refine G_getR (i := 8) (t := 115) hX kK0 (Nat.le_of_ble_eq_true rfl) (Nat.le_of_ble_eq_true rfl) rfl pK0_8 flX7_61 dX7_skills_36 ?_
    refine G_aload_n hX dX7_skills_39 rfl ?_
    refine G_iload_n hX dX7_skills_40 rfl ?_
    obtain ⟨o6, h5, hf⟩ := bd1_some hf
    refine G_cV (as := [.int p1]) (rest := [.ref 115]) hX cvX7_202 (mX7_sheetAt w h5) (Nat.le_of_ble_eq_true rfl) kK0 (Nat.le_of_ble_eq_true rfl) (Nat.le_of_ble_eq_true rfl) rfl rfl (Nat.le_of_ble_eq_true rfl) dX7_skills_41 (st' := va_rf o6 :: [.ref 115]) rfl ?_
    cases o6 with
    | none =>
      replace hf := spl_none hf
      refine G_eqs (st2 := .null :: [.ref 115]) rfl ?_
      refine G_iload hX dX7_skills_44 rfl ?_
      refine G_iload hX dX7_skills_46 rfl ?_
      refine G_iload hX dX7_skills_48 rfl ?_
      obtain ⟨v10, h9, hf⟩ := bd1_some hf
      refine G_cV (as := [.null, .int p3, .int p4, .int p5]) (rest := []) hX cvX7_250 (mX1_answer w h9) (Nat.le_of_ble_eq_true rfl) kK115 (Nat.le_of_ble_eq_true rfl) (Nat.le_of_ble_eq_true rfl) rfl rfl (Nat.le_of_ble_eq_true rfl) dX7_skills_50 (st' := [.int v10]) rfl ?_
      obtain ⟨rfl, rfl⟩ := ret2 hf
      exact G_iret hX hR dX7_skills_53
    | some x7 =>
      obtain ⟨h8, hf⟩ := spl_some hf
      refine G_eqs (st2 := .ref x7 :: [.ref 115]) rfl ?_
      refine G_iload hX dX7_skills_44 rfl ?_
      refine G_iload hX dX7_skills_46 rfl ?_
      refine G_iload hX dX7_skills_48 rfl ?_
      obtain ⟨v12, h11, hf⟩ := bd1_some hf
      refine G_cV (as := [.ref x7, .int p3, .int p4, .int p5]) (rest := []) hX cvX7_250 (mX1_answer w h11) (Nat.le_of_ble_eq_true rfl) kK115 (Nat.le_of_ble_eq_true rfl) (Nat.le_of_ble_eq_true rfl) rfl rfl (Nat.le_of_ble_eq_true rfl) dX7_skills_50 (st' := [.int v12]) rfl ?_
      obtain ⟨rfl, rfl⟩ := ret2 hf
      exact G_iret hX hR dX7_skills_53
  · refine G_iload hX dX7_skills_20 rfl ?_
    obtain ⟨rfl, rfl⟩ := ret2 hf
    exact G_iret hX hR dX7_skills_22
noncomputable def fX1_amongKinds_b12 (p0 : Nat) (p1 : Int32) (s3 : Int32) (u : Um) : Option (Nat × Int32 × Um) :=
  if 100 ≤ s3 then
    some (1, s3, u)
  else
    bd1 (fX0_trait p0 p1 1 u) fun v4 =>
    bd1 (fX0_trait p0 p1 6 u) fun v6 =>
    bd1 (fX7_sayingOf (s3 / 10) v4 v6 (irm s3 10) u) fun v8 =>
    if inb s3 100 = true then
    nm (sI u 116 s3.toNatClampNeg v8) fun u9 =>
    nm (s3 + 1) fun v10 =>
    some (0, v10, u9)
    else none
set_option maxHeartbeats 4000000 in
set_option maxRecDepth 100000 in
theorem tX1_amongKinds_b12 {w : Wc} {X : MX} (hX : OKc w X RX1 cX1_amongKinds 2) {p0 : Nat} {p1 : Int32} (hp0 : kd p0 = 0) {s : Int32 × Um} {e : Nat} {s' : Int32 × Um} (hf : fX1_amongKinds_b12 p0 p1 s.1 s.2 = some (e, s')) (K0 : e = 0 → G w X Zm 12 [some (.ref 115), some (.ref p0), some (.int p1), some (.int s'.1)] [] s'.2) (K1 : e ≠ 0 → G w X Zm 57 [none, none, none, none] [] s'.2) : G w X Zm 12 [some (.ref 115), some (.ref p0), some (.int p1), some (.int s.1)] [] s.2 := by
  obtain ⟨s3, u⟩ := s
  unfold fX1_amongKinds_b12 at hf
  try dsimp only at hf ⊢
  refine G_iload_n hX dX1_amongKinds_12 rfl ?_
  refine G_aload_n hX dX1_amongKinds_13 rfl ?_
  refine G_getR (i := 0) (t := 116) hX kK115 (Nat.le_of_ble_eq_true rfl) (Nat.le_of_ble_eq_true rfl) rfl pK115_0 flX1_11 dX1_amongKinds_14 ?_
  refine G_alenI (n := 100) (v := 100) hX kK116 lK116 (Nat.le_of_ble_eq_true rfl) dX1_amongKinds_17 rfl ?_
  refine G_icmp_ge (tgt := 57) hX dX1_amongKinds_18 rfl hf (fun hf => ?_) (fun hf => ?_)
  · obtain ⟨rfl, rfl⟩ := ret2 hf
    refine G_mask (lv' := [none, none, none, none]) [false, false, false, false] rfl rfl ?_
    exact K1 (by decide)
  · refine G_aload_n hX dX1_amongKinds_21 rfl ?_
    refine G_getR (i := 0) (t := 116) hX kK115 (Nat.le_of_ble_eq_true rfl) (Nat.le_of_ble_eq_true rfl) rfl pK115_0 flX1_11 dX1_amongKinds_22 ?_
    refine G_iload_n hX dX1_amongKinds_25 rfl ?_
    refine G_iload_n hX dX1_amongKinds_26 rfl ?_
    refine G_bipush (v := 10) hX dX1_amongKinds_27 rfl ?_
    refine G_idiv hX dX1_amongKinds_29 (by decide) ?_
    refine G_aload_n hX dX1_amongKinds_30 rfl ?_
    refine G_iload_n hX dX1_amongKinds_31 rfl ?_
    refine G_iconst (v := 1) hX dX1_amongKinds_32 rfl ?_
    obtain ⟨v4, h3, hf⟩ := bd1_some hf
    refine G_cV (as := [.int p1, .int 1]) (rest := [.int (s3 / 10), .int s3, .ref 116]) hX cvX1_22 (mX0_trait w hp0 h3) (Nat.le_of_ble_eq_true rfl) hp0 (Nat.le_of_ble_eq_true rfl) (kd_lt hp0 (Nat.le_of_ble_eq_true rfl)) rfl rfl (Nat.le_of_ble_eq_true rfl) dX1_amongKinds_33 (st' := [.int v4, .int (s3 / 10), .int s3, .ref 116]) rfl ?_
    refine G_aload_n hX dX1_amongKinds_36 rfl ?_
    refine G_iload_n hX dX1_amongKinds_37 rfl ?_
    refine G_bipush (v := 6) hX dX1_amongKinds_38 rfl ?_
    obtain ⟨v6, h5, hf⟩ := bd1_some hf
    refine G_cV (as := [.int p1, .int 6]) (rest := [.int v4, .int (s3 / 10), .int s3, .ref 116]) hX cvX1_22 (mX0_trait w hp0 h5) (Nat.le_of_ble_eq_true rfl) hp0 (Nat.le_of_ble_eq_true rfl) (kd_lt hp0 (Nat.le_of_ble_eq_true rfl)) rfl rfl (Nat.le_of_ble_eq_true rfl) dX1_amongKinds_40 (st' := [.int v6, .int v4, .int (s3 / 10), .int s3, .ref 116]) rfl ?_
    refine G_iload_n hX dX1_amongKinds_43 rfl ?_
    refine G_bipush (v := 10) hX dX1_amongKinds_44 rfl ?_
    refine G_irem hX dX1_amongKinds_46 (by decide) ?_
    obtain ⟨v8, h7, hf⟩ := bd1_some hf
    refine G_cN (as := [.int (s3 / 10), .int v4, .int v6, .int (irm s3 10)]) (rest := [.int s3, .ref 116]) hX cnX1_28 (mX7_sayingOf w h7) (Nat.le_of_ble_eq_true rfl) rfl rfl (Nat.le_of_ble_eq_true rfl) dX1_amongKinds_47 (st' := [.int v8, .int s3, .ref 116]) rfl ?_
    refine G_iast (n := 100) hX kK116 lK116 (Nat.le_of_ble_eq_true rfl) rfl dX1_amongKinds_50 hf (fun u9 hf => ?_)
    refine G_iincF (lvf := fun v10 => [some (.ref 115), some (.ref p0), some (.int p1), some (.int v10)]) hX dX1_amongKinds_51 rfl rfl rfl (Nat.le_of_ble_eq_true rfl) (fun _ => rfl) hf (fun v10 hf => ?_)
    refine G_goto (tgt := 12) hX dX1_amongKinds_54 rfl ?_
    obtain ⟨rfl, rfl⟩ := ret2 hf
    refine G_mask (lv' := [some (.ref 115), some (.ref p0), some (.int p1), some (.int v10)]) [true, true, true, true] rfl rfl ?_
    exact K0 rfl
noncomputable def fX1_amongKinds (p0 : Nat) (p1 : Int32) (u : Um) : Option Um :=
  nm (sI u 115 1 1) fun u1 =>
  nm (sI u1 115 2 5) fun u2 =>
  bd3 (lp (fun s => fX1_amongKinds_b12 p0 p1 s.1 s.2) fuel ((0 : Int32), u2)) fun e13 v11 u12 =>
  some u12
set_option maxHeartbeats 4000000 in
set_option maxRecDepth 100000 in
theorem mX1_amongKinds (w : Wc) {p0 : Nat} {p1 : Int32} (hp0 : kd p0 = 0) {u : Um} {u' : Um} (hf : fX1_amongKinds p0 p1 u = some u') : MC w 2 qX1_amongKinds [.ref 115, .ref p0, .int p1] u none u' := by
  unfold fX1_amongKinds at hf
  refine MC_intro pnX1 (Nat.le_of_ble_eq_true rfl) (fun X hX hR _ _ => ?_)
  have hX : OKc w X RX1 cX1_amongKinds 2 := hX
  have hR : RT w X none 0 0 Pst 133 false none u' := hR
  refine G_eql (lv' := [some (.ref 115), some (.ref p0), some (.int p1), none]) rfl ?_
  refine G_aload_n hX dX1_amongKinds_0 rfl ?_
  refine G_iconst (v := 1) hX dX1_amongKinds_1 rfl ?_
  refine G_putI (i := 1) hX kK115 (Nat.le_of_ble_eq_true rfl) (Nat.le_of_ble_eq_true rfl) rfl rfl flX1_15 fwX1_1 dX1_amongKinds_2 hf (fun u1 hf => ?_)
  refine G_aload_n hX dX1_amongKinds_5 rfl ?_
  refine G_iconst (v := 5) hX dX1_amongKinds_6 rfl ?_
  refine G_putI (i := 2) hX kK115 (Nat.le_of_ble_eq_true rfl) (Nat.le_of_ble_eq_true rfl) rfl rfl flX1_19 fwX1_2 dX1_amongKinds_7 hf (fun u2 hf => ?_)
  refine G_iconst (v := 0) hX dX1_amongKinds_10 rfl ?_
  refine G_istore_n (lv' := [some (.ref 115), some (.ref p0), some (.int p1), some (.int 0)]) hX dX1_amongKinds_11 rfl (Nat.le_of_ble_eq_true rfl) rfl ?_
  obtain ⟨e13, v11, u12, h14, hf⟩ := bd3_some hf
  refine G_mask (lv' := [some (.ref 115), some (.ref p0), some (.int p1), some (.int 0)]) [true, true, true, true] rfl rfl ?_
  refine lp_G (body := (fun s => fX1_amongKinds_b12 p0 p1 s.1 s.2)) (Gh := fun s => G w X Zm 12 [some (.ref 115), some (.ref p0), some (.int p1), some (.int s.1)] [] s.2) (Gx := fun e s => G w X Zm 57 [none, none, none, none] [] s.2) (fun s e s' hb K0 K1 => tX1_amongKinds_b12 (s := s) (e := e) (s' := s') hX hp0  hb K0 K1) fuel ((0 : Int32), u2) (e13, v11, u12) h14 ?_
  obtain rfl := Option.some.inj hf
  exact G_vret hX hR dX1_amongKinds_57
noncomputable def fX7_kinds (p0 : Int32) (p1 : Int32) (p2 : Int32) (p3 : Int32) (p4 : Int32) (p5 : Int32) (u : Um) : Option (Int32 × Um) :=
  bd1 (fX7_refusePairs p0 p1 p2 p3 p4 p5 u) fun v2 =>
  if v2 = 0 then
    bd1 (fX1_amongKinds 3 p0 u) fun u4 =>
    bd1 (fX7_sheetAt p1 u4) fun o6 =>
    spl o6 5
      (bd1 (fX1_answer none p3 p4 p5 u4) fun v10 =>
      some (v10, u4))
    (fun x7 =>
      bd1 (fX1_answer (some x7) p3 p4 p5 u4) fun v12 =>
      some (v12, u4))
  else
    some (v2, u)
set_option maxHeartbeats 4000000 in
set_option maxRecDepth 100000 in
theorem mX7_kinds (w : Wc) {p0 : Int32} {p1 : Int32} {p2 : Int32} {p3 : Int32} {p4 : Int32} {p5 : Int32}  {u : Um} {r : Int32} {u' : Um} (hf : fX7_kinds p0 p1 p2 p3 p4 p5 u = some (r, u')) : MC w 6 qX7_kinds [.ref 0, .int p0, .int p1, .int p2, .int p3, .int p4, .int p5] u (some (.int r)) u' := by
  unfold fX7_kinds at hf
  refine MC_intro pnX7 (Nat.le_of_ble_eq_true rfl) (fun X hX hR _ _ => ?_)
  have hX : OKc w X RX7 cX7_kinds 6 := hX
  have hR : RT w X (some .int) 0 0 Pst 133 false (some (.int r)) u' := hR
  refine G_eql (lv' := [some (.ref 0), some (.int p0), some (.int p1), some (.int p2), some (.int p3), some (.int p4), some (.int p5), none]) rfl ?_
  refine G_aload_n hX dX7_kinds_0 rfl ?_
  refine G_iload_n hX dX7_kinds_1 rfl ?_
  refine G_iload_n hX dX7_kinds_2 rfl ?_
  refine G_iload_n hX dX7_kinds_3 rfl ?_
  refine G_iload hX dX7_kinds_4 rfl ?_
  refine G_iload hX dX7_kinds_6 rfl ?_
  refine G_iload hX dX7_kinds_8 rfl ?_
  obtain ⟨v2, h1, hf⟩ := bd1_some hf
  refine G_cV (as := [.int p0, .int p1, .int p2, .int p3, .int p4, .int p5]) (rest := []) hX cvX7_242 (mX7_refusePairs w h1) (Nat.le_of_ble_eq_true rfl) kK0 (Nat.le_of_ble_eq_true rfl) (Nat.le_of_ble_eq_true rfl) rfl rfl (Nat.le_of_ble_eq_true rfl) dX7_kinds_10 (st' := [.int v2]) rfl ?_
  refine G_istore (lv' := [some (.ref 0), some (.int p0), some (.int p1), some (.int p2), some (.int p3), some (.int p4), some (.int p5), some (.int v2)]) hX dX7_kinds_13 rfl (Nat.le_of_ble_eq_true rfl) rfl ?_
  refine G_iload hX dX7_kinds_15 rfl ?_
  refine G_if_eq (tgt := 23) hX dX7_kinds_17 rfl hf (fun hf => ?_) (fun hf => ?_)
  · refine G_aload_n hX dX7_kinds_23 rfl ?_
    refine G_getR (i := 8) (t := 115) hX kK0 (Nat.le_of_ble_eq_true rfl) (Nat.le_of_ble_eq_true rfl) rfl pK0_8 flX7_61 dX7_kinds_24 ?_
    refine G_aload_n hX dX7_kinds_27 rfl ?_
    refine G_getR (i := 1) (t := 3) hX kK0 (Nat.le_of_ble_eq_true rfl) (Nat.le_of_ble_eq_true rfl) rfl pK0_1 flX7_19 dX7_kinds_28 ?_
    refine G_iload_n hX dX7_kinds_31 rfl ?_
    obtain ⟨u4, h3, hf⟩ := bd1_some hf
    refine G_cV (as := [.ref 3, .int p0]) (rest := []) hX cvX7_254 (mX1_amongKinds w kK3 h3) (Nat.le_of_ble_eq_true rfl) kK115 (Nat.le_of_ble_eq_true rfl) (Nat.le_of_ble_eq_true rfl) rfl rfl (Nat.le_of_ble_eq_true rfl) dX7_kinds_32 (st' := []) rfl ?_
    refine G_aload_n hX dX7_kinds_35 rfl ?_
    refine G_getR (i := 8) (t := 115) hX kK0 (Nat.le_of_ble_eq_true rfl) (Nat.le_of_ble_eq_true rfl) rfl pK0_8 flX7_61 dX7_kinds_36 ?_
    refine G_aload_n hX dX7_kinds_39 rfl ?_
    refine G_iload_n hX dX7_kinds_40 rfl ?_
    obtain ⟨o6, h5, hf⟩ := bd1_some hf
    refine G_cV (as := [.int p1]) (rest := [.ref 115]) hX cvX7_202 (mX7_sheetAt w h5) (Nat.le_of_ble_eq_true rfl) kK0 (Nat.le_of_ble_eq_true rfl) (Nat.le_of_ble_eq_true rfl) rfl rfl (Nat.le_of_ble_eq_true rfl) dX7_kinds_41 (st' := va_rf o6 :: [.ref 115]) rfl ?_
    cases o6 with
    | none =>
      replace hf := spl_none hf
      refine G_eqs (st2 := .null :: [.ref 115]) rfl ?_
      refine G_iload hX dX7_kinds_44 rfl ?_
      refine G_iload hX dX7_kinds_46 rfl ?_
      refine G_iload hX dX7_kinds_48 rfl ?_
      obtain ⟨v10, h9, hf⟩ := bd1_some hf
      refine G_cV (as := [.null, .int p3, .int p4, .int p5]) (rest := []) hX cvX7_250 (mX1_answer w h9) (Nat.le_of_ble_eq_true rfl) kK115 (Nat.le_of_ble_eq_true rfl) (Nat.le_of_ble_eq_true rfl) rfl rfl (Nat.le_of_ble_eq_true rfl) dX7_kinds_50 (st' := [.int v10]) rfl ?_
      obtain ⟨rfl, rfl⟩ := ret2 hf
      exact G_iret hX hR dX7_kinds_53
    | some x7 =>
      obtain ⟨h8, hf⟩ := spl_some hf
      refine G_eqs (st2 := .ref x7 :: [.ref 115]) rfl ?_
      refine G_iload hX dX7_kinds_44 rfl ?_
      refine G_iload hX dX7_kinds_46 rfl ?_
      refine G_iload hX dX7_kinds_48 rfl ?_
      obtain ⟨v12, h11, hf⟩ := bd1_some hf
      refine G_cV (as := [.ref x7, .int p3, .int p4, .int p5]) (rest := []) hX cvX7_250 (mX1_answer w h11) (Nat.le_of_ble_eq_true rfl) kK115 (Nat.le_of_ble_eq_true rfl) (Nat.le_of_ble_eq_true rfl) rfl rfl (Nat.le_of_ble_eq_true rfl) dX7_kinds_50 (st' := [.int v12]) rfl ?_
      obtain ⟨rfl, rfl⟩ := ret2 hf
      exact G_iret hX hR dX7_kinds_53
  · refine G_iload hX dX7_kinds_20 rfl ?_
    obtain ⟨rfl, rfl⟩ := ret2 hf
    exact G_iret hX hR dX7_kinds_22
noncomputable def fX0_carriedByAll_b4 (a : Nat) (s1 : Int32) (s2 : Int32) (u : Um) : Option (Nat × Int32 × Int32) :=
  if (u.1 a 2) ≤ s2 then
    some (1, s1, s2)
  else
    bd1 (fX0_trait a s2 6 u) fun v2 =>
    nm (s1 + v2) fun v3 =>
    nm (s2 + 1) fun v4 =>
    some (0, v3, v4)
set_option maxHeartbeats 4000000 in
set_option maxRecDepth 100000 in
theorem tX0_carriedByAll_b4 {w : Wc} {X : MX} (hX : OKc w X RX0 cX0_carriedByAll 2) {a : Nat} (ha : kd a = 0) {s : Int32 × Int32} {e : Nat} {s' : Int32 × Int32} {u : Um} (hf : fX0_carriedByAll_b4 a s.1 s.2 u = some (e, s')) (K0 : e = 0 → G w X Zm 4 [some (.ref a), some (.int s'.1), some (.int s'.2)] [] u) (K1 : e ≠ 0 → G w X Zm 28 [none, some (.int s'.1), none] [] u) : G w X Zm 4 [some (.ref a), some (.int s.1), some (.int s.2)] [] u := by
  obtain ⟨s1, s2⟩ := s
  unfold fX0_carriedByAll_b4 at hf
  try dsimp only at hf ⊢
  refine G_iload_n hX dX0_carriedByAll_4 rfl ?_
  refine G_aload_n hX dX0_carriedByAll_5 rfl ?_
  refine G_getI (i := 2) hX ha (Nat.le_of_ble_eq_true rfl) (kd_lt ha (Nat.le_of_ble_eq_true rfl)) rfl flX0_18 dX0_carriedByAll_6 ?_
  refine G_icmp_ge (tgt := 28) hX dX0_carriedByAll_9 rfl hf (fun hf => ?_) (fun hf => ?_)
  · obtain ⟨rfl, rfl⟩ := ret2 hf
    refine G_mask (lv' := [none, some (.int s1), none]) [false, true, false] rfl rfl ?_
    exact K1 (by decide)
  · refine G_iload_n hX dX0_carriedByAll_12 rfl ?_
    refine G_aload_n hX dX0_carriedByAll_13 rfl ?_
    refine G_iload_n hX dX0_carriedByAll_14 rfl ?_
    refine G_bipush (v := 6) hX dX0_carriedByAll_15 rfl ?_
    obtain ⟨v2, h1, hf⟩ := bd1_some hf
    refine G_cV (as := [.int s2, .int 6]) (rest := [.int s1]) hX cvX0_45 (mX0_trait w ha h1) (Nat.le_of_ble_eq_true rfl) ha (Nat.le_of_ble_eq_true rfl) (kd_lt ha (Nat.le_of_ble_eq_true rfl)) rfl rfl (Nat.le_of_ble_eq_true rfl) dX0_carriedByAll_17 (st' := [.int v2, .int s1]) rfl ?_
    refine G_iadd hX dX0_carriedByAll_20 ?_
    refine G_istore_nF (lvf := fun v3 => [some (.ref a), some (.int v3), some (.int s2)]) hX dX0_carriedByAll_21 rfl (Nat.le_of_ble_eq_true rfl) (fun _ => rfl) hf (fun v3 hf => ?_)
    refine G_iincF (lvf := fun v4 => [some (.ref a), some (.int v3), some (.int v4)]) hX dX0_carriedByAll_22 rfl rfl rfl (Nat.le_of_ble_eq_true rfl) (fun _ => rfl) hf (fun v4 hf => ?_)
    refine G_goto (tgt := 4) hX dX0_carriedByAll_25 rfl ?_
    obtain ⟨rfl, rfl⟩ := ret2 hf
    refine G_mask (lv' := [some (.ref a), some (.int v3), some (.int v4)]) [true, true, true] rfl rfl ?_
    exact K0 rfl
noncomputable def fX0_carriedByAll (a : Nat) (u : Um) : Option Int32 :=
  bd3 (lp (fun s => fX0_carriedByAll_b4 a s.1 s.2 u) fuel ((0 : Int32), (0 : Int32))) fun e7 v5 v6 =>
  some v5
set_option maxHeartbeats 4000000 in
set_option maxRecDepth 100000 in
theorem mX0_carriedByAll (w : Wc) {a : Nat} (ha : kd a = 0) {u : Um} {r : Int32} (hf : fX0_carriedByAll a u = some r) : MC w 2 qX0_carriedByAll [.ref a] u (some (.int r)) u := by
  unfold fX0_carriedByAll at hf
  refine MC_intro pnX0 (Nat.le_of_ble_eq_true rfl) (fun X hX hR _ _ => ?_)
  have hX : OKc w X RX0 cX0_carriedByAll 2 := hX
  have hR : RT w X (some .int) 0 0 Pst 133 false (some (.int r)) u := hR
  refine G_eql (lv' := [some (.ref a), none, none]) rfl ?_
  refine G_iconst (v := 0) hX dX0_carriedByAll_0 rfl ?_
  refine G_istore_n (lv' := [some (.ref a), some (.int 0), none]) hX dX0_carriedByAll_1 rfl (Nat.le_of_ble_eq_true rfl) rfl ?_
  refine G_iconst (v := 0) hX dX0_carriedByAll_2 rfl ?_
  refine G_istore_n (lv' := [some (.ref a), some (.int 0), some (.int 0)]) hX dX0_carriedByAll_3 rfl (Nat.le_of_ble_eq_true rfl) rfl ?_
  obtain ⟨e7, v5, v6, h8, hf⟩ := bd3_some hf
  refine G_mask (lv' := [some (.ref a), some (.int 0), some (.int 0)]) [true, true, true] rfl rfl ?_
  refine lp_G (body := (fun s => fX0_carriedByAll_b4 a s.1 s.2 u)) (Gh := fun s => G w X Zm 4 [some (.ref a), some (.int s.1), some (.int s.2)] [] u) (Gx := fun e s => G w X Zm 28 [none, some (.int s.1), none] [] u) (fun s e s' hb K0 K1 => tX0_carriedByAll_b4 (s := s) (e := e) (s' := s') hX ha  hb K0 K1) fuel ((0 : Int32), (0 : Int32)) (e7, v5, v6) h8 ?_
  refine G_iload_n hX dX0_carriedByAll_28 rfl ?_
  obtain rfl := Option.some.inj hf
  exact G_iret hX hR dX0_carriedByAll_29
noncomputable def fX0_openWeight_j29 (a : Nat) (j1 : Int32) (j2 : Int32) (u : Um) : Option (Nat × Int32 × Int32) :=
  nm (j2 + 1) fun v3 =>
  some (0, j1, v3)
set_option maxHeartbeats 4000000 in
set_option maxRecDepth 100000 in
theorem tX0_openWeight_j29 {w : Wc} {X : MX} (hX : OKc w X RX0 cX0_openWeight 3) {a : Nat} {j1 : Int32} {j2 : Int32} (ha : kd a = 0)  {u : Um} {e : Nat} {s' : Int32 × Int32} (K0 : e = 0 → G w X Zm 4 [some (.ref a), some (.int s'.1), some (.int s'.2)] [] u) (K1 : e ≠ 0 → G w X Zm 35 [none, some (.int s'.1), none] [] u) (hf : fX0_openWeight_j29 a j1 j2 u = some (e, s')) : G w X Zm 29 [some (.ref a), some (.int j1), some (.int j2)] [] u := by
  unfold fX0_openWeight_j29 at hf
  refine G_iincF (lvf := fun v3 => [some (.ref a), some (.int j1), some (.int v3)]) hX dX0_openWeight_29 rfl rfl rfl (Nat.le_of_ble_eq_true rfl) (fun _ => rfl) hf (fun v3 hf => ?_)
  refine G_goto (tgt := 4) hX dX0_openWeight_32 rfl ?_
  obtain ⟨rfl, rfl⟩ := ret2 hf
  refine G_mask (lv' := [some (.ref a), some (.int j1), some (.int v3)]) [true, true, true] rfl rfl ?_
  exact K0 rfl
noncomputable def fX0_openWeight_b4 (a : Nat) (s1 : Int32) (s2 : Int32) (u : Um) : Option (Nat × Int32 × Int32) :=
  if (u.1 a 3) ≤ s2 then
    some (1, s1, s2)
  else
    bd1 (fX0_isOpen a s2 u) fun v2 =>
    if v2 = 0 then
      fX0_openWeight_j29 a s1 s2 u
    else
      bd1 (fX0_part a s2 2 u) fun v5 =>
      nm (s1 + v5) fun v6 =>
      fX0_openWeight_j29 a v6 s2 u
set_option maxHeartbeats 4000000 in
set_option maxRecDepth 100000 in
theorem tX0_openWeight_b4 {w : Wc} {X : MX} (hX : OKc w X RX0 cX0_openWeight 3) {a : Nat} (ha : kd a = 0) {s : Int32 × Int32} {e : Nat} {s' : Int32 × Int32} {u : Um} (hf : fX0_openWeight_b4 a s.1 s.2 u = some (e, s')) (K0 : e = 0 → G w X Zm 4 [some (.ref a), some (.int s'.1), some (.int s'.2)] [] u) (K1 : e ≠ 0 → G w X Zm 35 [none, some (.int s'.1), none] [] u) : G w X Zm 4 [some (.ref a), some (.int s.1), some (.int s.2)] [] u := by
  obtain ⟨s1, s2⟩ := s
  unfold fX0_openWeight_b4 at hf
  try dsimp only at hf ⊢
  refine G_iload_n hX dX0_openWeight_4 rfl ?_
  refine G_aload_n hX dX0_openWeight_5 rfl ?_
  refine G_getI (i := 3) hX ha (Nat.le_of_ble_eq_true rfl) (kd_lt ha (Nat.le_of_ble_eq_true rfl)) rfl flX0_22 dX0_openWeight_6 ?_
  refine G_icmp_ge (tgt := 35) hX dX0_openWeight_9 rfl hf (fun hf => ?_) (fun hf => ?_)
  · obtain ⟨rfl, rfl⟩ := ret2 hf
    refine G_mask (lv' := [none, some (.int s1), none]) [false, true, false] rfl rfl ?_
    exact K1 (by decide)
  · refine G_aload_n hX dX0_openWeight_12 rfl ?_
    refine G_iload_n hX dX0_openWeight_13 rfl ?_
    obtain ⟨v2, h1, hf⟩ := bd1_some hf
    refine G_cV (as := [.int s2]) (rest := []) hX cvX0_68 (mX0_isOpen w ha h1) (Nat.le_of_ble_eq_true rfl) ha (Nat.le_of_ble_eq_true rfl) (kd_lt ha (Nat.le_of_ble_eq_true rfl)) rfl rfl (Nat.le_of_ble_eq_true rfl) dX0_openWeight_14 (st' := [.int v2]) rfl ?_
    refine G_if_eq (tgt := 29) hX dX0_openWeight_17 rfl hf (fun hf => ?_) (fun hf => ?_)
    · refine G_mask (lv' := [some (.ref a), some (.int s1), some (.int s2)]) [true, true, true] rfl rfl ?_
      exact tX0_openWeight_j29 hX ha K0 K1 hf
    · refine G_iload_n hX dX0_openWeight_20 rfl ?_
      refine G_aload_n hX dX0_openWeight_21 rfl ?_
      refine G_iload_n hX dX0_openWeight_22 rfl ?_
      refine G_iconst (v := 2) hX dX0_openWeight_23 rfl ?_
      obtain ⟨v5, h4, hf⟩ := bd1_some hf
      refine G_cV (as := [.int s2, .int 2]) (rest := [.int s1]) hX cvX0_41 (mX0_part w ha h4) (Nat.le_of_ble_eq_true rfl) ha (Nat.le_of_ble_eq_true rfl) (kd_lt ha (Nat.le_of_ble_eq_true rfl)) rfl rfl (Nat.le_of_ble_eq_true rfl) dX0_openWeight_24 (st' := [.int v5, .int s1]) rfl ?_
      refine G_iadd hX dX0_openWeight_27 ?_
      refine G_istore_nF (lvf := fun v6 => [some (.ref a), some (.int v6), some (.int s2)]) hX dX0_openWeight_28 rfl (Nat.le_of_ble_eq_true rfl) (fun _ => rfl) hf (fun v6 hf => ?_)
      refine G_mask (lv' := [some (.ref a), some (.int v6), some (.int s2)]) [true, true, true] rfl rfl ?_
      exact tX0_openWeight_j29 hX ha K0 K1 hf
noncomputable def fX0_openWeight (a : Nat) (u : Um) : Option Int32 :=
  bd3 (lp (fun s => fX0_openWeight_b4 a s.1 s.2 u) fuel ((0 : Int32), (0 : Int32))) fun e9 v7 v8 =>
  some v7
set_option maxHeartbeats 4000000 in
set_option maxRecDepth 100000 in
theorem mX0_openWeight (w : Wc) {a : Nat} (ha : kd a = 0) {u : Um} {r : Int32} (hf : fX0_openWeight a u = some r) : MC w 3 qX0_openWeight [.ref a] u (some (.int r)) u := by
  unfold fX0_openWeight at hf
  refine MC_intro pnX0 (Nat.le_of_ble_eq_true rfl) (fun X hX hR _ _ => ?_)
  have hX : OKc w X RX0 cX0_openWeight 3 := hX
  have hR : RT w X (some .int) 0 0 Pst 133 false (some (.int r)) u := hR
  refine G_eql (lv' := [some (.ref a), none, none]) rfl ?_
  refine G_iconst (v := 0) hX dX0_openWeight_0 rfl ?_
  refine G_istore_n (lv' := [some (.ref a), some (.int 0), none]) hX dX0_openWeight_1 rfl (Nat.le_of_ble_eq_true rfl) rfl ?_
  refine G_iconst (v := 0) hX dX0_openWeight_2 rfl ?_
  refine G_istore_n (lv' := [some (.ref a), some (.int 0), some (.int 0)]) hX dX0_openWeight_3 rfl (Nat.le_of_ble_eq_true rfl) rfl ?_
  obtain ⟨e9, v7, v8, h10, hf⟩ := bd3_some hf
  refine G_mask (lv' := [some (.ref a), some (.int 0), some (.int 0)]) [true, true, true] rfl rfl ?_
  refine lp_G (body := (fun s => fX0_openWeight_b4 a s.1 s.2 u)) (Gh := fun s => G w X Zm 4 [some (.ref a), some (.int s.1), some (.int s.2)] [] u) (Gx := fun e s => G w X Zm 35 [none, some (.int s.1), none] [] u) (fun s e s' hb K0 K1 => tX0_openWeight_b4 (s := s) (e := e) (s' := s') hX ha  hb K0 K1) fuel ((0 : Int32), (0 : Int32)) (e9, v7, v8) h10 ?_
  refine G_iload_n hX dX0_openWeight_35 rfl ?_
  obtain rfl := Option.some.inj hf
  exact G_iret hX hR dX0_openWeight_36
noncomputable def fX7_count (p0 : Int32) (u : Um) : Option Int32 :=
  if p0 = 0 then
    bd1 (fX0_people 3 u) fun v2 =>
    some v2
  else if p0 = 1 then
    bd1 (fX0_wrongs 3 u) fun v4 =>
    some v4
  else if p0 = 2 then
    bd1 (fX0_openSet 3 u) fun v6 =>
    some v6
  else if p0 = 3 then
    bd1 (fX0_day 3 u) fun v8 =>
    some v8
  else if p0 = 4 then
    bd1 (fX0_carriedByAll 3 u) fun v10 =>
    some v10
  else if p0 = 5 then
    bd1 (fX0_wonSet 3 u) fun v12 =>
    some v12
  else if p0 = 6 then
    bd1 (fX0_openWeight 3 u) fun v14 =>
    some v14
  else if p0 = 7 then
    bd1 (fX3_acts  u) fun v16 =>
    some v16
  else if p0 = 8 then
    bd1 (fX6_length  u) fun v18 =>
    some v18
  else 
  some (-1)
set_option maxHeartbeats 4000000 in
set_option maxRecDepth 100000 in
theorem mX7_count (w : Wc) {p0 : Int32}  {u : Um} {r : Int32} (hf : fX7_count p0 u = some r) : MC w 4 qX7_count [.ref 0, .int p0] u (some (.int r)) u := by
  unfold fX7_count at hf
  refine MC_intro pnX7 (Nat.le_of_ble_eq_true rfl) (fun X hX hR _ _ => ?_)
  have hX : OKc w X RX7 cX7_count 4 := hX
  have hR : RT w X (some .int) 0 0 Pst 133 false (some (.int r)) u := hR
  refine G_eql (lv' := [some (.ref 0), some (.int p0)]) rfl ?_
  refine G_iload_n hX dX7_count_0 rfl ?_
  by_cases c1_0 : p0 = 0
  · rw [if_pos c1_0] at hf
    refine G_tswIn (tgt := 52) hX dX7_count_1 (by rw [c1_0]; decide) (by rw [c1_0]; decide) (by rw [c1_0]; rfl) rfl ?_
    refine G_aload_n hX dX7_count_52 rfl ?_
    refine G_getR (i := 1) (t := 3) hX kK0 (Nat.le_of_ble_eq_true rfl) (Nat.le_of_ble_eq_true rfl) rfl pK0_1 flX7_19 dX7_count_53 ?_
    obtain ⟨v2, h1, hf⟩ := bd1_some hf
    refine G_cV (as := []) (rest := []) hX cvX7_257 (mX0_people w kK3 h1) (Nat.le_of_ble_eq_true rfl) kK3 (Nat.le_of_ble_eq_true rfl) (Nat.le_of_ble_eq_true rfl) rfl rfl (Nat.le_of_ble_eq_true rfl) dX7_count_56 (st' := [.int v2]) rfl ?_
    obtain rfl := Option.some.inj hf
    exact G_iret hX hR dX7_count_59
  rw [if_neg c1_0] at hf
  by_cases c1_1 : p0 = 1
  · rw [if_pos c1_1] at hf
    refine G_tswIn (tgt := 60) hX dX7_count_1 (by rw [c1_1]; decide) (by rw [c1_1]; decide) (by rw [c1_1]; rfl) rfl ?_
    refine G_aload_n hX dX7_count_60 rfl ?_
    refine G_getR (i := 1) (t := 3) hX kK0 (Nat.le_of_ble_eq_true rfl) (Nat.le_of_ble_eq_true rfl) rfl pK0_1 flX7_19 dX7_count_61 ?_
    obtain ⟨v4, h3, hf⟩ := bd1_some hf
    refine G_cV (as := []) (rest := []) hX cvX7_87 (mX0_wrongs w kK3 h3) (Nat.le_of_ble_eq_true rfl) kK3 (Nat.le_of_ble_eq_true rfl) (Nat.le_of_ble_eq_true rfl) rfl rfl (Nat.le_of_ble_eq_true rfl) dX7_count_64 (st' := [.int v4]) rfl ?_
    obtain rfl := Option.some.inj hf
    exact G_iret hX hR dX7_count_67
  rw [if_neg c1_1] at hf
  by_cases c1_2 : p0 = 2
  · rw [if_pos c1_2] at hf
    refine G_tswIn (tgt := 68) hX dX7_count_1 (by rw [c1_2]; decide) (by rw [c1_2]; decide) (by rw [c1_2]; rfl) rfl ?_
    refine G_aload_n hX dX7_count_68 rfl ?_
    refine G_getR (i := 1) (t := 3) hX kK0 (Nat.le_of_ble_eq_true rfl) (Nat.le_of_ble_eq_true rfl) rfl pK0_1 flX7_19 dX7_count_69 ?_
    obtain ⟨v6, h5, hf⟩ := bd1_some hf
    refine G_cV (as := []) (rest := []) hX cvX7_260 (mX0_openSet w kK3 h5) (Nat.le_of_ble_eq_true rfl) kK3 (Nat.le_of_ble_eq_true rfl) (Nat.le_of_ble_eq_true rfl) rfl rfl (Nat.le_of_ble_eq_true rfl) dX7_count_72 (st' := [.int v6]) rfl ?_
    obtain rfl := Option.some.inj hf
    exact G_iret hX hR dX7_count_75
  rw [if_neg c1_2] at hf
  by_cases c1_3 : p0 = 3
  · rw [if_pos c1_3] at hf
    refine G_tswIn (tgt := 76) hX dX7_count_1 (by rw [c1_3]; decide) (by rw [c1_3]; decide) (by rw [c1_3]; rfl) rfl ?_
    refine G_aload_n hX dX7_count_76 rfl ?_
    refine G_getR (i := 1) (t := 3) hX kK0 (Nat.le_of_ble_eq_true rfl) (Nat.le_of_ble_eq_true rfl) rfl pK0_1 flX7_19 dX7_count_77 ?_
    obtain ⟨v8, h7, hf⟩ := bd1_some hf
    refine G_cV (as := []) (rest := []) hX cvX7_118 (mX0_day w kK3 h7) (Nat.le_of_ble_eq_true rfl) kK3 (Nat.le_of_ble_eq_true rfl) (Nat.le_of_ble_eq_true rfl) rfl rfl (Nat.le_of_ble_eq_true rfl) dX7_count_80 (st' := [.int v8]) rfl ?_
    obtain rfl := Option.some.inj hf
    exact G_iret hX hR dX7_count_83
  rw [if_neg c1_3] at hf
  by_cases c1_4 : p0 = 4
  · rw [if_pos c1_4] at hf
    refine G_tswIn (tgt := 84) hX dX7_count_1 (by rw [c1_4]; decide) (by rw [c1_4]; decide) (by rw [c1_4]; rfl) rfl ?_
    refine G_aload_n hX dX7_count_84 rfl ?_
    refine G_getR (i := 1) (t := 3) hX kK0 (Nat.le_of_ble_eq_true rfl) (Nat.le_of_ble_eq_true rfl) rfl pK0_1 flX7_19 dX7_count_85 ?_
    obtain ⟨v10, h9, hf⟩ := bd1_some hf
    refine G_cV (as := []) (rest := []) hX cvX7_263 (mX0_carriedByAll w kK3 h9) (Nat.le_of_ble_eq_true rfl) kK3 (Nat.le_of_ble_eq_true rfl) (Nat.le_of_ble_eq_true rfl) rfl rfl (Nat.le_of_ble_eq_true rfl) dX7_count_88 (st' := [.int v10]) rfl ?_
    obtain rfl := Option.some.inj hf
    exact G_iret hX hR dX7_count_91
  rw [if_neg c1_4] at hf
  by_cases c1_5 : p0 = 5
  · rw [if_pos c1_5] at hf
    refine G_tswIn (tgt := 92) hX dX7_count_1 (by rw [c1_5]; decide) (by rw [c1_5]; decide) (by rw [c1_5]; rfl) rfl ?_
    refine G_aload_n hX dX7_count_92 rfl ?_
    refine G_getR (i := 1) (t := 3) hX kK0 (Nat.le_of_ble_eq_true rfl) (Nat.le_of_ble_eq_true rfl) rfl pK0_1 flX7_19 dX7_count_93 ?_
    obtain ⟨v12, h11, hf⟩ := bd1_some hf
    refine G_cV (as := []) (rest := []) hX cvX7_199 (mX0_wonSet w kK3 h11) (Nat.le_of_ble_eq_true rfl) kK3 (Nat.le_of_ble_eq_true rfl) (Nat.le_of_ble_eq_true rfl) rfl rfl (Nat.le_of_ble_eq_true rfl) dX7_count_96 (st' := [.int v12]) rfl ?_
    obtain rfl := Option.some.inj hf
    exact G_iret hX hR dX7_count_99
  rw [if_neg c1_5] at hf
  by_cases c1_6 : p0 = 6
  · rw [if_pos c1_6] at hf
    refine G_tswIn (tgt := 100) hX dX7_count_1 (by rw [c1_6]; decide) (by rw [c1_6]; decide) (by rw [c1_6]; rfl) rfl ?_
    refine G_aload_n hX dX7_count_100 rfl ?_
    refine G_getR (i := 1) (t := 3) hX kK0 (Nat.le_of_ble_eq_true rfl) (Nat.le_of_ble_eq_true rfl) rfl pK0_1 flX7_19 dX7_count_101 ?_
    obtain ⟨v14, h13, hf⟩ := bd1_some hf
    refine G_cV (as := []) (rest := []) hX cvX7_266 (mX0_openWeight w kK3 h13) (Nat.le_of_ble_eq_true rfl) kK3 (Nat.le_of_ble_eq_true rfl) (Nat.le_of_ble_eq_true rfl) rfl rfl (Nat.le_of_ble_eq_true rfl) dX7_count_104 (st' := [.int v14]) rfl ?_
    obtain rfl := Option.some.inj hf
    exact G_iret hX hR dX7_count_107
  rw [if_neg c1_6] at hf
  by_cases c1_7 : p0 = 7
  · rw [if_pos c1_7] at hf
    refine G_tswIn (tgt := 108) hX dX7_count_1 (by rw [c1_7]; decide) (by rw [c1_7]; decide) (by rw [c1_7]; rfl) rfl ?_
    refine G_aload_n hX dX7_count_108 rfl ?_
    refine G_getR (i := 3) (t := 9) hX kK0 (Nat.le_of_ble_eq_true rfl) (Nat.le_of_ble_eq_true rfl) rfl pK0_3 flX7_29 dX7_count_109 ?_
    obtain ⟨v16, h15, hf⟩ := bd1_some hf
    refine G_cV (as := []) (rest := []) hX cvX7_146 (mX3_acts w h15) (Nat.le_of_ble_eq_true rfl) kK9 (Nat.le_of_ble_eq_true rfl) (Nat.le_of_ble_eq_true rfl) rfl rfl (Nat.le_of_ble_eq_true rfl) dX7_count_112 (st' := [.int v16]) rfl ?_
    obtain rfl := Option.some.inj hf
    exact G_iret hX hR dX7_count_115
  rw [if_neg c1_7] at hf
  by_cases c1_8 : p0 = 8
  · rw [if_pos c1_8] at hf
    refine G_tswIn (tgt := 116) hX dX7_count_1 (by rw [c1_8]; decide) (by rw [c1_8]; decide) (by rw [c1_8]; rfl) rfl ?_
    refine G_aload_n hX dX7_count_116 rfl ?_
    refine G_getR (i := 0) (t := 1) hX kK0 (Nat.le_of_ble_eq_true rfl) (Nat.le_of_ble_eq_true rfl) rfl pK0_0 flX7_10 dX7_count_117 ?_
    obtain ⟨v18, h17, hf⟩ := bd1_some hf
    refine G_cV (as := []) (rest := []) hX cvX7_69 (mX6_length w h17) (Nat.le_of_ble_eq_true rfl) kK1 (Nat.le_of_ble_eq_true rfl) (Nat.le_of_ble_eq_true rfl) rfl rfl (Nat.le_of_ble_eq_true rfl) dX7_count_120 (st' := [.int v18]) rfl ?_
    obtain rfl := Option.some.inj hf
    exact G_iret hX hR dX7_count_123
  rw [if_neg c1_8] at hf
  have n1_0 := lv_neT (a := 0) c1_0 rfl
  have n1_1 := lv_neT (a := 1) c1_1 rfl
  have n1_2 := lv_neT (a := 2) c1_2 rfl
  have n1_3 := lv_neT (a := 3) c1_3 rfl
  have n1_4 := lv_neT (a := 4) c1_4 rfl
  have n1_5 := lv_neT (a := 5) c1_5 rfl
  have n1_6 := lv_neT (a := 6) c1_6 rfl
  have n1_7 := lv_neT (a := 7) c1_7 rfl
  have n1_8 := lv_neT (a := 8) c1_8 rfl
  refine G_tswOut (tgt := 124) hX dX7_count_1 (by omega) rfl ?_
  refine G_iconst (v := (-1)) hX dX7_count_124 rfl ?_
  obtain rfl := Option.some.inj hf
  exact G_iret hX hR dX7_count_125
