noncomputable def fX7_isUnder_b4 (p0 : Int32) (p1 : Int32) (s2 : Int32) (s3 : Int32) (u : Um) : Option (Nat × Int32 × Int32) :=
  if 6 ≤ s3 then
    some (1, s2, s3)
  else
    if s2 < 0 then
      some (1, s2, s3)
    else
      if 6 ≤ s2 then
        some (1, s2, s3)
      else
        if s2 = p1 then
          some (2, s2, s3)
        else
          if inb s2 6 = true then
          nm (kovV s2.toNatClampNeg) fun v1 =>
          nm (s3 + 1) fun v2 =>
          some (0, v1, v2)
          else none
set_option maxHeartbeats 4000000 in
set_option maxRecDepth 100000 in
theorem tX7_isUnder_b4 {w : Wc} {X : MX} (hX : OKc w X RX7 cX7_isUnder 1) {p0 : Int32} {p1 : Int32} {s : Int32 × Int32} {e : Nat} {s' : Int32 × Int32} {u : Um} (hf : fX7_isUnder_b4 p0 p1 s.1 s.2 u = some (e, s')) (K0 : e = 0 → G w X Zm 4 [none, some (.int p1), some (.int s'.1), some (.int s'.2)] [] u) (K1 : e ≠ 0 → if e = 1 then G w X Zm 43 [none, none, none, none] [] u else G w X Zm 29 [none, none, none, none] [] u) : G w X Zm 4 [none, some (.int p1), some (.int s.1), some (.int s.2)] [] u := by
  obtain ⟨s2, s3⟩ := s
  unfold fX7_isUnder_b4 at hf
  try dsimp only at hf ⊢
  refine G_iload_n hX dX7_isUnder_4 rfl ?_
  refine G_getK hX wF_X7_97 dX7_isUnder_5 ?_
  refine G_lenK hX dX7_isUnder_8 ?_
  refine G_icmp_ge (tgt := 43) hX dX7_isUnder_9 rfl hf (fun hf => ?_) (fun hf => ?_)
  · obtain ⟨rfl, rfl⟩ := ret2 hf
    refine G_mask (lv' := [none, none, none, none]) [false, false, false, false] rfl rfl ?_
    exact gx_hit (K1 (by decide))
  · refine G_iload_n hX dX7_isUnder_12 rfl ?_
    refine G_if_lt (tgt := 43) hX dX7_isUnder_13 rfl hf (fun hf => ?_) (fun hf => ?_)
    · obtain ⟨rfl, rfl⟩ := ret2 hf
      refine G_mask (lv' := [none, none, none, none]) [false, false, false, false] rfl rfl ?_
      exact gx_hit (K1 (by decide))
    · refine G_iload_n hX dX7_isUnder_16 rfl ?_
      refine G_getK hX wF_X7_97 dX7_isUnder_17 ?_
      refine G_lenK hX dX7_isUnder_20 ?_
      refine G_icmp_ge (tgt := 43) hX dX7_isUnder_21 rfl hf (fun hf => ?_) (fun hf => ?_)
      · obtain ⟨rfl, rfl⟩ := ret2 hf
        refine G_mask (lv' := [none, none, none, none]) [false, false, false, false] rfl rfl ?_
        exact gx_hit (K1 (by decide))
      · refine G_iload_n hX dX7_isUnder_24 rfl ?_
        refine G_iload_n hX dX7_isUnder_25 rfl ?_
        refine G_icmp_ne (tgt := 31) hX dX7_isUnder_26 rfl hf (fun hf => ?_) (fun hf => ?_)
        · refine G_getK hX wF_X7_97 dX7_isUnder_31 ?_
          refine G_iload_n hX dX7_isUnder_34 rfl ?_
          refine G_ldK hX dX7_isUnder_35 hf (fun hf => ?_)
          refine G_istore_nF (lvf := fun v1 => [none, some (.int p1), some (.int v1), some (.int s3)]) hX dX7_isUnder_36 rfl (Nat.le_of_ble_eq_true rfl) (fun _ => rfl) hf (fun v1 hf => ?_)
          refine G_iincF (lvf := fun v2 => [none, some (.int p1), some (.int v1), some (.int v2)]) hX dX7_isUnder_37 rfl rfl rfl (Nat.le_of_ble_eq_true rfl) (fun _ => rfl) hf (fun v2 hf => ?_)
          refine G_goto (tgt := 4) hX dX7_isUnder_40 rfl ?_
          obtain ⟨rfl, rfl⟩ := ret2 hf
          refine G_mask (lv' := [none, some (.int p1), some (.int v1), some (.int v2)]) [false, true, true, true] rfl rfl ?_
          exact K0 rfl
        · obtain ⟨rfl, rfl⟩ := ret2 hf
          refine G_mask (lv' := [none, none, none, none]) [false, false, false, false] rfl rfl ?_
          exact gx_miss (by decide) (K1 (by decide))
noncomputable def fX7_isUnder (p0 : Int32) (p1 : Int32) (u : Um) : Option Int32 :=
  bd3 (lp (fun s => fX7_isUnder_b4 p0 p1 s.1 s.2 u) fuel (p0, (0 : Int32))) fun e5 v3 v4 =>
  if e5 = 1 then
    some 0
  else
  some 1
set_option maxHeartbeats 4000000 in
set_option maxRecDepth 100000 in
theorem mX7_isUnder (w : Wc) {p0 : Int32} {p1 : Int32}  {u : Um} {r : Int32} (hf : fX7_isUnder p0 p1 u = some r) : MC w 1 qX7_isUnder [.int p0, .int p1] u (some (.int r)) u := by
  unfold fX7_isUnder at hf
  refine MC_intro pnX7 (Nat.le_of_ble_eq_true rfl) (fun X hX hR _ _ => ?_)
  have hX : OKc w X RX7 cX7_isUnder 1 := hX
  have hR : RT w X (some .boolean) 0 0 Pst 133 false (some (.int r)) u := hR
  refine G_eql (lv' := [some (.int p0), some (.int p1), none, none]) rfl ?_
  refine G_iload_n hX dX7_isUnder_0 rfl ?_
  refine G_istore_n (lv' := [some (.int p0), some (.int p1), some (.int p0), none]) hX dX7_isUnder_1 rfl (Nat.le_of_ble_eq_true rfl) rfl ?_
  refine G_iconst (v := 0) hX dX7_isUnder_2 rfl ?_
  refine G_istore_n (lv' := [some (.int p0), some (.int p1), some (.int p0), some (.int 0)]) hX dX7_isUnder_3 rfl (Nat.le_of_ble_eq_true rfl) rfl ?_
  obtain ⟨e5, v3, v4, h6, hf⟩ := bd3_some hf
  refine G_mask (lv' := [none, some (.int p1), some (.int p0), some (.int 0)]) [false, true, true, true] rfl rfl ?_
  refine lp_G (body := (fun s => fX7_isUnder_b4 p0 p1 s.1 s.2 u)) (Gh := fun s => G w X Zm 4 [none, some (.int p1), some (.int s.1), some (.int s.2)] [] u) (Gx := fun e s => if e = 1 then G w X Zm 43 [none, none, none, none] [] u else G w X Zm 29 [none, none, none, none] [] u) (fun s e s' hb K0 K1 => tX7_isUnder_b4 (s := s) (e := e) (s' := s') hX   hb K0 K1) fuel (p0, (0 : Int32)) (e5, v3, v4) h6 ?_
  refine gx2 hf (fun hf => ?_) (fun hf => ?_)
  · refine G_iconst (v := 0) hX dX7_isUnder_43 rfl ?_
    obtain rfl := Option.some.inj hf
    exact G_zret hX hR (by decide) dX7_isUnder_44
  refine G_iconst (v := 1) hX dX7_isUnder_29 rfl ?_
  obtain rfl := Option.some.inj hf
  exact G_zret hX hR (by decide) dX7_isUnder_30
noncomputable def fX7_as (p0 : Int32) (p1 : Int32) (u : Um) : Option Int32 :=
  bd1 (fX0_hasPerson 3 p0 u) fun v2 =>
  if v2 = 0 then
    some (-1)
  else
    if p1 < 0 then
      some (-1)
    else
      if p1 < 6 then
        bd1 (fX0_trait 3 p0 0 u) fun v4 =>
        bd1 (fX7_isUnder v4 p1 u) fun v6 =>
        if v6 = 0 then
          some (-12)
        else
          some p0
      else
        some (-1)
set_option maxHeartbeats 4000000 in
set_option maxRecDepth 100000 in
theorem mX7_as (w : Wc) {p0 : Int32} {p1 : Int32}  {u : Um} {r : Int32} (hf : fX7_as p0 p1 u = some r) : MC w 2 qX7_as [.ref 0, .int p0, .int p1] u (some (.int r)) u := by
  unfold fX7_as at hf
  refine MC_intro pnX7 (Nat.le_of_ble_eq_true rfl) (fun X hX hR _ _ => ?_)
  have hX : OKc w X RX7 cX7_as 2 := hX
  have hR : RT w X (some .int) 0 0 Pst 133 false (some (.int r)) u := hR
  refine G_eql (lv' := [some (.ref 0), some (.int p0), some (.int p1)]) rfl ?_
  refine G_aload_n hX dX7_as_0 rfl ?_
  refine G_getR (i := 1) (t := 3) hX kK0 (Nat.le_of_ble_eq_true rfl) (Nat.le_of_ble_eq_true rfl) rfl pK0_1 flX7_19 dX7_as_1 ?_
  refine G_iload_n hX dX7_as_4 rfl ?_
  obtain ⟨v2, h1, hf⟩ := bd1_some hf
  refine G_cV (as := [.int p0]) (rest := []) hX cvX7_90 (mX0_hasPerson w kK3 h1) (Nat.le_of_ble_eq_true rfl) kK3 (Nat.le_of_ble_eq_true rfl) (Nat.le_of_ble_eq_true rfl) rfl rfl (Nat.le_of_ble_eq_true rfl) dX7_as_5 (st' := [.int v2]) rfl ?_
  refine G_if_eq (tgt := 23) hX dX7_as_8 rfl hf (fun hf => ?_) (fun hf => ?_)
  · refine G_iconst (v := (-1)) hX dX7_as_23 rfl ?_
    obtain rfl := Option.some.inj hf
    exact G_iret hX hR dX7_as_24
  · refine G_iload_n hX dX7_as_11 rfl ?_
    refine G_if_lt (tgt := 23) hX dX7_as_12 rfl hf (fun hf => ?_) (fun hf => ?_)
    · refine G_iconst (v := (-1)) hX dX7_as_23 rfl ?_
      obtain rfl := Option.some.inj hf
      exact G_iret hX hR dX7_as_24
    · refine G_iload_n hX dX7_as_15 rfl ?_
      refine G_getK hX wF_X7_97 dX7_as_16 ?_
      refine G_lenK hX dX7_as_19 ?_
      refine G_icmp_lt (tgt := 25) hX dX7_as_20 rfl hf (fun hf => ?_) (fun hf => ?_)
      · refine G_aload_n hX dX7_as_25 rfl ?_
        refine G_getR (i := 1) (t := 3) hX kK0 (Nat.le_of_ble_eq_true rfl) (Nat.le_of_ble_eq_true rfl) rfl pK0_1 flX7_19 dX7_as_26 ?_
        refine G_iload_n hX dX7_as_29 rfl ?_
        refine G_iconst (v := 0) hX dX7_as_30 rfl ?_
        obtain ⟨v4, h3, hf⟩ := bd1_some hf
        refine G_cV (as := [.int p0, .int 0]) (rest := []) hX cvX7_93 (mX0_trait w kK3 h3) (Nat.le_of_ble_eq_true rfl) kK3 (Nat.le_of_ble_eq_true rfl) (Nat.le_of_ble_eq_true rfl) rfl rfl (Nat.le_of_ble_eq_true rfl) dX7_as_31 (st' := [.int v4]) rfl ?_
        refine G_iload_n hX dX7_as_34 rfl ?_
        obtain ⟨v6, h5, hf⟩ := bd1_some hf
        refine G_cS (as := [.int v4, .int p1]) (rest := []) hX csX7_101 (mX7_isUnder w h5) (Nat.le_of_ble_eq_true rfl) rfl rfl (Nat.le_of_ble_eq_true rfl) dX7_as_35 (st' := [.int v6]) rfl ?_
        refine G_if_eq (tgt := 45) hX dX7_as_38 rfl hf (fun hf => ?_) (fun hf => ?_)
        · refine G_bipush (v := (-12)) hX dX7_as_45 rfl ?_
          obtain rfl := Option.some.inj hf
          exact G_iret hX hR dX7_as_47
        · refine G_iload_n hX dX7_as_41 rfl ?_
          refine G_goto (tgt := 47) hX dX7_as_42 rfl ?_
          obtain rfl := Option.some.inj hf
          exact G_iret hX hR dX7_as_47
      · refine G_iconst (v := (-1)) hX dX7_as_23 rfl ?_
        obtain rfl := Option.some.inj hf
        exact G_iret hX hR dX7_as_24
noncomputable def fX0_hasWrong (a : Nat) (p0 : Int32) (u : Um) : Option Int32 :=
  if p0 < 0 then
    some 0
  else
    if (u.1 a 3) ≤ p0 then
      some 0
    else
      some 1
set_option maxHeartbeats 4000000 in
set_option maxRecDepth 100000 in
theorem mX0_hasWrong (w : Wc) {a : Nat} {p0 : Int32} (ha : kd a = 0) {u : Um} {r : Int32} (hf : fX0_hasWrong a p0 u = some r) : MC w 1 qX0_hasWrong [.ref a, .int p0] u (some (.int r)) u := by
  unfold fX0_hasWrong at hf
  refine MC_intro pnX0 (Nat.le_of_ble_eq_true rfl) (fun X hX hR _ _ => ?_)
  have hX : OKc w X RX0 cX0_hasWrong 1 := hX
  have hR : RT w X (some .boolean) 0 0 Pst 133 false (some (.int r)) u := hR
  refine G_eql (lv' := [some (.ref a), some (.int p0)]) rfl ?_
  refine G_iload_n hX dX0_hasWrong_0 rfl ?_
  refine G_if_lt (tgt := 16) hX dX0_hasWrong_1 rfl hf (fun hf => ?_) (fun hf => ?_)
  · refine G_iconst (v := 0) hX dX0_hasWrong_16 rfl ?_
    obtain rfl := Option.some.inj hf
    exact G_zret hX hR (by decide) dX0_hasWrong_17
  · refine G_iload_n hX dX0_hasWrong_4 rfl ?_
    refine G_aload_n hX dX0_hasWrong_5 rfl ?_
    refine G_getI (i := 3) hX ha (Nat.le_of_ble_eq_true rfl) (kd_lt ha (Nat.le_of_ble_eq_true rfl)) rfl flX0_22 dX0_hasWrong_6 ?_
    refine G_icmp_ge (tgt := 16) hX dX0_hasWrong_9 rfl hf (fun hf => ?_) (fun hf => ?_)
    · refine G_iconst (v := 0) hX dX0_hasWrong_16 rfl ?_
      obtain rfl := Option.some.inj hf
      exact G_zret hX hR (by decide) dX0_hasWrong_17
    · refine G_iconst (v := 1) hX dX0_hasWrong_12 rfl ?_
      refine G_goto (tgt := 17) hX dX0_hasWrong_13 rfl ?_
      obtain rfl := Option.some.inj hf
      exact G_zret hX hR (by decide) dX0_hasWrong_17
noncomputable def fX0_part (a : Nat) (p0 : Int32) (p1 : Int32) (u : Um) : Option Int32 :=
  nm ((p0 * 4) + p1) fun v1 =>
  if v1 < 0 then
    some (-4)
  else
    if v1 < 32 then
      if inb v1 32 = true then
      some (u.1 (a + 2) v1.toNatClampNeg)
      else none
    else
      some (-4)
set_option maxHeartbeats 4000000 in
set_option maxRecDepth 100000 in
theorem mX0_part (w : Wc) {a : Nat} {p0 : Int32} {p1 : Int32} (ha : kd a = 0) {u : Um} {r : Int32} (hf : fX0_part a p0 p1 u = some r) : MC w 1 qX0_part [.ref a, .int p0, .int p1] u (some (.int r)) u := by
  unfold fX0_part at hf
  refine MC_intro pnX0 (Nat.le_of_ble_eq_true rfl) (fun X hX hR _ _ => ?_)
  have hX : OKc w X RX0 cX0_part 1 := hX
  have hR : RT w X (some .int) 0 0 Pst 133 false (some (.int r)) u := hR
  refine G_eql (lv' := [some (.ref a), some (.int p0), some (.int p1), none]) rfl ?_
  refine G_iload_n hX dX0_part_0 rfl ?_
  refine G_iconst (v := 4) hX dX0_part_1 rfl ?_
  refine G_imul hX dX0_part_2 ?_
  refine G_iload_n hX dX0_part_3 rfl ?_
  refine G_iadd hX dX0_part_4 ?_
  refine G_istore_nF (lvf := fun v1 => [some (.ref a), some (.int p0), some (.int p1), some (.int v1)]) hX dX0_part_5 rfl (Nat.le_of_ble_eq_true rfl) (fun _ => rfl) hf (fun v1 hf => ?_)
  refine G_iload_n hX dX0_part_6 rfl ?_
  refine G_if_lt (tgt := 19) hX dX0_part_7 rfl hf (fun hf => ?_) (fun hf => ?_)
  · refine G_bipush (v := (-4)) hX dX0_part_19 rfl ?_
    refine G_goto (tgt := 30) hX dX0_part_21 rfl ?_
    obtain rfl := Option.some.inj hf
    exact G_iret hX hR dX0_part_30
  · refine G_iload_n hX dX0_part_10 rfl ?_
    refine G_aload_n hX dX0_part_11 rfl ?_
    refine G_getR (i := 1) (t := (a + 2)) hX ha (Nat.le_of_ble_eq_true rfl) (kd_lt ha (Nat.le_of_ble_eq_true rfl)) rfl (PC2 ha) flX0_15 dX0_part_12 ?_
    refine G_alenI (n := 32) (v := 32) hX (kC2 ha) (lC2 ha) (xC2 ha) dX0_part_15 rfl ?_
    refine G_icmp_lt (tgt := 24) hX dX0_part_16 rfl hf (fun hf => ?_) (fun hf => ?_)
    · refine G_aload_n hX dX0_part_24 rfl ?_
      refine G_getR (i := 1) (t := (a + 2)) hX ha (Nat.le_of_ble_eq_true rfl) (kd_lt ha (Nat.le_of_ble_eq_true rfl)) rfl (PC2 ha) flX0_15 dX0_part_25 ?_
      refine G_iload_n hX dX0_part_28 rfl ?_
      refine G_iald (n := 32) hX (kC2 ha) (lC2 ha) (xC2 ha) dX0_part_29 hf (fun hf => ?_)
      obtain rfl := Option.some.inj hf
      exact G_iret hX hR dX0_part_30
    · refine G_bipush (v := (-4)) hX dX0_part_19 rfl ?_
      refine G_goto (tgt := 30) hX dX0_part_21 rfl ?_
      obtain rfl := Option.some.inj hf
      exact G_iret hX hR dX0_part_30
noncomputable def fX0_need (a : Nat) (p0 : Int32) (u : Um) : Option Int32 :=
  bd1 (fX0_part a p0 2 u) fun v2 =>
  bd1 (fX0_part a p0 1 u) fun v4 =>
  bd1 (fX0_trait a v4 2 u) fun v6 =>
  some (v2 + (v6 / 2))
set_option maxHeartbeats 4000000 in
set_option maxRecDepth 100000 in
theorem mX0_need (w : Wc) {a : Nat} {p0 : Int32} (ha : kd a = 0) {u : Um} {r : Int32} (hf : fX0_need a p0 u = some r) : MC w 2 qX0_need [.ref a, .int p0] u (some (.int r)) u := by
  unfold fX0_need at hf
  refine MC_intro pnX0 (Nat.le_of_ble_eq_true rfl) (fun X hX hR _ _ => ?_)
  have hX : OKc w X RX0 cX0_need 2 := hX
  have hR : RT w X (some .int) 0 0 Pst 133 false (some (.int r)) u := hR
  refine G_eql (lv' := [some (.ref a), some (.int p0)]) rfl ?_
  refine G_aload_n hX dX0_need_0 rfl ?_
  refine G_iload_n hX dX0_need_1 rfl ?_
  refine G_iconst (v := 2) hX dX0_need_2 rfl ?_
  obtain ⟨v2, h1, hf⟩ := bd1_some hf
  refine G_cV (as := [.int p0, .int 2]) (rest := []) hX cvX0_41 (mX0_part w ha h1) (Nat.le_of_ble_eq_true rfl) ha (Nat.le_of_ble_eq_true rfl) (kd_lt ha (Nat.le_of_ble_eq_true rfl)) rfl rfl (Nat.le_of_ble_eq_true rfl) dX0_need_3 (st' := [.int v2]) rfl ?_
  refine G_aload_n hX dX0_need_6 rfl ?_
  refine G_aload_n hX dX0_need_7 rfl ?_
  refine G_iload_n hX dX0_need_8 rfl ?_
  refine G_iconst (v := 1) hX dX0_need_9 rfl ?_
  obtain ⟨v4, h3, hf⟩ := bd1_some hf
  refine G_cV (as := [.int p0, .int 1]) (rest := [.ref a, .int v2]) hX cvX0_41 (mX0_part w ha h3) (Nat.le_of_ble_eq_true rfl) ha (Nat.le_of_ble_eq_true rfl) (kd_lt ha (Nat.le_of_ble_eq_true rfl)) rfl rfl (Nat.le_of_ble_eq_true rfl) dX0_need_10 (st' := [.int v4, .ref a, .int v2]) rfl ?_
  refine G_iconst (v := 2) hX dX0_need_13 rfl ?_
  obtain ⟨v6, h5, hf⟩ := bd1_some hf
  refine G_cV (as := [.int v4, .int 2]) (rest := [.int v2]) hX cvX0_45 (mX0_trait w ha h5) (Nat.le_of_ble_eq_true rfl) ha (Nat.le_of_ble_eq_true rfl) (kd_lt ha (Nat.le_of_ble_eq_true rfl)) rfl rfl (Nat.le_of_ble_eq_true rfl) dX0_need_14 (st' := [.int v6, .int v2]) rfl ?_
  refine G_iconst (v := 2) hX dX0_need_17 rfl ?_
  refine G_idiv hX dX0_need_18 (by decide) ?_
  refine G_iadd hX dX0_need_19 ?_
  obtain rfl := Option.some.inj hf
  exact G_iret hX hR dX0_need_20
noncomputable def fX7_wrong (p0 : Int32) (p1 : Int32) (u : Um) : Option Int32 :=
  bd1 (fX0_hasWrong 3 p0 u) fun v2 =>
  if v2 = 0 then
    some (-1)
  else
    if p1 < 0 then
      some (-1)
    else
      if p1 ≤ 4 then
        if p1 = 4 then
          bd1 (fX0_need 3 p0 u) fun v6 =>
          some v6
        else
          bd1 (fX0_part 3 p0 p1 u) fun v4 =>
          some v4
      else
        some (-1)
set_option maxHeartbeats 4000000 in
set_option maxRecDepth 100000 in
theorem mX7_wrong (w : Wc) {p0 : Int32} {p1 : Int32}  {u : Um} {r : Int32} (hf : fX7_wrong p0 p1 u = some r) : MC w 3 qX7_wrong [.ref 0, .int p0, .int p1] u (some (.int r)) u := by
  unfold fX7_wrong at hf
  refine MC_intro pnX7 (Nat.le_of_ble_eq_true rfl) (fun X hX hR _ _ => ?_)
  have hX : OKc w X RX7 cX7_wrong 3 := hX
  have hR : RT w X (some .int) 0 0 Pst 133 false (some (.int r)) u := hR
  refine G_eql (lv' := [some (.ref 0), some (.int p0), some (.int p1)]) rfl ?_
  refine G_aload_n hX dX7_wrong_0 rfl ?_
  refine G_getR (i := 1) (t := 3) hX kK0 (Nat.le_of_ble_eq_true rfl) (Nat.le_of_ble_eq_true rfl) rfl pK0_1 flX7_19 dX7_wrong_1 ?_
  refine G_iload_n hX dX7_wrong_4 rfl ?_
  obtain ⟨v2, h1, hf⟩ := bd1_some hf
  refine G_cV (as := [.int p0]) (rest := []) hX cvX7_105 (mX0_hasWrong w kK3 h1) (Nat.le_of_ble_eq_true rfl) kK3 (Nat.le_of_ble_eq_true rfl) (Nat.le_of_ble_eq_true rfl) rfl rfl (Nat.le_of_ble_eq_true rfl) dX7_wrong_5 (st' := [.int v2]) rfl ?_
  refine G_if_eq (tgt := 20) hX dX7_wrong_8 rfl hf (fun hf => ?_) (fun hf => ?_)
  · refine G_iconst (v := (-1)) hX dX7_wrong_20 rfl ?_
    obtain rfl := Option.some.inj hf
    exact G_iret hX hR dX7_wrong_21
  · refine G_iload_n hX dX7_wrong_11 rfl ?_
    refine G_if_lt (tgt := 20) hX dX7_wrong_12 rfl hf (fun hf => ?_) (fun hf => ?_)
    · refine G_iconst (v := (-1)) hX dX7_wrong_20 rfl ?_
      obtain rfl := Option.some.inj hf
      exact G_iret hX hR dX7_wrong_21
    · refine G_iload_n hX dX7_wrong_15 rfl ?_
      refine G_iconst (v := 4) hX dX7_wrong_16 rfl ?_
      refine G_icmp_le (tgt := 22) hX dX7_wrong_17 rfl hf (fun hf => ?_) (fun hf => ?_)
      · refine G_iload_n hX dX7_wrong_22 rfl ?_
        refine G_iconst (v := 4) hX dX7_wrong_23 rfl ?_
        refine G_icmp_ne (tgt := 38) hX dX7_wrong_24 rfl hf (fun hf => ?_) (fun hf => ?_)
        · refine G_aload_n hX dX7_wrong_38 rfl ?_
          refine G_getR (i := 1) (t := 3) hX kK0 (Nat.le_of_ble_eq_true rfl) (Nat.le_of_ble_eq_true rfl) rfl pK0_1 flX7_19 dX7_wrong_39 ?_
          refine G_iload_n hX dX7_wrong_42 rfl ?_
          refine G_iload_n hX dX7_wrong_43 rfl ?_
          obtain ⟨v4, h3, hf⟩ := bd1_some hf
          refine G_cV (as := [.int p0, .int p1]) (rest := []) hX cvX7_112 (mX0_part w kK3 h3) (Nat.le_of_ble_eq_true rfl) kK3 (Nat.le_of_ble_eq_true rfl) (Nat.le_of_ble_eq_true rfl) rfl rfl (Nat.le_of_ble_eq_true rfl) dX7_wrong_44 (st' := [.int v4]) rfl ?_
          obtain rfl := Option.some.inj hf
          exact G_iret hX hR dX7_wrong_47
        · refine G_aload_n hX dX7_wrong_27 rfl ?_
          refine G_getR (i := 1) (t := 3) hX kK0 (Nat.le_of_ble_eq_true rfl) (Nat.le_of_ble_eq_true rfl) rfl pK0_1 flX7_19 dX7_wrong_28 ?_
          refine G_iload_n hX dX7_wrong_31 rfl ?_
          obtain ⟨v6, h5, hf⟩ := bd1_some hf
          refine G_cV (as := [.int p0]) (rest := []) hX cvX7_108 (mX0_need w kK3 h5) (Nat.le_of_ble_eq_true rfl) kK3 (Nat.le_of_ble_eq_true rfl) (Nat.le_of_ble_eq_true rfl) rfl rfl (Nat.le_of_ble_eq_true rfl) dX7_wrong_32 (st' := [.int v6]) rfl ?_
          refine G_goto (tgt := 47) hX dX7_wrong_35 rfl ?_
          obtain rfl := Option.some.inj hf
          exact G_iret hX hR dX7_wrong_47
      · refine G_iconst (v := (-1)) hX dX7_wrong_20 rfl ?_
        obtain rfl := Option.some.inj hf
        exact G_iret hX hR dX7_wrong_21
noncomputable def fX0_isOpen (a : Nat) (p0 : Int32) (u : Um) : Option Int32 :=
  bd1 (fX0_part a p0 3 u) fun v2 =>
  if v2 = (-4) then
    some 1
  else
    some 0
set_option maxHeartbeats 4000000 in
set_option maxRecDepth 100000 in
theorem mX0_isOpen (w : Wc) {a : Nat} {p0 : Int32} (ha : kd a = 0) {u : Um} {r : Int32} (hf : fX0_isOpen a p0 u = some r) : MC w 2 qX0_isOpen [.ref a, .int p0] u (some (.int r)) u := by
  unfold fX0_isOpen at hf
  refine MC_intro pnX0 (Nat.le_of_ble_eq_true rfl) (fun X hX hR _ _ => ?_)
  have hX : OKc w X RX0 cX0_isOpen 2 := hX
  have hR : RT w X (some .boolean) 0 0 Pst 133 false (some (.int r)) u := hR
  refine G_eql (lv' := [some (.ref a), some (.int p0)]) rfl ?_
  refine G_aload_n hX dX0_isOpen_0 rfl ?_
  refine G_iload_n hX dX0_isOpen_1 rfl ?_
  refine G_iconst (v := 3) hX dX0_isOpen_2 rfl ?_
  obtain ⟨v2, h1, hf⟩ := bd1_some hf
  refine G_cV (as := [.int p0, .int 3]) (rest := []) hX cvX0_41 (mX0_part w ha h1) (Nat.le_of_ble_eq_true rfl) ha (Nat.le_of_ble_eq_true rfl) (kd_lt ha (Nat.le_of_ble_eq_true rfl)) rfl rfl (Nat.le_of_ble_eq_true rfl) dX0_isOpen_3 (st' := [.int v2]) rfl ?_
  refine G_bipush (v := (-4)) hX dX0_isOpen_6 rfl ?_
  refine G_icmp_ne (tgt := 15) hX dX0_isOpen_8 rfl hf (fun hf => ?_) (fun hf => ?_)
  · refine G_iconst (v := 0) hX dX0_isOpen_15 rfl ?_
    obtain rfl := Option.some.inj hf
    exact G_zret hX hR (by decide) dX0_isOpen_16
  · refine G_iconst (v := 1) hX dX0_isOpen_11 rfl ?_
    refine G_goto (tgt := 16) hX dX0_isOpen_12 rfl ?_
    obtain rfl := Option.some.inj hf
    exact G_zret hX hR (by decide) dX0_isOpen_16
noncomputable def fX7_isBarred_j28 (p0 : Int32) (p1 : Int32) (p2 : Int32) (z0 : Int32) (u : Um) : Option Int32 :=
  if z0 = 0 then
    some 0
  else
    if (irm p2 2) = 0 then
      some 0
    else
      some 1
set_option maxHeartbeats 4000000 in
set_option maxRecDepth 100000 in
theorem tX7_isBarred_j28 {w : Wc} {X : MX} (hX : OKc w X RX7 cX7_isBarred 1) {p0 : Int32} {p1 : Int32} {p2 : Int32} {z0 : Int32} {u : Um} {r : Int32} (hR : RT w X (some .boolean) 0 0 Pst 133 false (some (.int r)) u) (hf : fX7_isBarred_j28 p0 p1 p2 z0 u = some r) : G w X Zm 28 [none, none, some (.int p2), none] [.int z0] u := by
  unfold fX7_isBarred_j28 at hf
  refine G_istore_n (lv' := [none, none, some (.int p2), some (.int z0)]) hX dX7_isBarred_28 rfl (Nat.le_of_ble_eq_true rfl) rfl ?_
  refine G_iload_n hX dX7_isBarred_29 rfl ?_
  refine G_if_eq (tgt := 43) hX dX7_isBarred_30 rfl hf (fun hf => ?_) (fun hf => ?_)
  · refine G_iconst (v := 0) hX dX7_isBarred_43 rfl ?_
    obtain rfl := Option.some.inj hf
    exact G_zret hX hR (by decide) dX7_isBarred_44
  · refine G_iload_n hX dX7_isBarred_33 rfl ?_
    refine G_iconst (v := 2) hX dX7_isBarred_34 rfl ?_
    refine G_irem hX dX7_isBarred_35 (by decide) ?_
    refine G_if_eq (tgt := 43) hX dX7_isBarred_36 rfl hf (fun hf => ?_) (fun hf => ?_)
    · refine G_iconst (v := 0) hX dX7_isBarred_43 rfl ?_
      obtain rfl := Option.some.inj hf
      exact G_zret hX hR (by decide) dX7_isBarred_44
    · refine G_iconst (v := 1) hX dX7_isBarred_39 rfl ?_
      refine G_goto (tgt := 44) hX dX7_isBarred_40 rfl ?_
      obtain rfl := Option.some.inj hf
      exact G_zret hX hR (by decide) dX7_isBarred_44
noncomputable def fX7_isBarred_j20 (p0 : Int32) (p1 : Int32) (p2 : Int32) (z0 : Int32) (z1 : Int32) (u : Um) : Option Int32 :=
  if z1 = z0 then
    fX7_isBarred_j28 p0 p1 p2 0 u
  else
    fX7_isBarred_j28 p0 p1 p2 1 u
set_option maxHeartbeats 4000000 in
set_option maxRecDepth 100000 in
theorem tX7_isBarred_j20 {w : Wc} {X : MX} (hX : OKc w X RX7 cX7_isBarred 1) {p0 : Int32} {p1 : Int32} {p2 : Int32} {z0 : Int32} {z1 : Int32} {u : Um} {r : Int32} (hR : RT w X (some .boolean) 0 0 Pst 133 false (some (.int r)) u) (hf : fX7_isBarred_j20 p0 p1 p2 z0 z1 u = some r) : G w X Zm 20 [none, none, some (.int p2), none] [.int z0, .int z1] u := by
  unfold fX7_isBarred_j20 at hf
  refine G_icmp_eq (tgt := 27) hX dX7_isBarred_20 rfl hf (fun hf => ?_) (fun hf => ?_)
  · refine G_iconst (v := 0) hX dX7_isBarred_27 rfl ?_
    refine G_mask (lv' := [none, none, some (.int p2), none]) [false, false, true, false] rfl rfl ?_
    exact tX7_isBarred_j28 hX  hR hf
  · refine G_iconst (v := 1) hX dX7_isBarred_23 rfl ?_
    refine G_goto (tgt := 28) hX dX7_isBarred_24 rfl ?_
    refine G_mask (lv' := [none, none, some (.int p2), none]) [false, false, true, false] rfl rfl ?_
    exact tX7_isBarred_j28 hX  hR hf
noncomputable def fX7_isBarred_j10 (p0 : Int32) (p1 : Int32) (p2 : Int32) (z0 : Int32) (u : Um) : Option Int32 :=
  if 4 < p1 then
    fX7_isBarred_j20 p0 p1 p2 0 z0 u
  else
    fX7_isBarred_j20 p0 p1 p2 1 z0 u
set_option maxHeartbeats 4000000 in
set_option maxRecDepth 100000 in
theorem tX7_isBarred_j10 {w : Wc} {X : MX} (hX : OKc w X RX7 cX7_isBarred 1) {p0 : Int32} {p1 : Int32} {p2 : Int32} {z0 : Int32} {u : Um} {r : Int32} (hR : RT w X (some .boolean) 0 0 Pst 133 false (some (.int r)) u) (hf : fX7_isBarred_j10 p0 p1 p2 z0 u = some r) : G w X Zm 10 [none, some (.int p1), some (.int p2), none] [.int z0] u := by
  unfold fX7_isBarred_j10 at hf
  refine G_iload_n hX dX7_isBarred_10 rfl ?_
  refine G_iconst (v := 4) hX dX7_isBarred_11 rfl ?_
  refine G_icmp_gt (tgt := 19) hX dX7_isBarred_12 rfl hf (fun hf => ?_) (fun hf => ?_)
  · refine G_iconst (v := 0) hX dX7_isBarred_19 rfl ?_
    refine G_mask (lv' := [none, none, some (.int p2), none]) [false, false, true, false] rfl rfl ?_
    exact tX7_isBarred_j20 hX  hR hf
  · refine G_iconst (v := 1) hX dX7_isBarred_15 rfl ?_
    refine G_goto (tgt := 20) hX dX7_isBarred_16 rfl ?_
    refine G_mask (lv' := [none, none, some (.int p2), none]) [false, false, true, false] rfl rfl ?_
    exact tX7_isBarred_j20 hX  hR hf
noncomputable def fX7_isBarred (p0 : Int32) (p1 : Int32) (p2 : Int32) (u : Um) : Option Int32 :=
  if 4 < p0 then
    fX7_isBarred_j10 p0 p1 p2 0 u
  else
    fX7_isBarred_j10 p0 p1 p2 1 u
set_option maxHeartbeats 4000000 in
set_option maxRecDepth 100000 in
theorem mX7_isBarred (w : Wc) {p0 : Int32} {p1 : Int32} {p2 : Int32}  {u : Um} {r : Int32} (hf : fX7_isBarred p0 p1 p2 u = some r) : MC w 1 qX7_isBarred [.int p0, .int p1, .int p2] u (some (.int r)) u := by
  unfold fX7_isBarred at hf
  refine MC_intro pnX7 (Nat.le_of_ble_eq_true rfl) (fun X hX hR _ _ => ?_)
  have hX : OKc w X RX7 cX7_isBarred 1 := hX
  have hR : RT w X (some .boolean) 0 0 Pst 133 false (some (.int r)) u := hR
  refine G_eql (lv' := [some (.int p0), some (.int p1), some (.int p2), none]) rfl ?_
  refine G_iload_n hX dX7_isBarred_0 rfl ?_
  refine G_iconst (v := 4) hX dX7_isBarred_1 rfl ?_
  refine G_icmp_gt (tgt := 9) hX dX7_isBarred_2 rfl hf (fun hf => ?_) (fun hf => ?_)
  · refine G_iconst (v := 0) hX dX7_isBarred_9 rfl ?_
    refine G_mask (lv' := [none, some (.int p1), some (.int p2), none]) [false, true, true, false] rfl rfl ?_
    exact tX7_isBarred_j10 hX  hR hf
  · refine G_iconst (v := 1) hX dX7_isBarred_5 rfl ?_
    refine G_goto (tgt := 10) hX dX7_isBarred_6 rfl ?_
    refine G_mask (lv' := [none, some (.int p1), some (.int p2), none]) [false, true, true, false] rfl rfl ?_
    exact tX7_isBarred_j10 hX  hR hf
noncomputable def fX0_mayCarry (a : Nat) (p0 : Int32) (p1 : Int32) (u : Um) : Option Int32 :=
  bd1 (fX0_hasWrong a p0 u) fun v2 =>
  if v2 = 0 then
    some 0
  else
    bd1 (fX0_hasPerson a p1 u) fun v4 =>
    if v4 = 0 then
      some 0
    else
      bd1 (fX0_isOpen a p0 u) fun v6 =>
      if v6 = 0 then
        some 0
      else
        bd1 (fX0_part a p0 1 u) fun v8 =>
        bd1 (fX0_trait a p1 5 u) fun v10 =>
        bd1 (fX0_part a p0 0 u) fun v12 =>
        if v10 = v12 then
          if p1 = v8 then
            some 0
          else
            bd1 (fX0_trait a p1 4 u) fun v14 =>
            bd1 (fX0_trait a v8 3 u) fun v16 =>
            bd1 (fX7_isBarred v14 v16 (u.1 a 4) u) fun v18 =>
            if v18 = 0 then
              some 1
            else
              some 0
        else
          some 0
set_option maxHeartbeats 4000000 in
set_option maxRecDepth 100000 in
theorem mX0_mayCarry (w : Wc) {a : Nat} {p0 : Int32} {p1 : Int32} (ha : kd a = 0) {u : Um} {r : Int32} (hf : fX0_mayCarry a p0 p1 u = some r) : MC w 3 qX0_mayCarry [.ref a, .int p0, .int p1] u (some (.int r)) u := by
  unfold fX0_mayCarry at hf
  refine MC_intro pnX0 (Nat.le_of_ble_eq_true rfl) (fun X hX hR _ _ => ?_)
  have hX : OKc w X RX0 cX0_mayCarry 3 := hX
  have hR : RT w X (some .boolean) 0 0 Pst 133 false (some (.int r)) u := hR
  refine G_eql (lv' := [some (.ref a), some (.int p0), some (.int p1), none]) rfl ?_
  refine G_aload_n hX dX0_mayCarry_0 rfl ?_
  refine G_iload_n hX dX0_mayCarry_1 rfl ?_
  obtain ⟨v2, h1, hf⟩ := bd1_some hf
  refine G_cV (as := [.int p0]) (rest := []) hX cvX0_61 (mX0_hasWrong w ha h1) (Nat.le_of_ble_eq_true rfl) ha (Nat.le_of_ble_eq_true rfl) (kd_lt ha (Nat.le_of_ble_eq_true rfl)) rfl rfl (Nat.le_of_ble_eq_true rfl) dX0_mayCarry_2 (st' := [.int v2]) rfl ?_
  refine G_if_eq (tgt := 24) hX dX0_mayCarry_5 rfl hf (fun hf => ?_) (fun hf => ?_)
  · refine G_iconst (v := 0) hX dX0_mayCarry_24 rfl ?_
    obtain rfl := Option.some.inj hf
    exact G_zret hX hR (by decide) dX0_mayCarry_25
  · refine G_aload_n hX dX0_mayCarry_8 rfl ?_
    refine G_iload_n hX dX0_mayCarry_9 rfl ?_
    obtain ⟨v4, h3, hf⟩ := bd1_some hf
    refine G_cV (as := [.int p1]) (rest := []) hX cvX0_65 (mX0_hasPerson w ha h3) (Nat.le_of_ble_eq_true rfl) ha (Nat.le_of_ble_eq_true rfl) (kd_lt ha (Nat.le_of_ble_eq_true rfl)) rfl rfl (Nat.le_of_ble_eq_true rfl) dX0_mayCarry_10 (st' := [.int v4]) rfl ?_
    refine G_if_eq (tgt := 24) hX dX0_mayCarry_13 rfl hf (fun hf => ?_) (fun hf => ?_)
    · refine G_iconst (v := 0) hX dX0_mayCarry_24 rfl ?_
      obtain rfl := Option.some.inj hf
      exact G_zret hX hR (by decide) dX0_mayCarry_25
    · refine G_aload_n hX dX0_mayCarry_16 rfl ?_
      refine G_iload_n hX dX0_mayCarry_17 rfl ?_
      obtain ⟨v6, h5, hf⟩ := bd1_some hf
      refine G_cV (as := [.int p0]) (rest := []) hX cvX0_68 (mX0_isOpen w ha h5) (Nat.le_of_ble_eq_true rfl) ha (Nat.le_of_ble_eq_true rfl) (kd_lt ha (Nat.le_of_ble_eq_true rfl)) rfl rfl (Nat.le_of_ble_eq_true rfl) dX0_mayCarry_18 (st' := [.int v6]) rfl ?_
      refine G_if_ne (tgt := 26) hX dX0_mayCarry_21 rfl hf (fun hf => ?_) (fun hf => ?_)
      · refine G_aload_n hX dX0_mayCarry_26 rfl ?_
        refine G_iload_n hX dX0_mayCarry_27 rfl ?_
        refine G_iconst (v := 1) hX dX0_mayCarry_28 rfl ?_
        obtain ⟨v8, h7, hf⟩ := bd1_some hf
        refine G_cV (as := [.int p0, .int 1]) (rest := []) hX cvX0_41 (mX0_part w ha h7) (Nat.le_of_ble_eq_true rfl) ha (Nat.le_of_ble_eq_true rfl) (kd_lt ha (Nat.le_of_ble_eq_true rfl)) rfl rfl (Nat.le_of_ble_eq_true rfl) dX0_mayCarry_29 (st' := [.int v8]) rfl ?_
        refine G_istore_n (lv' := [some (.ref a), some (.int p0), some (.int p1), some (.int v8)]) hX dX0_mayCarry_32 rfl (Nat.le_of_ble_eq_true rfl) rfl ?_
        refine G_aload_n hX dX0_mayCarry_33 rfl ?_
        refine G_iload_n hX dX0_mayCarry_34 rfl ?_
        refine G_iconst (v := 5) hX dX0_mayCarry_35 rfl ?_
        obtain ⟨v10, h9, hf⟩ := bd1_some hf
        refine G_cV (as := [.int p1, .int 5]) (rest := []) hX cvX0_45 (mX0_trait w ha h9) (Nat.le_of_ble_eq_true rfl) ha (Nat.le_of_ble_eq_true rfl) (kd_lt ha (Nat.le_of_ble_eq_true rfl)) rfl rfl (Nat.le_of_ble_eq_true rfl) dX0_mayCarry_36 (st' := [.int v10]) rfl ?_
        refine G_aload_n hX dX0_mayCarry_39 rfl ?_
        refine G_iload_n hX dX0_mayCarry_40 rfl ?_
        refine G_iconst (v := 0) hX dX0_mayCarry_41 rfl ?_
        obtain ⟨v12, h11, hf⟩ := bd1_some hf
        refine G_cV (as := [.int p0, .int 0]) (rest := [.int v10]) hX cvX0_41 (mX0_part w ha h11) (Nat.le_of_ble_eq_true rfl) ha (Nat.le_of_ble_eq_true rfl) (kd_lt ha (Nat.le_of_ble_eq_true rfl)) rfl rfl (Nat.le_of_ble_eq_true rfl) dX0_mayCarry_42 (st' := [.int v12, .int v10]) rfl ?_
        refine G_icmp_ne (tgt := 79) hX dX0_mayCarry_45 rfl hf (fun hf => ?_) (fun hf => ?_)
        · refine G_iconst (v := 0) hX dX0_mayCarry_79 rfl ?_
          obtain rfl := Option.some.inj hf
          exact G_zret hX hR (by decide) dX0_mayCarry_80
        · refine G_iload_n hX dX0_mayCarry_48 rfl ?_
          refine G_iload_n hX dX0_mayCarry_49 rfl ?_
          refine G_icmp_eq (tgt := 79) hX dX0_mayCarry_50 rfl hf (fun hf => ?_) (fun hf => ?_)
          · refine G_iconst (v := 0) hX dX0_mayCarry_79 rfl ?_
            obtain rfl := Option.some.inj hf
            exact G_zret hX hR (by decide) dX0_mayCarry_80
          · refine G_aload_n hX dX0_mayCarry_53 rfl ?_
            refine G_iload_n hX dX0_mayCarry_54 rfl ?_
            refine G_iconst (v := 4) hX dX0_mayCarry_55 rfl ?_
            obtain ⟨v14, h13, hf⟩ := bd1_some hf
            refine G_cV (as := [.int p1, .int 4]) (rest := []) hX cvX0_45 (mX0_trait w ha h13) (Nat.le_of_ble_eq_true rfl) ha (Nat.le_of_ble_eq_true rfl) (kd_lt ha (Nat.le_of_ble_eq_true rfl)) rfl rfl (Nat.le_of_ble_eq_true rfl) dX0_mayCarry_56 (st' := [.int v14]) rfl ?_
            refine G_aload_n hX dX0_mayCarry_59 rfl ?_
            refine G_iload_n hX dX0_mayCarry_60 rfl ?_
            refine G_iconst (v := 3) hX dX0_mayCarry_61 rfl ?_
            obtain ⟨v16, h15, hf⟩ := bd1_some hf
            refine G_cV (as := [.int v8, .int 3]) (rest := [.int v14]) hX cvX0_45 (mX0_trait w ha h15) (Nat.le_of_ble_eq_true rfl) ha (Nat.le_of_ble_eq_true rfl) (kd_lt ha (Nat.le_of_ble_eq_true rfl)) rfl rfl (Nat.le_of_ble_eq_true rfl) dX0_mayCarry_62 (st' := [.int v16, .int v14]) rfl ?_
            refine G_aload_n hX dX0_mayCarry_65 rfl ?_
            refine G_getI (i := 4) hX ha (Nat.le_of_ble_eq_true rfl) (kd_lt ha (Nat.le_of_ble_eq_true rfl)) rfl flX0_25 dX0_mayCarry_66 ?_
            obtain ⟨v18, h17, hf⟩ := bd1_some hf
            refine G_cN (as := [.int v14, .int v16, .int (u.1 a 4)]) (rest := []) hX cnX0_71 (mX7_isBarred w h17) (Nat.le_of_ble_eq_true rfl) rfl rfl (Nat.le_of_ble_eq_true rfl) dX0_mayCarry_69 (st' := [.int v18]) rfl ?_
            refine G_if_ne (tgt := 79) hX dX0_mayCarry_72 rfl hf (fun hf => ?_) (fun hf => ?_)
            · refine G_iconst (v := 0) hX dX0_mayCarry_79 rfl ?_
              obtain rfl := Option.some.inj hf
              exact G_zret hX hR (by decide) dX0_mayCarry_80
            · refine G_iconst (v := 1) hX dX0_mayCarry_75 rfl ?_
              refine G_goto (tgt := 80) hX dX0_mayCarry_76 rfl ?_
              obtain rfl := Option.some.inj hf
              exact G_zret hX hR (by decide) dX0_mayCarry_80
      · refine G_iconst (v := 0) hX dX0_mayCarry_24 rfl ?_
        obtain rfl := Option.some.inj hf
        exact G_zret hX hR (by decide) dX0_mayCarry_25
noncomputable def fX7_refuseCarrying (p0 : Int32) (p1 : Int32) (u : Um) : Option Int32 :=
  bd1 (fX0_hasWrong 3 p0 u) fun v2 =>
  if v2 = 0 then
    some (-1)
  else
    bd1 (fX0_hasPerson 3 p1 u) fun v4 =>
    if v4 = 0 then
      some (-1)
    else
      bd1 (fX0_mayCarry 3 p0 p1 u) fun v6 =>
      if v6 = 0 then
        some (-2)
      else
        some 0
set_option maxHeartbeats 4000000 in
set_option maxRecDepth 100000 in
theorem mX7_refuseCarrying (w : Wc) {p0 : Int32} {p1 : Int32}  {u : Um} {r : Int32} (hf : fX7_refuseCarrying p0 p1 u = some r) : MC w 4 qX7_refuseCarrying [.ref 0, .int p0, .int p1] u (some (.int r)) u := by
  unfold fX7_refuseCarrying at hf
  refine MC_intro pnX7 (Nat.le_of_ble_eq_true rfl) (fun X hX hR _ _ => ?_)
  have hX : OKc w X RX7 cX7_refuseCarrying 4 := hX
  have hR : RT w X (some .int) 0 0 Pst 133 false (some (.int r)) u := hR
  refine G_eql (lv' := [some (.ref 0), some (.int p0), some (.int p1)]) rfl ?_
  refine G_aload_n hX dX7_refuseCarrying_0 rfl ?_
  refine G_getR (i := 1) (t := 3) hX kK0 (Nat.le_of_ble_eq_true rfl) (Nat.le_of_ble_eq_true rfl) rfl pK0_1 flX7_19 dX7_refuseCarrying_1 ?_
  refine G_iload_n hX dX7_refuseCarrying_4 rfl ?_
  obtain ⟨v2, h1, hf⟩ := bd1_some hf
  refine G_cV (as := [.int p0]) (rest := []) hX cvX7_105 (mX0_hasWrong w kK3 h1) (Nat.le_of_ble_eq_true rfl) kK3 (Nat.le_of_ble_eq_true rfl) (Nat.le_of_ble_eq_true rfl) rfl rfl (Nat.le_of_ble_eq_true rfl) dX7_refuseCarrying_5 (st' := [.int v2]) rfl ?_
  refine G_if_eq (tgt := 22) hX dX7_refuseCarrying_8 rfl hf (fun hf => ?_) (fun hf => ?_)
  · refine G_iconst (v := (-1)) hX dX7_refuseCarrying_22 rfl ?_
    obtain rfl := Option.some.inj hf
    exact G_iret hX hR dX7_refuseCarrying_23
  · refine G_aload_n hX dX7_refuseCarrying_11 rfl ?_
    refine G_getR (i := 1) (t := 3) hX kK0 (Nat.le_of_ble_eq_true rfl) (Nat.le_of_ble_eq_true rfl) rfl pK0_1 flX7_19 dX7_refuseCarrying_12 ?_
    refine G_iload_n hX dX7_refuseCarrying_15 rfl ?_
    obtain ⟨v4, h3, hf⟩ := bd1_some hf
    refine G_cV (as := [.int p1]) (rest := []) hX cvX7_90 (mX0_hasPerson w kK3 h3) (Nat.le_of_ble_eq_true rfl) kK3 (Nat.le_of_ble_eq_true rfl) (Nat.le_of_ble_eq_true rfl) rfl rfl (Nat.le_of_ble_eq_true rfl) dX7_refuseCarrying_16 (st' := [.int v4]) rfl ?_
    refine G_if_ne (tgt := 24) hX dX7_refuseCarrying_19 rfl hf (fun hf => ?_) (fun hf => ?_)
    · refine G_aload_n hX dX7_refuseCarrying_24 rfl ?_
      refine G_getR (i := 1) (t := 3) hX kK0 (Nat.le_of_ble_eq_true rfl) (Nat.le_of_ble_eq_true rfl) rfl pK0_1 flX7_19 dX7_refuseCarrying_25 ?_
      refine G_iload_n hX dX7_refuseCarrying_28 rfl ?_
      refine G_iload_n hX dX7_refuseCarrying_29 rfl ?_
      obtain ⟨v6, h5, hf⟩ := bd1_some hf
      refine G_cV (as := [.int p0, .int p1]) (rest := []) hX cvX7_269 (mX0_mayCarry w kK3 h5) (Nat.le_of_ble_eq_true rfl) kK3 (Nat.le_of_ble_eq_true rfl) (Nat.le_of_ble_eq_true rfl) rfl rfl (Nat.le_of_ble_eq_true rfl) dX7_refuseCarrying_30 (st' := [.int v6]) rfl ?_
      refine G_if_eq (tgt := 40) hX dX7_refuseCarrying_33 rfl hf (fun hf => ?_) (fun hf => ?_)
      · refine G_bipush (v := (-2)) hX dX7_refuseCarrying_40 rfl ?_
        obtain rfl := Option.some.inj hf
        exact G_iret hX hR dX7_refuseCarrying_42
      · refine G_iconst (v := 0) hX dX7_refuseCarrying_36 rfl ?_
        refine G_goto (tgt := 42) hX dX7_refuseCarrying_37 rfl ?_
        obtain rfl := Option.some.inj hf
        exact G_iret hX hR dX7_refuseCarrying_42
    · refine G_iconst (v := (-1)) hX dX7_refuseCarrying_22 rfl ?_
      obtain rfl := Option.some.inj hf
      exact G_iret hX hR dX7_refuseCarrying_23
noncomputable def fX0_day (a : Nat) (u : Um) : Option Int32 :=
  some (u.1 a 4)
set_option maxHeartbeats 4000000 in
set_option maxRecDepth 100000 in
theorem mX0_day (w : Wc) {a : Nat} (ha : kd a = 0) {u : Um} {r : Int32} (hf : fX0_day a u = some r) : MC w 1 qX0_day [.ref a] u (some (.int r)) u := by
  unfold fX0_day at hf
  refine MC_intro pnX0 (Nat.le_of_ble_eq_true rfl) (fun X hX hR _ _ => ?_)
  have hX : OKc w X RX0 cX0_day 1 := hX
  have hR : RT w X (some .int) 0 0 Pst 133 false (some (.int r)) u := hR
  refine G_eql (lv' := [some (.ref a)]) rfl ?_
  refine G_aload_n hX dX0_day_0 rfl ?_
  refine G_getI (i := 4) hX ha (Nat.le_of_ble_eq_true rfl) (kd_lt ha (Nat.le_of_ble_eq_true rfl)) rfl flX0_25 dX0_day_1 ?_
  obtain rfl := Option.some.inj hf
  exact G_iret hX hR dX0_day_4
noncomputable def fX3_at (p0 : Int32) (u : Um) : Option (Option Nat) :=
  if p0 < 0 then
    some none
  else
    if p0 < 24 then
      if inb p0 24 = true then
      some (some (11 + 3 * p0.toNatClampNeg))
      else none
    else
      some none
set_option maxHeartbeats 4000000 in
set_option maxRecDepth 100000 in
theorem mX3_at (w : Wc) {p0 : Int32}  {u : Um} {r : Option Nat} (hf : fX3_at p0 u = some r) : MC w 1 qX3_at [.ref 9, .int p0] u (some (va_rf r)) u := by
  unfold fX3_at at hf
  refine MC_intro pnX3 (Nat.le_of_ble_eq_true rfl) (fun X hX hR _ _ => ?_)
  have hX : OKc w X RX3 cX3_at 1 := hX
  have hR : RT w X (some (.object "RivalSorry$Coast")) 0 0 Pst 133 false (some (va_rf r)) u := hR
  refine G_eql (lv' := [some (.ref 9), some (.int p0)]) rfl ?_
  refine G_iload_n hX dX3_at_0 rfl ?_
  refine G_if_lt (tgt := 13) hX dX3_at_1 rfl hf (fun hf => ?_) (fun hf => ?_)
  · refine G_null hX dX3_at_13 ?_
    refine G_goto (tgt := 23) hX dX3_at_14 rfl ?_
    obtain rfl := Option.some.inj hf
    exact G_aretN hX hR dX3_at_23
  · refine G_iload_n hX dX3_at_4 rfl ?_
    refine G_aload_n hX dX3_at_5 rfl ?_
    refine G_getR (i := 0) (t := 10) hX kK9 (Nat.le_of_ble_eq_true rfl) (Nat.le_of_ble_eq_true rfl) rfl pK9_0 flX3_11 dX3_at_6 ?_
    refine G_alenC (n := 24) (v := 24) hX kK10 lK10 (Nat.le_of_ble_eq_true rfl) dX3_at_9 rfl ?_
    refine G_icmp_lt (tgt := 17) hX dX3_at_10 rfl hf (fun hf => ?_) (fun hf => ?_)
    · refine G_aload_n hX dX3_at_17 rfl ?_
      refine G_getR (i := 0) (t := 10) hX kK9 (Nat.le_of_ble_eq_true rfl) (Nat.le_of_ble_eq_true rfl) rfl pK9_0 flX3_11 dX3_at_18 ?_
      refine G_iload_n hX dX3_at_21 rfl ?_
      refine G_aaldC (n := 24) (t := (11 + 3 * p0.toNatClampNeg)) hX kK10 lK10 (Nat.le_of_ble_eq_true rfl) (PaC kK10 lK10) dX3_at_22 hf (fun hf => ?_)
      obtain rfl := Option.some.inj hf
      exact G_aret hX hR dX3_at_23
    · refine G_null hX dX3_at_13 ?_
      refine G_goto (tgt := 23) hX dX3_at_14 rfl ?_
      obtain rfl := Option.some.inj hf
      exact G_aretN hX hR dX3_at_23
noncomputable def fX3_keep (p0 : Nat) (u : Um) : Option Um :=
  bd1 (fX3_at (u.1 9 1) u) fun o2 =>
  spl o2 0
    (some u)
  (fun x3 =>
    bd1 (fX0_copyFrom x3 p0 u) fun u6 =>
    nm (sI u6 9 1 (irm ((u6.1 9 1) + 1) 24)) fun u7 =>
    nm (sI u7 9 2 (mnI 24 ((u7.1 9 2) + 1))) fun u8 =>
    some u8)
set_option maxHeartbeats 4000000 in
set_option maxRecDepth 100000 in
theorem mX3_keep (w : Wc) {p0 : Nat} (hp0 : kd p0 = 0) {u : Um} {u' : Um} (hf : fX3_keep p0 u = some u') : MC w 2 qX3_keep [.ref 9, .ref p0] u none u' := by
  unfold fX3_keep at hf
  refine MC_intro pnX3 (Nat.le_of_ble_eq_true rfl) (fun X hX hR _ _ => ?_)
  have hX : OKc w X RX3 cX3_keep 2 := hX
  have hR : RT w X none 0 0 Pst 133 false none u' := hR
  refine G_eql (lv' := [some (.ref 9), some (.ref p0), none]) rfl ?_
  refine G_aload_n hX dX3_keep_0 rfl ?_
  refine G_aload_n hX dX3_keep_1 rfl ?_
  refine G_getI (i := 1) hX kK9 (Nat.le_of_ble_eq_true rfl) (Nat.le_of_ble_eq_true rfl) rfl flX3_22 dX3_keep_2 ?_
  obtain ⟨o2, h1, hf⟩ := bd1_some hf
  refine G_cV (as := [.int (u.1 9 1)]) (rest := []) hX cvX3_25 (mX3_at w h1) (Nat.le_of_ble_eq_true rfl) kK9 (Nat.le_of_ble_eq_true rfl) (Nat.le_of_ble_eq_true rfl) rfl rfl (Nat.le_of_ble_eq_true rfl) dX3_keep_5 (st' := va_rf o2 :: []) rfl ?_
  cases o2 with
  | none =>
    replace hf := spl_none hf
    refine G_eqs (st2 := .null :: []) rfl ?_
    refine G_astore_nN (lv' := [some (.ref 9), some (.ref p0), some (.null)]) hX dX3_keep_8 rfl (Nat.le_of_ble_eq_true rfl) rfl ?_
    refine G_aload_nN hX dX3_keep_9 rfl ?_
    refine G_ifnonnullN hX dX3_keep_10 ?_
    obtain rfl := Option.some.inj hf
    exact G_vret hX hR dX3_keep_13
  | some x3 =>
    obtain ⟨h4, hf⟩ := spl_some hf
    refine G_eqs (st2 := .ref x3 :: []) rfl ?_
    refine G_astore_n (lv' := [some (.ref 9), some (.ref p0), some (.ref x3)]) hX dX3_keep_8 rfl (Nat.le_of_ble_eq_true rfl) rfl ?_
    refine G_aload_n hX dX3_keep_9 rfl ?_
    refine G_ifnonnull (tgt := 14) hX dX3_keep_10 rfl ?_
    refine G_aload_n hX dX3_keep_14 rfl ?_
    refine G_aload_n hX dX3_keep_15 rfl ?_
    obtain ⟨u6, h5, hf⟩ := bd1_some hf
    refine G_cV (as := [.ref p0]) (rest := []) hX cvX3_29 (mX0_copyFrom w h4 hp0 h5) (Nat.le_of_ble_eq_true rfl) h4 (Nat.le_of_ble_eq_true rfl) (kd_lt h4 (Nat.le_of_ble_eq_true rfl)) rfl rfl (Nat.le_of_ble_eq_true rfl) dX3_keep_16 (st' := []) rfl ?_
    refine G_aload_n hX dX3_keep_19 rfl ?_
    refine G_aload_n hX dX3_keep_20 rfl ?_
    refine G_getI (i := 1) hX kK9 (Nat.le_of_ble_eq_true rfl) (Nat.le_of_ble_eq_true rfl) rfl flX3_22 dX3_keep_21 ?_
    refine G_iconst (v := 1) hX dX3_keep_24 rfl ?_
    refine G_iadd hX dX3_keep_25 ?_
    refine G_bipush (v := 24) hX dX3_keep_26 rfl ?_
    refine G_irem hX dX3_keep_28 (by decide) ?_
    refine G_putI (i := 1) hX kK9 (Nat.le_of_ble_eq_true rfl) (Nat.le_of_ble_eq_true rfl) rfl rfl flX3_22 fwX3_1 dX3_keep_29 hf (fun u7 hf => ?_)
    refine G_aload_n hX dX3_keep_32 rfl ?_
    refine G_bipush (v := 24) hX dX3_keep_33 rfl ?_
    refine G_aload_n hX dX3_keep_35 rfl ?_
    refine G_getI (i := 2) hX kK9 (Nat.le_of_ble_eq_true rfl) (Nat.le_of_ble_eq_true rfl) rfl flX3_18 dX3_keep_36 ?_
    refine G_iconst (v := 1) hX dX3_keep_39 rfl ?_
    refine G_iadd hX dX3_keep_40 ?_
    refine G_min hX cmX3_33 (Nat.le_of_ble_eq_true rfl) (Nat.le_of_ble_eq_true rfl) dX3_keep_41 ?_
    refine G_putI (i := 2) hX kK9 (Nat.le_of_ble_eq_true rfl) (Nat.le_of_ble_eq_true rfl) rfl rfl flX3_18 fwX3_2 dX3_keep_44 hf (fun u8 hf => ?_)
    obtain rfl := Option.some.inj hf
    exact G_vret hX hR dX3_keep_47
noncomputable def fX0_milesOf (a : Nat) (p0 : Int32) (p1 : Int32) (u : Um) : Option Int32 :=
  bd1 (fX0_trait a p1 4 u) fun v2 =>
  bd1 (fX0_part a p0 1 u) fun v4 =>
  bd1 (fX0_trait a v4 3 u) fun v6 =>
  some (abI (v2 - v6))
set_option maxHeartbeats 4000000 in
set_option maxRecDepth 100000 in
theorem mX0_milesOf (w : Wc) {a : Nat} {p0 : Int32} {p1 : Int32} (ha : kd a = 0) {u : Um} {r : Int32} (hf : fX0_milesOf a p0 p1 u = some r) : MC w 2 qX0_milesOf [.ref a, .int p0, .int p1] u (some (.int r)) u := by
  unfold fX0_milesOf at hf
  refine MC_intro pnX0 (Nat.le_of_ble_eq_true rfl) (fun X hX hR _ _ => ?_)
  have hX : OKc w X RX0 cX0_milesOf 2 := hX
  have hR : RT w X (some .int) 0 0 Pst 133 false (some (.int r)) u := hR
  refine G_eql (lv' := [some (.ref a), some (.int p0), some (.int p1)]) rfl ?_
  refine G_aload_n hX dX0_milesOf_0 rfl ?_
  refine G_iload_n hX dX0_milesOf_1 rfl ?_
  refine G_iconst (v := 4) hX dX0_milesOf_2 rfl ?_
  obtain ⟨v2, h1, hf⟩ := bd1_some hf
  refine G_cV (as := [.int p1, .int 4]) (rest := []) hX cvX0_45 (mX0_trait w ha h1) (Nat.le_of_ble_eq_true rfl) ha (Nat.le_of_ble_eq_true rfl) (kd_lt ha (Nat.le_of_ble_eq_true rfl)) rfl rfl (Nat.le_of_ble_eq_true rfl) dX0_milesOf_3 (st' := [.int v2]) rfl ?_
  refine G_aload_n hX dX0_milesOf_6 rfl ?_
  refine G_aload_n hX dX0_milesOf_7 rfl ?_
  refine G_iload_n hX dX0_milesOf_8 rfl ?_
  refine G_iconst (v := 1) hX dX0_milesOf_9 rfl ?_
  obtain ⟨v4, h3, hf⟩ := bd1_some hf
  refine G_cV (as := [.int p0, .int 1]) (rest := [.ref a, .int v2]) hX cvX0_41 (mX0_part w ha h3) (Nat.le_of_ble_eq_true rfl) ha (Nat.le_of_ble_eq_true rfl) (kd_lt ha (Nat.le_of_ble_eq_true rfl)) rfl rfl (Nat.le_of_ble_eq_true rfl) dX0_milesOf_10 (st' := [.int v4, .ref a, .int v2]) rfl ?_
  refine G_iconst (v := 3) hX dX0_milesOf_13 rfl ?_
  obtain ⟨v6, h5, hf⟩ := bd1_some hf
  refine G_cV (as := [.int v4, .int 3]) (rest := [.int v2]) hX cvX0_45 (mX0_trait w ha h5) (Nat.le_of_ble_eq_true rfl) ha (Nat.le_of_ble_eq_true rfl) (kd_lt ha (Nat.le_of_ble_eq_true rfl)) rfl rfl (Nat.le_of_ble_eq_true rfl) dX0_milesOf_14 (st' := [.int v6, .int v2]) rfl ?_
  refine G_isub hX dX0_milesOf_17 ?_
  refine G_abs hX cmX0_48 (Nat.le_of_ble_eq_true rfl) (Nat.le_of_ble_eq_true rfl) dX0_milesOf_18 ?_
  obtain rfl := Option.some.inj hf
  exact G_iret hX hR dX0_milesOf_21
noncomputable def fX7_sayingOf (p0 : Int32) (p1 : Int32) (p2 : Int32) (p3 : Int32) (u : Um) : Option Int32 :=
  if p0 = 1 then
    some p1
  else if p0 = 2 then
    some (p1 + 2)
  else if p0 = 3 then
    some (p1 / 2)
  else if p0 = 4 then
    some (p2 + 2)
  else if p0 = 5 then
    some ((p1 + 2) + (p3 / 2))
  else 
  some 0
set_option maxHeartbeats 4000000 in
set_option maxRecDepth 100000 in
theorem mX7_sayingOf (w : Wc) {p0 : Int32} {p1 : Int32} {p2 : Int32} {p3 : Int32}  {u : Um} {r : Int32} (hf : fX7_sayingOf p0 p1 p2 p3 u = some r) : MC w 1 qX7_sayingOf [.int p0, .int p1, .int p2, .int p3] u (some (.int r)) u := by
  unfold fX7_sayingOf at hf
  refine MC_intro pnX7 (Nat.le_of_ble_eq_true rfl) (fun X hX hR _ _ => ?_)
  have hX : OKc w X RX7 cX7_sayingOf 1 := hX
  have hR : RT w X (some .int) 0 0 Pst 133 false (some (.int r)) u := hR
  refine G_eql (lv' := [some (.int p0), some (.int p1), some (.int p2), some (.int p3)]) rfl ?_
  refine G_iload_n hX dX7_sayingOf_0 rfl ?_
  by_cases c1_0 : p0 = 1
  · rw [if_pos c1_0] at hf
    refine G_tswIn (tgt := 36) hX dX7_sayingOf_1 (by rw [c1_0]; decide) (by rw [c1_0]; decide) (by rw [c1_0]; rfl) rfl ?_
    refine G_iload_n hX dX7_sayingOf_36 rfl ?_
    obtain rfl := Option.some.inj hf
    exact G_iret hX hR dX7_sayingOf_37
  rw [if_neg c1_0] at hf
  by_cases c1_1 : p0 = 2
  · rw [if_pos c1_1] at hf
    refine G_tswIn (tgt := 38) hX dX7_sayingOf_1 (by rw [c1_1]; decide) (by rw [c1_1]; decide) (by rw [c1_1]; rfl) rfl ?_
    refine G_iload_n hX dX7_sayingOf_38 rfl ?_
    refine G_iconst (v := 2) hX dX7_sayingOf_39 rfl ?_
    refine G_iadd hX dX7_sayingOf_40 ?_
    obtain rfl := Option.some.inj hf
    exact G_iret hX hR dX7_sayingOf_41
  rw [if_neg c1_1] at hf
  by_cases c1_2 : p0 = 3
  · rw [if_pos c1_2] at hf
    refine G_tswIn (tgt := 42) hX dX7_sayingOf_1 (by rw [c1_2]; decide) (by rw [c1_2]; decide) (by rw [c1_2]; rfl) rfl ?_
    refine G_iload_n hX dX7_sayingOf_42 rfl ?_
    refine G_iconst (v := 2) hX dX7_sayingOf_43 rfl ?_
    refine G_idiv hX dX7_sayingOf_44 (by decide) ?_
    obtain rfl := Option.some.inj hf
    exact G_iret hX hR dX7_sayingOf_45
  rw [if_neg c1_2] at hf
  by_cases c1_3 : p0 = 4
  · rw [if_pos c1_3] at hf
    refine G_tswIn (tgt := 46) hX dX7_sayingOf_1 (by rw [c1_3]; decide) (by rw [c1_3]; decide) (by rw [c1_3]; rfl) rfl ?_
    refine G_iload_n hX dX7_sayingOf_46 rfl ?_
    refine G_iconst (v := 2) hX dX7_sayingOf_47 rfl ?_
    refine G_iadd hX dX7_sayingOf_48 ?_
    obtain rfl := Option.some.inj hf
    exact G_iret hX hR dX7_sayingOf_49
  rw [if_neg c1_3] at hf
  by_cases c1_4 : p0 = 5
  · rw [if_pos c1_4] at hf
    refine G_tswIn (tgt := 50) hX dX7_sayingOf_1 (by rw [c1_4]; decide) (by rw [c1_4]; decide) (by rw [c1_4]; rfl) rfl ?_
    refine G_iload_n hX dX7_sayingOf_50 rfl ?_
    refine G_iconst (v := 2) hX dX7_sayingOf_51 rfl ?_
    refine G_iadd hX dX7_sayingOf_52 ?_
    refine G_iload_n hX dX7_sayingOf_53 rfl ?_
    refine G_iconst (v := 2) hX dX7_sayingOf_54 rfl ?_
    refine G_idiv hX dX7_sayingOf_55 (by decide) ?_
    refine G_iadd hX dX7_sayingOf_56 ?_
    obtain rfl := Option.some.inj hf
    exact G_iret hX hR dX7_sayingOf_57
  rw [if_neg c1_4] at hf
  have n1_0 := lv_neT (a := 1) c1_0 rfl
  have n1_1 := lv_neT (a := 2) c1_1 rfl
  have n1_2 := lv_neT (a := 3) c1_2 rfl
  have n1_3 := lv_neT (a := 4) c1_3 rfl
  have n1_4 := lv_neT (a := 5) c1_4 rfl
  refine G_tswOut (tgt := 58) hX dX7_sayingOf_1 (by omega) rfl ?_
  refine G_iconst (v := 0) hX dX7_sayingOf_58 rfl ?_
  obtain rfl := Option.some.inj hf
  exact G_iret hX hR dX7_sayingOf_59
noncomputable def fX0_saying (a : Nat) (p0 : Int32) (p1 : Int32) (u : Um) : Option Int32 :=
  bd1 (fX0_trait a p1 0 u) fun v2 =>
  bd1 (fX0_trait a p1 1 u) fun v4 =>
  bd1 (fX0_trait a p1 6 u) fun v6 =>
  bd1 (fX0_milesOf a p0 p1 u) fun v8 =>
  bd1 (fX7_sayingOf v2 v4 v6 v8 u) fun v10 =>
  some v10
set_option maxHeartbeats 4000000 in
set_option maxRecDepth 100000 in
theorem mX0_saying (w : Wc) {a : Nat} {p0 : Int32} {p1 : Int32} (ha : kd a = 0) {u : Um} {r : Int32} (hf : fX0_saying a p0 p1 u = some r) : MC w 3 qX0_saying [.ref a, .int p0, .int p1] u (some (.int r)) u := by
  unfold fX0_saying at hf
  refine MC_intro pnX0 (Nat.le_of_ble_eq_true rfl) (fun X hX hR _ _ => ?_)
  have hX : OKc w X RX0 cX0_saying 3 := hX
  have hR : RT w X (some .int) 0 0 Pst 133 false (some (.int r)) u := hR
  refine G_eql (lv' := [some (.ref a), some (.int p0), some (.int p1)]) rfl ?_
  refine G_aload_n hX dX0_saying_0 rfl ?_
  refine G_iload_n hX dX0_saying_1 rfl ?_
  refine G_iconst (v := 0) hX dX0_saying_2 rfl ?_
  obtain ⟨v2, h1, hf⟩ := bd1_some hf
  refine G_cV (as := [.int p1, .int 0]) (rest := []) hX cvX0_45 (mX0_trait w ha h1) (Nat.le_of_ble_eq_true rfl) ha (Nat.le_of_ble_eq_true rfl) (kd_lt ha (Nat.le_of_ble_eq_true rfl)) rfl rfl (Nat.le_of_ble_eq_true rfl) dX0_saying_3 (st' := [.int v2]) rfl ?_
  refine G_aload_n hX dX0_saying_6 rfl ?_
  refine G_iload_n hX dX0_saying_7 rfl ?_
  refine G_iconst (v := 1) hX dX0_saying_8 rfl ?_
  obtain ⟨v4, h3, hf⟩ := bd1_some hf
  refine G_cV (as := [.int p1, .int 1]) (rest := [.int v2]) hX cvX0_45 (mX0_trait w ha h3) (Nat.le_of_ble_eq_true rfl) ha (Nat.le_of_ble_eq_true rfl) (kd_lt ha (Nat.le_of_ble_eq_true rfl)) rfl rfl (Nat.le_of_ble_eq_true rfl) dX0_saying_9 (st' := [.int v4, .int v2]) rfl ?_
  refine G_aload_n hX dX0_saying_12 rfl ?_
  refine G_iload_n hX dX0_saying_13 rfl ?_
  refine G_bipush (v := 6) hX dX0_saying_14 rfl ?_
  obtain ⟨v6, h5, hf⟩ := bd1_some hf
  refine G_cV (as := [.int p1, .int 6]) (rest := [.int v4, .int v2]) hX cvX0_45 (mX0_trait w ha h5) (Nat.le_of_ble_eq_true rfl) ha (Nat.le_of_ble_eq_true rfl) (kd_lt ha (Nat.le_of_ble_eq_true rfl)) rfl rfl (Nat.le_of_ble_eq_true rfl) dX0_saying_16 (st' := [.int v6, .int v4, .int v2]) rfl ?_
  refine G_aload_n hX dX0_saying_19 rfl ?_
  refine G_iload_n hX dX0_saying_20 rfl ?_
  refine G_iload_n hX dX0_saying_21 rfl ?_
  obtain ⟨v8, h7, hf⟩ := bd1_some hf
  refine G_cV (as := [.int p0, .int p1]) (rest := [.int v6, .int v4, .int v2]) hX cvX0_54 (mX0_milesOf w ha h7) (Nat.le_of_ble_eq_true rfl) ha (Nat.le_of_ble_eq_true rfl) (kd_lt ha (Nat.le_of_ble_eq_true rfl)) rfl rfl (Nat.le_of_ble_eq_true rfl) dX0_saying_22 (st' := [.int v8, .int v6, .int v4, .int v2]) rfl ?_
  obtain ⟨v10, h9, hf⟩ := bd1_some hf
  refine G_cN (as := [.int v2, .int v4, .int v6, .int v8]) (rest := []) hX cnX0_57 (mX7_sayingOf w h9) (Nat.le_of_ble_eq_true rfl) rfl rfl (Nat.le_of_ble_eq_true rfl) dX0_saying_25 (st' := [.int v10]) rfl ?_
  obtain rfl := Option.some.inj hf
  exact G_iret hX hR dX0_saying_28
noncomputable def fX0_outcome (a : Nat) (p0 : Int32) (p1 : Int32) (u : Um) : Option Int32 :=
  bd1 (fX0_saying a p0 p1 u) fun v2 =>
  bd1 (fX0_need a p0 u) fun v4 =>
  nm (v2 - v4) fun v5 =>
  if 0 ≤ v5 then
    if v5 < 4 then
      some 1
    else
      bd1 (fX0_part a p0 1 u) fun v7 =>
      bd1 (fX0_trait a v7 7 u) fun v9 =>
      if v9 = (-4) then
        some 2
      else
        some 1
  else
    some 0
set_option maxHeartbeats 4000000 in
set_option maxRecDepth 100000 in
theorem mX0_outcome (w : Wc) {a : Nat} {p0 : Int32} {p1 : Int32} (ha : kd a = 0) {u : Um} {r : Int32} (hf : fX0_outcome a p0 p1 u = some r) : MC w 4 qX0_outcome [.ref a, .int p0, .int p1] u (some (.int r)) u := by
  unfold fX0_outcome at hf
  refine MC_intro pnX0 (Nat.le_of_ble_eq_true rfl) (fun X hX hR _ _ => ?_)
  have hX : OKc w X RX0 cX0_outcome 4 := hX
  have hR : RT w X (some .int) 0 0 Pst 133 false (some (.int r)) u := hR
  refine G_eql (lv' := [some (.ref a), some (.int p0), some (.int p1), none]) rfl ?_
  refine G_aload_n hX dX0_outcome_0 rfl ?_
  refine G_iload_n hX dX0_outcome_1 rfl ?_
  refine G_iload_n hX dX0_outcome_2 rfl ?_
  obtain ⟨v2, h1, hf⟩ := bd1_some hf
  refine G_cV (as := [.int p0, .int p1]) (rest := []) hX cvX0_75 (mX0_saying w ha h1) (Nat.le_of_ble_eq_true rfl) ha (Nat.le_of_ble_eq_true rfl) (kd_lt ha (Nat.le_of_ble_eq_true rfl)) rfl rfl (Nat.le_of_ble_eq_true rfl) dX0_outcome_3 (st' := [.int v2]) rfl ?_
  refine G_aload_n hX dX0_outcome_6 rfl ?_
  refine G_iload_n hX dX0_outcome_7 rfl ?_
  obtain ⟨v4, h3, hf⟩ := bd1_some hf
  refine G_cV (as := [.int p0]) (rest := [.int v2]) hX cvX0_78 (mX0_need w ha h3) (Nat.le_of_ble_eq_true rfl) ha (Nat.le_of_ble_eq_true rfl) (kd_lt ha (Nat.le_of_ble_eq_true rfl)) rfl rfl (Nat.le_of_ble_eq_true rfl) dX0_outcome_8 (st' := [.int v4, .int v2]) rfl ?_
  refine G_isub hX dX0_outcome_11 ?_
  refine G_istore_nF (lvf := fun v5 => [some (.ref a), some (.int p0), some (.int p1), some (.int v5)]) hX dX0_outcome_12 rfl (Nat.le_of_ble_eq_true rfl) (fun _ => rfl) hf (fun v5 hf => ?_)
  refine G_iload_n hX dX0_outcome_13 rfl ?_
  refine G_if_ge (tgt := 19) hX dX0_outcome_14 rfl hf (fun hf => ?_) (fun hf => ?_)
  · refine G_iload_n hX dX0_outcome_19 rfl ?_
    refine G_iconst (v := 4) hX dX0_outcome_20 rfl ?_
    refine G_icmp_lt (tgt := 45) hX dX0_outcome_21 rfl hf (fun hf => ?_) (fun hf => ?_)
    · refine G_iconst (v := 1) hX dX0_outcome_45 rfl ?_
      obtain rfl := Option.some.inj hf
      exact G_iret hX hR dX0_outcome_46
    · refine G_aload_n hX dX0_outcome_24 rfl ?_
      refine G_aload_n hX dX0_outcome_25 rfl ?_
      refine G_iload_n hX dX0_outcome_26 rfl ?_
      refine G_iconst (v := 1) hX dX0_outcome_27 rfl ?_
      obtain ⟨v7, h6, hf⟩ := bd1_some hf
      refine G_cV (as := [.int p0, .int 1]) (rest := [.ref a]) hX cvX0_41 (mX0_part w ha h6) (Nat.le_of_ble_eq_true rfl) ha (Nat.le_of_ble_eq_true rfl) (kd_lt ha (Nat.le_of_ble_eq_true rfl)) rfl rfl (Nat.le_of_ble_eq_true rfl) dX0_outcome_28 (st' := [.int v7, .ref a]) rfl ?_
      refine G_bipush (v := 7) hX dX0_outcome_31 rfl ?_
      obtain ⟨v9, h8, hf⟩ := bd1_some hf
      refine G_cV (as := [.int v7, .int 7]) (rest := []) hX cvX0_45 (mX0_trait w ha h8) (Nat.le_of_ble_eq_true rfl) ha (Nat.le_of_ble_eq_true rfl) (kd_lt ha (Nat.le_of_ble_eq_true rfl)) rfl rfl (Nat.le_of_ble_eq_true rfl) dX0_outcome_33 (st' := [.int v9]) rfl ?_
      refine G_bipush (v := (-4)) hX dX0_outcome_36 rfl ?_
      refine G_icmp_ne (tgt := 45) hX dX0_outcome_38 rfl hf (fun hf => ?_) (fun hf => ?_)
      · refine G_iconst (v := 1) hX dX0_outcome_45 rfl ?_
        obtain rfl := Option.some.inj hf
        exact G_iret hX hR dX0_outcome_46
      · refine G_iconst (v := 2) hX dX0_outcome_41 rfl ?_
        refine G_goto (tgt := 46) hX dX0_outcome_42 rfl ?_
        obtain rfl := Option.some.inj hf
        exact G_iret hX hR dX0_outcome_46
  · refine G_iconst (v := 0) hX dX0_outcome_17 rfl ?_
    obtain rfl := Option.some.inj hf
    exact G_iret hX hR dX0_outcome_18
noncomputable def fX7_stingOf (p0 : Int32) (u : Um) : Option Int32 :=
  if p0 = 1 then
    some 1
  else if p0 = 2 then
    some 1
  else if p0 = 3 then
    some 2
  else 
  some 0
set_option maxHeartbeats 4000000 in
set_option maxRecDepth 100000 in
theorem mX7_stingOf (w : Wc) {p0 : Int32}  {u : Um} {r : Int32} (hf : fX7_stingOf p0 u = some r) : MC w 1 qX7_stingOf [.int p0] u (some (.int r)) u := by
  unfold fX7_stingOf at hf
  refine MC_intro pnX7 (Nat.le_of_ble_eq_true rfl) (fun X hX hR _ _ => ?_)
  have hX : OKc w X RX7 cX7_stingOf 1 := hX
  have hR : RT w X (some .int) 0 0 Pst 133 false (some (.int r)) u := hR
  refine G_eql (lv' := [some (.int p0)]) rfl ?_
  refine G_iload_n hX dX7_stingOf_0 rfl ?_
  by_cases c1_0 : p0 = 1
  · rw [if_pos c1_0] at hf
    refine G_tswIn (tgt := 28) hX dX7_stingOf_1 (by rw [c1_0]; decide) (by rw [c1_0]; decide) (by rw [c1_0]; rfl) rfl ?_
    refine G_iconst (v := 1) hX dX7_stingOf_28 rfl ?_
    obtain rfl := Option.some.inj hf
    exact G_iret hX hR dX7_stingOf_29
  rw [if_neg c1_0] at hf
  by_cases c1_1 : p0 = 2
  · rw [if_pos c1_1] at hf
    refine G_tswIn (tgt := 28) hX dX7_stingOf_1 (by rw [c1_1]; decide) (by rw [c1_1]; decide) (by rw [c1_1]; rfl) rfl ?_
    refine G_iconst (v := 1) hX dX7_stingOf_28 rfl ?_
    obtain rfl := Option.some.inj hf
    exact G_iret hX hR dX7_stingOf_29
  rw [if_neg c1_1] at hf
  by_cases c1_2 : p0 = 3
  · rw [if_pos c1_2] at hf
    refine G_tswIn (tgt := 30) hX dX7_stingOf_1 (by rw [c1_2]; decide) (by rw [c1_2]; decide) (by rw [c1_2]; rfl) rfl ?_
    refine G_iconst (v := 2) hX dX7_stingOf_30 rfl ?_
    obtain rfl := Option.some.inj hf
    exact G_iret hX hR dX7_stingOf_31
  rw [if_neg c1_2] at hf
  have n1_0 := lv_neT (a := 1) c1_0 rfl
  have n1_1 := lv_neT (a := 2) c1_1 rfl
  have n1_2 := lv_neT (a := 3) c1_2 rfl
  refine G_tswOut (tgt := 32) hX dX7_stingOf_1 (by omega) rfl ?_
  refine G_iconst (v := 0) hX dX7_stingOf_32 rfl ?_
  obtain rfl := Option.some.inj hf
  exact G_iret hX hR dX7_stingOf_33
noncomputable def fX0_nextDay (a : Nat) (u : Um) : Option Um :=
  nm (sI u a 4 ((u.1 a 4) + 1)) fun u1 =>
  some u1
set_option maxHeartbeats 4000000 in
set_option maxRecDepth 100000 in
theorem mX0_nextDay (w : Wc) {a : Nat} (ha : kd a = 0) {u : Um} {u' : Um} (hf : fX0_nextDay a u = some u') : MC w 1 qX0_nextDay [.ref a] u none u' := by
  unfold fX0_nextDay at hf
  refine MC_intro pnX0 (Nat.le_of_ble_eq_true rfl) (fun X hX hR _ _ => ?_)
  have hX : OKc w X RX0 cX0_nextDay 1 := hX
  have hR : RT w X none 0 0 Pst 133 false none u' := hR
  refine G_eql (lv' := [some (.ref a)]) rfl ?_
  refine G_aload_n hX dX0_nextDay_0 rfl ?_
  refine G_dup hX dX0_nextDay_1 rfl ?_
  refine G_getI (i := 4) hX ha (Nat.le_of_ble_eq_true rfl) (kd_lt ha (Nat.le_of_ble_eq_true rfl)) rfl flX0_25 dX0_nextDay_2 ?_
  refine G_iconst (v := 1) hX dX0_nextDay_5 rfl ?_
  refine G_iadd hX dX0_nextDay_6 ?_
  refine G_putI (i := 4) hX ha (Nat.le_of_ble_eq_true rfl) (kd_lt ha (Nat.le_of_ble_eq_true rfl)) rfl rfl flX0_25 fwX0_4 dX0_nextDay_7 hf (fun u1 hf => ?_)
  obtain rfl := Option.some.inj hf
  exact G_vret hX hR dX0_nextDay_10
noncomputable def fX0_deliver_j82 (a : Nat) (p0 : Int32) (p1 : Int32) (j3 : Int32) (j4 : Int32) (u : Um) : Option (Int32 × Um) :=
  bd1 (fX0_trait a j4 3 u) fun v8 =>
  bd1 (fX0_setTrait a p1 4 v8 u) fun u10 =>
  bd1 (fX0_trait a p1 6 u10) fun v12 =>
  bd1 (fX0_setTrait a p1 6 (v12 + 1) u10) fun u14 =>
  bd1 (fX0_nextDay a u14) fun u16 =>
  some (j3, u16)
set_option maxHeartbeats 4000000 in
set_option maxRecDepth 100000 in
theorem tX0_deliver_j82 {w : Wc} {X : MX} (hX : OKc w X RX0 cX0_deliver 5) {a : Nat} {p0 : Int32} {p1 : Int32} {j3 : Int32} {j4 : Int32} (ha : kd a = 0) {u : Um} {r : Int32} {u' : Um} (hR : RT w X (some .int) 0 0 Pst 133 false (some (.int r)) u') (hf : fX0_deliver_j82 a p0 p1 j3 j4 u = some (r, u')) : G w X Zm 82 [some (.ref a), none, some (.int p1), some (.int j3), some (.int j4), none] [] u := by
  unfold fX0_deliver_j82 at hf
  refine G_aload_n hX dX0_deliver_82 rfl ?_
  refine G_iload_n hX dX0_deliver_83 rfl ?_
  refine G_iconst (v := 4) hX dX0_deliver_84 rfl ?_
  refine G_aload_n hX dX0_deliver_85 rfl ?_
  refine G_iload hX dX0_deliver_86 rfl ?_
  refine G_iconst (v := 3) hX dX0_deliver_88 rfl ?_
  obtain ⟨v8, h7, hf⟩ := bd1_some hf
  refine G_cV (as := [.int j4, .int 3]) (rest := [.int 4, .int p1, .ref a]) hX cvX0_45 (mX0_trait w ha h7) (Nat.le_of_ble_eq_true rfl) ha (Nat.le_of_ble_eq_true rfl) (kd_lt ha (Nat.le_of_ble_eq_true rfl)) rfl rfl (Nat.le_of_ble_eq_true rfl) dX0_deliver_89 (st' := [.int v8, .int 4, .int p1, .ref a]) rfl ?_
  obtain ⟨u10, h9, hf⟩ := bd1_some hf
  refine G_cV (as := [.int p1, .int 4, .int v8]) (rest := []) hX cvX0_34 (mX0_setTrait w ha h9) (Nat.le_of_ble_eq_true rfl) ha (Nat.le_of_ble_eq_true rfl) (kd_lt ha (Nat.le_of_ble_eq_true rfl)) rfl rfl (Nat.le_of_ble_eq_true rfl) dX0_deliver_92 (st' := []) rfl ?_
  refine G_aload_n hX dX0_deliver_95 rfl ?_
  refine G_iload_n hX dX0_deliver_96 rfl ?_
  refine G_bipush (v := 6) hX dX0_deliver_97 rfl ?_
  refine G_aload_n hX dX0_deliver_99 rfl ?_
  refine G_iload_n hX dX0_deliver_100 rfl ?_
  refine G_bipush (v := 6) hX dX0_deliver_101 rfl ?_
  obtain ⟨v12, h11, hf⟩ := bd1_some hf
  refine G_cV (as := [.int p1, .int 6]) (rest := [.int 6, .int p1, .ref a]) hX cvX0_45 (mX0_trait w ha h11) (Nat.le_of_ble_eq_true rfl) ha (Nat.le_of_ble_eq_true rfl) (kd_lt ha (Nat.le_of_ble_eq_true rfl)) rfl rfl (Nat.le_of_ble_eq_true rfl) dX0_deliver_103 (st' := [.int v12, .int 6, .int p1, .ref a]) rfl ?_
  refine G_iconst (v := 1) hX dX0_deliver_106 rfl ?_
  refine G_iadd hX dX0_deliver_107 ?_
  obtain ⟨u14, h13, hf⟩ := bd1_some hf
  refine G_cV (as := [.int p1, .int 6, .int (v12 + 1)]) (rest := []) hX cvX0_34 (mX0_setTrait w ha h13) (Nat.le_of_ble_eq_true rfl) ha (Nat.le_of_ble_eq_true rfl) (kd_lt ha (Nat.le_of_ble_eq_true rfl)) rfl rfl (Nat.le_of_ble_eq_true rfl) dX0_deliver_108 (st' := []) rfl ?_
  refine G_aload_n hX dX0_deliver_111 rfl ?_
  obtain ⟨u16, h15, hf⟩ := bd1_some hf
  refine G_cV (as := []) (rest := []) hX cvX0_90 (mX0_nextDay w ha h15) (Nat.le_of_ble_eq_true rfl) ha (Nat.le_of_ble_eq_true rfl) (kd_lt ha (Nat.le_of_ble_eq_true rfl)) rfl rfl (Nat.le_of_ble_eq_true rfl) dX0_deliver_112 (st' := []) rfl ?_
  refine G_iload_n hX dX0_deliver_115 rfl ?_
  obtain ⟨rfl, rfl⟩ := ret2 hf
  exact G_iret hX hR dX0_deliver_116
noncomputable def fX0_deliver_j60 (a : Nat) (p0 : Int32) (p1 : Int32) (j3 : Int32) (j4 : Int32) (u : Um) : Option (Int32 × Um) :=
  if j3 = 2 then
    bd1 (fX0_setTrait a j4 7 p1 u) fun u18 =>
    bd1 (fX0_setTrait a p1 5 (-4) u18) fun u20 =>
    fX0_deliver_j82 a p0 p1 j3 j4 u20
  else
    fX0_deliver_j82 a p0 p1 j3 j4 u
set_option maxHeartbeats 4000000 in
set_option maxRecDepth 100000 in
theorem tX0_deliver_j60 {w : Wc} {X : MX} (hX : OKc w X RX0 cX0_deliver 5) {a : Nat} {p0 : Int32} {p1 : Int32} {j3 : Int32} {j4 : Int32} (ha : kd a = 0) {u : Um} {r : Int32} {u' : Um} (hR : RT w X (some .int) 0 0 Pst 133 false (some (.int r)) u') (hf : fX0_deliver_j60 a p0 p1 j3 j4 u = some (r, u')) : G w X Zm 60 [some (.ref a), none, some (.int p1), some (.int j3), some (.int j4), none] [] u := by
  unfold fX0_deliver_j60 at hf
  refine G_iload_n hX dX0_deliver_60 rfl ?_
  refine G_iconst (v := 2) hX dX0_deliver_61 rfl ?_
  refine G_icmp_ne (tgt := 82) hX dX0_deliver_62 rfl hf (fun hf => ?_) (fun hf => ?_)
  · refine G_mask (lv' := [some (.ref a), none, some (.int p1), some (.int j3), some (.int j4), none]) [true, false, true, true, true, false] rfl rfl ?_
    exact tX0_deliver_j82 hX ha hR hf
  · refine G_aload_n hX dX0_deliver_65 rfl ?_
    refine G_iload hX dX0_deliver_66 rfl ?_
    refine G_bipush (v := 7) hX dX0_deliver_68 rfl ?_
    refine G_iload_n hX dX0_deliver_70 rfl ?_
    obtain ⟨u18, h17, hf⟩ := bd1_some hf
    refine G_cV (as := [.int j4, .int 7, .int p1]) (rest := []) hX cvX0_34 (mX0_setTrait w ha h17) (Nat.le_of_ble_eq_true rfl) ha (Nat.le_of_ble_eq_true rfl) (kd_lt ha (Nat.le_of_ble_eq_true rfl)) rfl rfl (Nat.le_of_ble_eq_true rfl) dX0_deliver_71 (st' := []) rfl ?_
    refine G_aload_n hX dX0_deliver_74 rfl ?_
    refine G_iload_n hX dX0_deliver_75 rfl ?_
    refine G_iconst (v := 5) hX dX0_deliver_76 rfl ?_
    refine G_bipush (v := (-4)) hX dX0_deliver_77 rfl ?_
    obtain ⟨u20, h19, hf⟩ := bd1_some hf
    refine G_cV (as := [.int p1, .int 5, .int (-4)]) (rest := []) hX cvX0_34 (mX0_setTrait w ha h19) (Nat.le_of_ble_eq_true rfl) ha (Nat.le_of_ble_eq_true rfl) (kd_lt ha (Nat.le_of_ble_eq_true rfl)) rfl rfl (Nat.le_of_ble_eq_true rfl) dX0_deliver_79 (st' := []) rfl ?_
    refine G_mask (lv' := [some (.ref a), none, some (.int p1), some (.int j3), some (.int j4), none]) [true, false, true, true, true, false] rfl rfl ?_
    exact tX0_deliver_j82 hX ha hR hf
noncomputable def fX0_deliver (a : Nat) (p0 : Int32) (p1 : Int32) (u : Um) : Option (Int32 × Um) :=
  bd1 (fX0_outcome a p0 p1 u) fun v2 =>
  bd1 (fX0_part a p0 1 u) fun v4 =>
  if v2 = 0 then
    bd1 (fX0_part a p0 2 u) fun v22 =>
    bd1 (fX0_trait a p1 0 u) fun v24 =>
    bd1 (fX7_stingOf v24 u) fun v26 =>
    nm (v22 + v26) fun v27 =>
    bd1 (fX0_setPart a p0 2 (mnI 9 v27) u) fun u29 =>
    fX0_deliver_j60 a p0 p1 v2 v4 u29
  else
    bd1 (fX0_setPart a p0 3 p1 u) fun u6 =>
    fX0_deliver_j60 a p0 p1 v2 v4 u6
set_option maxHeartbeats 4000000 in
set_option maxRecDepth 100000 in
theorem mX0_deliver (w : Wc) {a : Nat} {p0 : Int32} {p1 : Int32} (ha : kd a = 0) {u : Um} {r : Int32} {u' : Um} (hf : fX0_deliver a p0 p1 u = some (r, u')) : MC w 5 qX0_deliver [.ref a, .int p0, .int p1] u (some (.int r)) u' := by
  unfold fX0_deliver at hf
  refine MC_intro pnX0 (Nat.le_of_ble_eq_true rfl) (fun X hX hR _ _ => ?_)
  have hX : OKc w X RX0 cX0_deliver 5 := hX
  have hR : RT w X (some .int) 0 0 Pst 133 false (some (.int r)) u' := hR
  refine G_eql (lv' := [some (.ref a), some (.int p0), some (.int p1), none, none, none]) rfl ?_
  refine G_aload_n hX dX0_deliver_0 rfl ?_
  refine G_iload_n hX dX0_deliver_1 rfl ?_
  refine G_iload_n hX dX0_deliver_2 rfl ?_
  obtain ⟨v2, h1, hf⟩ := bd1_some hf
  refine G_cV (as := [.int p0, .int p1]) (rest := []) hX cvX0_81 (mX0_outcome w ha h1) (Nat.le_of_ble_eq_true rfl) ha (Nat.le_of_ble_eq_true rfl) (kd_lt ha (Nat.le_of_ble_eq_true rfl)) rfl rfl (Nat.le_of_ble_eq_true rfl) dX0_deliver_3 (st' := [.int v2]) rfl ?_
  refine G_istore_n (lv' := [some (.ref a), some (.int p0), some (.int p1), some (.int v2), none, none]) hX dX0_deliver_6 rfl (Nat.le_of_ble_eq_true rfl) rfl ?_
  refine G_aload_n hX dX0_deliver_7 rfl ?_
  refine G_iload_n hX dX0_deliver_8 rfl ?_
  refine G_iconst (v := 1) hX dX0_deliver_9 rfl ?_
  obtain ⟨v4, h3, hf⟩ := bd1_some hf
  refine G_cV (as := [.int p0, .int 1]) (rest := []) hX cvX0_41 (mX0_part w ha h3) (Nat.le_of_ble_eq_true rfl) ha (Nat.le_of_ble_eq_true rfl) (kd_lt ha (Nat.le_of_ble_eq_true rfl)) rfl rfl (Nat.le_of_ble_eq_true rfl) dX0_deliver_10 (st' := [.int v4]) rfl ?_
  refine G_istore (lv' := [some (.ref a), some (.int p0), some (.int p1), some (.int v2), some (.int v4), none]) hX dX0_deliver_13 rfl (Nat.le_of_ble_eq_true rfl) rfl ?_
  refine G_iload_n hX dX0_deliver_15 rfl ?_
  refine G_if_ne (tgt := 53) hX dX0_deliver_16 rfl hf (fun hf => ?_) (fun hf => ?_)
  · refine G_aload_n hX dX0_deliver_53 rfl ?_
    refine G_iload_n hX dX0_deliver_54 rfl ?_
    refine G_iconst (v := 3) hX dX0_deliver_55 rfl ?_
    refine G_iload_n hX dX0_deliver_56 rfl ?_
    obtain ⟨u6, h5, hf⟩ := bd1_some hf
    refine G_cV (as := [.int p0, .int 3, .int p1]) (rest := []) hX cvX0_38 (mX0_setPart w ha h5) (Nat.le_of_ble_eq_true rfl) ha (Nat.le_of_ble_eq_true rfl) (kd_lt ha (Nat.le_of_ble_eq_true rfl)) rfl rfl (Nat.le_of_ble_eq_true rfl) dX0_deliver_57 (st' := []) rfl ?_
    refine G_mask (lv' := [some (.ref a), none, some (.int p1), some (.int v2), some (.int v4), none]) [true, false, true, true, true, false] rfl rfl ?_
    exact tX0_deliver_j60 hX ha hR hf
  · refine G_aload_n hX dX0_deliver_19 rfl ?_
    refine G_iload_n hX dX0_deliver_20 rfl ?_
    refine G_iconst (v := 2) hX dX0_deliver_21 rfl ?_
    obtain ⟨v22, h21, hf⟩ := bd1_some hf
    refine G_cV (as := [.int p0, .int 2]) (rest := []) hX cvX0_41 (mX0_part w ha h21) (Nat.le_of_ble_eq_true rfl) ha (Nat.le_of_ble_eq_true rfl) (kd_lt ha (Nat.le_of_ble_eq_true rfl)) rfl rfl (Nat.le_of_ble_eq_true rfl) dX0_deliver_22 (st' := [.int v22]) rfl ?_
    refine G_aload_n hX dX0_deliver_25 rfl ?_
    refine G_iload_n hX dX0_deliver_26 rfl ?_
    refine G_iconst (v := 0) hX dX0_deliver_27 rfl ?_
    obtain ⟨v24, h23, hf⟩ := bd1_some hf
    refine G_cV (as := [.int p1, .int 0]) (rest := [.int v22]) hX cvX0_45 (mX0_trait w ha h23) (Nat.le_of_ble_eq_true rfl) ha (Nat.le_of_ble_eq_true rfl) (kd_lt ha (Nat.le_of_ble_eq_true rfl)) rfl rfl (Nat.le_of_ble_eq_true rfl) dX0_deliver_28 (st' := [.int v24, .int v22]) rfl ?_
    obtain ⟨v26, h25, hf⟩ := bd1_some hf
    refine G_cN (as := [.int v24]) (rest := [.int v22]) hX cnX0_84 (mX7_stingOf w h25) (Nat.le_of_ble_eq_true rfl) rfl rfl (Nat.le_of_ble_eq_true rfl) dX0_deliver_31 (st' := [.int v26, .int v22]) rfl ?_
    refine G_iadd hX dX0_deliver_34 ?_
    refine G_istoreF (lvf := fun v27 => [some (.ref a), some (.int p0), some (.int p1), some (.int v2), some (.int v4), some (.int v27)]) hX dX0_deliver_35 rfl (Nat.le_of_ble_eq_true rfl) (fun _ => rfl) hf (fun v27 hf => ?_)
    refine G_aload_n hX dX0_deliver_37 rfl ?_
    refine G_iload_n hX dX0_deliver_38 rfl ?_
    refine G_iconst (v := 2) hX dX0_deliver_39 rfl ?_
    refine G_bipush (v := 9) hX dX0_deliver_40 rfl ?_
    refine G_iload hX dX0_deliver_42 rfl ?_
    refine G_min hX cmX0_87 (Nat.le_of_ble_eq_true rfl) (Nat.le_of_ble_eq_true rfl) dX0_deliver_44 ?_
    obtain ⟨u29, h28, hf⟩ := bd1_some hf
    refine G_cV (as := [.int p0, .int 2, .int (mnI 9 v27)]) (rest := []) hX cvX0_38 (mX0_setPart w ha h28) (Nat.le_of_ble_eq_true rfl) ha (Nat.le_of_ble_eq_true rfl) (kd_lt ha (Nat.le_of_ble_eq_true rfl)) rfl rfl (Nat.le_of_ble_eq_true rfl) dX0_deliver_47 (st' := []) rfl ?_
    refine G_goto (tgt := 60) hX dX0_deliver_50 rfl ?_
    refine G_mask (lv' := [some (.ref a), none, some (.int p1), some (.int v2), some (.int v4), none]) [true, false, true, true, true, false] rfl rfl ?_
    exact tX0_deliver_j60 hX ha hR hf
noncomputable def fX7_carry (p0 : Int32) (p1 : Int32) (u : Um) : Option (Int32 × Um) :=
  bd1 (fX7_refuseCarrying p0 p1 u) fun v2 =>
  if v2 = 0 then
    bd1 (fX0_day 3 u) fun v4 =>
    if v4 < 9999 then
      bd1 (fX3_keep 3 u) fun u6 =>
      bd2 (fX0_deliver 3 p0 p1 u6) fun v8 u9 =>
      some (v8, u9)
    else
      some ((-3), u)
  else
    some (v2, u)
set_option maxHeartbeats 4000000 in
set_option maxRecDepth 100000 in
theorem mX7_carry (w : Wc) {p0 : Int32} {p1 : Int32}  {u : Um} {r : Int32} {u' : Um} (hf : fX7_carry p0 p1 u = some (r, u')) : MC w 6 qX7_carry [.ref 0, .int p0, .int p1] u (some (.int r)) u' := by
  unfold fX7_carry at hf
  refine MC_intro pnX7 (Nat.le_of_ble_eq_true rfl) (fun X hX hR _ _ => ?_)
  have hX : OKc w X RX7 cX7_carry 6 := hX
  have hR : RT w X (some .int) 0 0 Pst 133 false (some (.int r)) u' := hR
  refine G_eql (lv' := [some (.ref 0), some (.int p0), some (.int p1), none]) rfl ?_
  refine G_aload_n hX dX7_carry_0 rfl ?_
  refine G_iload_n hX dX7_carry_1 rfl ?_
  refine G_iload_n hX dX7_carry_2 rfl ?_
  obtain ⟨v2, h1, hf⟩ := bd1_some hf
  refine G_cV (as := [.int p0, .int p1]) (rest := []) hX cvX7_115 (mX7_refuseCarrying w h1) (Nat.le_of_ble_eq_true rfl) kK0 (Nat.le_of_ble_eq_true rfl) (Nat.le_of_ble_eq_true rfl) rfl rfl (Nat.le_of_ble_eq_true rfl) dX7_carry_3 (st' := [.int v2]) rfl ?_
  refine G_istore_n (lv' := [some (.ref 0), some (.int p0), some (.int p1), some (.int v2)]) hX dX7_carry_6 rfl (Nat.le_of_ble_eq_true rfl) rfl ?_
  refine G_iload_n hX dX7_carry_7 rfl ?_
  refine G_if_eq (tgt := 13) hX dX7_carry_8 rfl hf (fun hf => ?_) (fun hf => ?_)
  · refine G_aload_n hX dX7_carry_13 rfl ?_
    refine G_getR (i := 1) (t := 3) hX kK0 (Nat.le_of_ble_eq_true rfl) (Nat.le_of_ble_eq_true rfl) rfl pK0_1 flX7_19 dX7_carry_14 ?_
    obtain ⟨v4, h3, hf⟩ := bd1_some hf
    refine G_cV (as := []) (rest := []) hX cvX7_118 (mX0_day w kK3 h3) (Nat.le_of_ble_eq_true rfl) kK3 (Nat.le_of_ble_eq_true rfl) (Nat.le_of_ble_eq_true rfl) rfl rfl (Nat.le_of_ble_eq_true rfl) dX7_carry_17 (st' := [.int v4]) rfl ?_
    refine G_sipush (v := 9999) hX dX7_carry_20 rfl ?_
    refine G_icmp_lt (tgt := 29) hX dX7_carry_23 rfl hf (fun hf => ?_) (fun hf => ?_)
    · refine G_aload_n hX dX7_carry_29 rfl ?_
      refine G_getR (i := 3) (t := 9) hX kK0 (Nat.le_of_ble_eq_true rfl) (Nat.le_of_ble_eq_true rfl) rfl pK0_3 flX7_29 dX7_carry_30 ?_
      refine G_aload_n hX dX7_carry_33 rfl ?_
      refine G_getR (i := 1) (t := 3) hX kK0 (Nat.le_of_ble_eq_true rfl) (Nat.le_of_ble_eq_true rfl) rfl pK0_1 flX7_19 dX7_carry_34 ?_
      obtain ⟨u6, h5, hf⟩ := bd1_some hf
      refine G_cV (as := [.ref 3]) (rest := []) hX cvX7_121 (mX3_keep w kK3 h5) (Nat.le_of_ble_eq_true rfl) kK9 (Nat.le_of_ble_eq_true rfl) (Nat.le_of_ble_eq_true rfl) rfl rfl (Nat.le_of_ble_eq_true rfl) dX7_carry_37 (st' := []) rfl ?_
      refine G_aload_n hX dX7_carry_40 rfl ?_
      refine G_getR (i := 1) (t := 3) hX kK0 (Nat.le_of_ble_eq_true rfl) (Nat.le_of_ble_eq_true rfl) rfl pK0_1 flX7_19 dX7_carry_41 ?_
      refine G_iload_n hX dX7_carry_44 rfl ?_
      refine G_iload_n hX dX7_carry_45 rfl ?_
      obtain ⟨v8, u9, h7, hf⟩ := bd2_some hf
      refine G_cV (as := [.int p0, .int p1]) (rest := []) hX cvX7_124 (mX0_deliver w kK3 h7) (Nat.le_of_ble_eq_true rfl) kK3 (Nat.le_of_ble_eq_true rfl) (Nat.le_of_ble_eq_true rfl) rfl rfl (Nat.le_of_ble_eq_true rfl) dX7_carry_46 (st' := [.int v8]) rfl ?_
      obtain ⟨rfl, rfl⟩ := ret2 hf
      exact G_iret hX hR dX7_carry_49
    · refine G_bipush (v := (-3)) hX dX7_carry_26 rfl ?_
      obtain ⟨rfl, rfl⟩ := ret2 hf
      exact G_iret hX hR dX7_carry_28
  · refine G_iload_n hX dX7_carry_11 rfl ?_
    obtain ⟨rfl, rfl⟩ := ret2 hf
    exact G_iret hX hR dX7_carry_12
noncomputable def fX7_change (p0 : Int32) (p1 : Int32) (p2 : Int32) (u : Um) : Option (Int32 × Um) :=
  bd1 (fX0_trait 3 p0 p1 u) fun v2 =>
  if v2 = p2 then
    some ((-2), u)
  else
    bd1 (fX3_keep 3 u) fun u4 =>
    bd1 (fX0_setTrait 3 p0 p1 p2 u4) fun u6 =>
    some (v2, u6)
set_option maxHeartbeats 4000000 in
set_option maxRecDepth 100000 in
theorem mX7_change (w : Wc) {p0 : Int32} {p1 : Int32} {p2 : Int32}  {u : Um} {r : Int32} {u' : Um} (hf : fX7_change p0 p1 p2 u = some (r, u')) : MC w 3 qX7_change [.ref 0, .int p0, .int p1, .int p2] u (some (.int r)) u' := by
  unfold fX7_change at hf
  refine MC_intro pnX7 (Nat.le_of_ble_eq_true rfl) (fun X hX hR _ _ => ?_)
  have hX : OKc w X RX7 cX7_change 3 := hX
  have hR : RT w X (some .int) 0 0 Pst 133 false (some (.int r)) u' := hR
  refine G_eql (lv' := [some (.ref 0), some (.int p0), some (.int p1), some (.int p2), none]) rfl ?_
  refine G_aload_n hX dX7_change_0 rfl ?_
  refine G_getR (i := 1) (t := 3) hX kK0 (Nat.le_of_ble_eq_true rfl) (Nat.le_of_ble_eq_true rfl) rfl pK0_1 flX7_19 dX7_change_1 ?_
  refine G_iload_n hX dX7_change_4 rfl ?_
  refine G_iload_n hX dX7_change_5 rfl ?_
  obtain ⟨v2, h1, hf⟩ := bd1_some hf
  refine G_cV (as := [.int p0, .int p1]) (rest := []) hX cvX7_93 (mX0_trait w kK3 h1) (Nat.le_of_ble_eq_true rfl) kK3 (Nat.le_of_ble_eq_true rfl) (Nat.le_of_ble_eq_true rfl) rfl rfl (Nat.le_of_ble_eq_true rfl) dX7_change_6 (st' := [.int v2]) rfl ?_
  refine G_istore (lv' := [some (.ref 0), some (.int p0), some (.int p1), some (.int p2), some (.int v2)]) hX dX7_change_9 rfl (Nat.le_of_ble_eq_true rfl) rfl ?_
  refine G_iload hX dX7_change_11 rfl ?_
  refine G_iload_n hX dX7_change_13 rfl ?_
  refine G_icmp_ne (tgt := 20) hX dX7_change_14 rfl hf (fun hf => ?_) (fun hf => ?_)
  · refine G_aload_n hX dX7_change_20 rfl ?_
    refine G_getR (i := 3) (t := 9) hX kK0 (Nat.le_of_ble_eq_true rfl) (Nat.le_of_ble_eq_true rfl) rfl pK0_3 flX7_29 dX7_change_21 ?_
    refine G_aload_n hX dX7_change_24 rfl ?_
    refine G_getR (i := 1) (t := 3) hX kK0 (Nat.le_of_ble_eq_true rfl) (Nat.le_of_ble_eq_true rfl) rfl pK0_1 flX7_19 dX7_change_25 ?_
    obtain ⟨u4, h3, hf⟩ := bd1_some hf
    refine G_cV (as := [.ref 3]) (rest := []) hX cvX7_121 (mX3_keep w kK3 h3) (Nat.le_of_ble_eq_true rfl) kK9 (Nat.le_of_ble_eq_true rfl) (Nat.le_of_ble_eq_true rfl) rfl rfl (Nat.le_of_ble_eq_true rfl) dX7_change_28 (st' := []) rfl ?_
    refine G_aload_n hX dX7_change_31 rfl ?_
    refine G_getR (i := 1) (t := 3) hX kK0 (Nat.le_of_ble_eq_true rfl) (Nat.le_of_ble_eq_true rfl) rfl pK0_1 flX7_19 dX7_change_32 ?_
    refine G_iload_n hX dX7_change_35 rfl ?_
    refine G_iload_n hX dX7_change_36 rfl ?_
    refine G_iload_n hX dX7_change_37 rfl ?_
    obtain ⟨u6, h5, hf⟩ := bd1_some hf
    refine G_cV (as := [.int p0, .int p1, .int p2]) (rest := []) hX cvX7_272 (mX0_setTrait w kK3 h5) (Nat.le_of_ble_eq_true rfl) kK3 (Nat.le_of_ble_eq_true rfl) (Nat.le_of_ble_eq_true rfl) rfl rfl (Nat.le_of_ble_eq_true rfl) dX7_change_38 (st' := []) rfl ?_
    refine G_iload hX dX7_change_41 rfl ?_
    obtain ⟨rfl, rfl⟩ := ret2 hf
    exact G_iret hX hR dX7_change_43
  · refine G_bipush (v := (-2)) hX dX7_change_17 rfl ?_
    obtain ⟨rfl, rfl⟩ := ret2 hf
    exact G_iret hX hR dX7_change_19
noncomputable def fX7_lend (p0 : Int32) (p1 : Int32) (u : Um) : Option (Int32 × Um) :=
  bd1 (fX0_hasPerson 3 p0 u) fun v2 =>
  if v2 = 0 then
    some ((-1), u)
  else
    bd1 (fX0_hasPerson 3 p1 u) fun v4 =>
    if v4 = 0 then
      some ((-1), u)
    else
      if p0 = p1 then
        some ((-1), u)
      else
        bd2 (fX7_change p0 5 p1 u) fun v6 u7 =>
        some (v6, u7)
set_option maxHeartbeats 4000000 in
set_option maxRecDepth 100000 in
theorem mX7_lend (w : Wc) {p0 : Int32} {p1 : Int32}  {u : Um} {r : Int32} {u' : Um} (hf : fX7_lend p0 p1 u = some (r, u')) : MC w 4 qX7_lend [.ref 0, .int p0, .int p1] u (some (.int r)) u' := by
  unfold fX7_lend at hf
  refine MC_intro pnX7 (Nat.le_of_ble_eq_true rfl) (fun X hX hR _ _ => ?_)
  have hX : OKc w X RX7 cX7_lend 4 := hX
  have hR : RT w X (some .int) 0 0 Pst 133 false (some (.int r)) u' := hR
  refine G_eql (lv' := [some (.ref 0), some (.int p0), some (.int p1)]) rfl ?_
  refine G_aload_n hX dX7_lend_0 rfl ?_
  refine G_getR (i := 1) (t := 3) hX kK0 (Nat.le_of_ble_eq_true rfl) (Nat.le_of_ble_eq_true rfl) rfl pK0_1 flX7_19 dX7_lend_1 ?_
  refine G_iload_n hX dX7_lend_4 rfl ?_
  obtain ⟨v2, h1, hf⟩ := bd1_some hf
  refine G_cV (as := [.int p0]) (rest := []) hX cvX7_90 (mX0_hasPerson w kK3 h1) (Nat.le_of_ble_eq_true rfl) kK3 (Nat.le_of_ble_eq_true rfl) (Nat.le_of_ble_eq_true rfl) rfl rfl (Nat.le_of_ble_eq_true rfl) dX7_lend_5 (st' := [.int v2]) rfl ?_
  refine G_if_eq (tgt := 27) hX dX7_lend_8 rfl hf (fun hf => ?_) (fun hf => ?_)
  · refine G_iconst (v := (-1)) hX dX7_lend_27 rfl ?_
    obtain ⟨rfl, rfl⟩ := ret2 hf
    exact G_iret hX hR dX7_lend_28
  · refine G_aload_n hX dX7_lend_11 rfl ?_
    refine G_getR (i := 1) (t := 3) hX kK0 (Nat.le_of_ble_eq_true rfl) (Nat.le_of_ble_eq_true rfl) rfl pK0_1 flX7_19 dX7_lend_12 ?_
    refine G_iload_n hX dX7_lend_15 rfl ?_
    obtain ⟨v4, h3, hf⟩ := bd1_some hf
    refine G_cV (as := [.int p1]) (rest := []) hX cvX7_90 (mX0_hasPerson w kK3 h3) (Nat.le_of_ble_eq_true rfl) kK3 (Nat.le_of_ble_eq_true rfl) (Nat.le_of_ble_eq_true rfl) rfl rfl (Nat.le_of_ble_eq_true rfl) dX7_lend_16 (st' := [.int v4]) rfl ?_
    refine G_if_eq (tgt := 27) hX dX7_lend_19 rfl hf (fun hf => ?_) (fun hf => ?_)
    · refine G_iconst (v := (-1)) hX dX7_lend_27 rfl ?_
      obtain ⟨rfl, rfl⟩ := ret2 hf
      exact G_iret hX hR dX7_lend_28
    · refine G_iload_n hX dX7_lend_22 rfl ?_
      refine G_iload_n hX dX7_lend_23 rfl ?_
      refine G_icmp_ne (tgt := 29) hX dX7_lend_24 rfl hf (fun hf => ?_) (fun hf => ?_)
      · refine G_aload_n hX dX7_lend_29 rfl ?_
        refine G_iload_n hX dX7_lend_30 rfl ?_
        refine G_iconst (v := 5) hX dX7_lend_31 rfl ?_
        refine G_iload_n hX dX7_lend_32 rfl ?_
        obtain ⟨v6, u7, h5, hf⟩ := bd2_some hf
        refine G_cV (as := [.int p0, .int 5, .int p1]) (rest := []) hX cvX7_127 (mX7_change w h5) (Nat.le_of_ble_eq_true rfl) kK0 (Nat.le_of_ble_eq_true rfl) (Nat.le_of_ble_eq_true rfl) rfl rfl (Nat.le_of_ble_eq_true rfl) dX7_lend_33 (st' := [.int v6]) rfl ?_
        obtain ⟨rfl, rfl⟩ := ret2 hf
        exact G_iret hX hR dX7_lend_36
      · refine G_iconst (v := (-1)) hX dX7_lend_27 rfl ?_
        obtain ⟨rfl, rfl⟩ := ret2 hf
        exact G_iret hX hR dX7_lend_28
noncomputable def fX7_sin (p0 : Int32) (p1 : Int32) (p2 : Int32) (u : Um) : Option (Int32 × Um) :=
  bd1 (fX0_hasPerson 3 p0 u) fun v2 =>
  if v2 = 0 then
    some ((-1), u)
  else
    bd1 (fX0_hasPerson 3 p1 u) fun v4 =>
    if v4 = 0 then
      some ((-1), u)
    else
      if p0 = p1 then
        some ((-1), u)
      else
        if p2 < 1 then
          some ((-1), u)
        else
          if p2 ≤ 9 then
            bd1 (fX0_wrongs 3 u) fun v6 =>
            if v6 < 8 then
              bd1 (fX3_keep 3 u) fun u8 =>
              bd1 (fX0_addWrong 3 p0 p1 p2 u8) fun u10 =>
              bd1 (fX0_wrongs 3 u10) fun v12 =>
              some ((v12 - 1), u10)
            else
              some ((-3), u)
          else
            some ((-1), u)
set_option maxHeartbeats 4000000 in
set_option maxRecDepth 100000 in
theorem mX7_sin (w : Wc) {p0 : Int32} {p1 : Int32} {p2 : Int32}  {u : Um} {r : Int32} {u' : Um} (hf : fX7_sin p0 p1 p2 u = some (r, u')) : MC w 3 qX7_sin [.ref 0, .int p0, .int p1, .int p2] u (some (.int r)) u' := by
  unfold fX7_sin at hf
  refine MC_intro pnX7 (Nat.le_of_ble_eq_true rfl) (fun X hX hR _ _ => ?_)
  have hX : OKc w X RX7 cX7_sin 3 := hX
  have hR : RT w X (some .int) 0 0 Pst 133 false (some (.int r)) u' := hR
  refine G_eql (lv' := [some (.ref 0), some (.int p0), some (.int p1), some (.int p2)]) rfl ?_
  refine G_aload_n hX dX7_sin_0 rfl ?_
  refine G_getR (i := 1) (t := 3) hX kK0 (Nat.le_of_ble_eq_true rfl) (Nat.le_of_ble_eq_true rfl) rfl pK0_1 flX7_19 dX7_sin_1 ?_
  refine G_iload_n hX dX7_sin_4 rfl ?_
  obtain ⟨v2, h1, hf⟩ := bd1_some hf
  refine G_cV (as := [.int p0]) (rest := []) hX cvX7_90 (mX0_hasPerson w kK3 h1) (Nat.le_of_ble_eq_true rfl) kK3 (Nat.le_of_ble_eq_true rfl) (Nat.le_of_ble_eq_true rfl) rfl rfl (Nat.le_of_ble_eq_true rfl) dX7_sin_5 (st' := [.int v2]) rfl ?_
  refine G_if_eq (tgt := 38) hX dX7_sin_8 rfl hf (fun hf => ?_) (fun hf => ?_)
  · refine G_iconst (v := (-1)) hX dX7_sin_38 rfl ?_
    obtain ⟨rfl, rfl⟩ := ret2 hf
    exact G_iret hX hR dX7_sin_39
  · refine G_aload_n hX dX7_sin_11 rfl ?_
    refine G_getR (i := 1) (t := 3) hX kK0 (Nat.le_of_ble_eq_true rfl) (Nat.le_of_ble_eq_true rfl) rfl pK0_1 flX7_19 dX7_sin_12 ?_
    refine G_iload_n hX dX7_sin_15 rfl ?_
    obtain ⟨v4, h3, hf⟩ := bd1_some hf
    refine G_cV (as := [.int p1]) (rest := []) hX cvX7_90 (mX0_hasPerson w kK3 h3) (Nat.le_of_ble_eq_true rfl) kK3 (Nat.le_of_ble_eq_true rfl) (Nat.le_of_ble_eq_true rfl) rfl rfl (Nat.le_of_ble_eq_true rfl) dX7_sin_16 (st' := [.int v4]) rfl ?_
    refine G_if_eq (tgt := 38) hX dX7_sin_19 rfl hf (fun hf => ?_) (fun hf => ?_)
    · refine G_iconst (v := (-1)) hX dX7_sin_38 rfl ?_
      obtain ⟨rfl, rfl⟩ := ret2 hf
      exact G_iret hX hR dX7_sin_39
    · refine G_iload_n hX dX7_sin_22 rfl ?_
      refine G_iload_n hX dX7_sin_23 rfl ?_
      refine G_icmp_eq (tgt := 38) hX dX7_sin_24 rfl hf (fun hf => ?_) (fun hf => ?_)
      · refine G_iconst (v := (-1)) hX dX7_sin_38 rfl ?_
        obtain ⟨rfl, rfl⟩ := ret2 hf
        exact G_iret hX hR dX7_sin_39
      · refine G_iload_n hX dX7_sin_27 rfl ?_
        refine G_iconst (v := 1) hX dX7_sin_28 rfl ?_
        refine G_icmp_lt (tgt := 38) hX dX7_sin_29 rfl hf (fun hf => ?_) (fun hf => ?_)
        · refine G_iconst (v := (-1)) hX dX7_sin_38 rfl ?_
          obtain ⟨rfl, rfl⟩ := ret2 hf
          exact G_iret hX hR dX7_sin_39
        · refine G_iload_n hX dX7_sin_32 rfl ?_
          refine G_bipush (v := 9) hX dX7_sin_33 rfl ?_
          refine G_icmp_le (tgt := 40) hX dX7_sin_35 rfl hf (fun hf => ?_) (fun hf => ?_)
          · refine G_aload_n hX dX7_sin_40 rfl ?_
            refine G_getR (i := 1) (t := 3) hX kK0 (Nat.le_of_ble_eq_true rfl) (Nat.le_of_ble_eq_true rfl) rfl pK0_1 flX7_19 dX7_sin_41 ?_
            obtain ⟨v6, h5, hf⟩ := bd1_some hf
            refine G_cV (as := []) (rest := []) hX cvX7_87 (mX0_wrongs w kK3 h5) (Nat.le_of_ble_eq_true rfl) kK3 (Nat.le_of_ble_eq_true rfl) (Nat.le_of_ble_eq_true rfl) rfl rfl (Nat.le_of_ble_eq_true rfl) dX7_sin_44 (st' := [.int v6]) rfl ?_
            refine G_bipush (v := 8) hX dX7_sin_47 rfl ?_
            refine G_icmp_lt (tgt := 55) hX dX7_sin_49 rfl hf (fun hf => ?_) (fun hf => ?_)
            · refine G_aload_n hX dX7_sin_55 rfl ?_
              refine G_getR (i := 3) (t := 9) hX kK0 (Nat.le_of_ble_eq_true rfl) (Nat.le_of_ble_eq_true rfl) rfl pK0_3 flX7_29 dX7_sin_56 ?_
              refine G_aload_n hX dX7_sin_59 rfl ?_
              refine G_getR (i := 1) (t := 3) hX kK0 (Nat.le_of_ble_eq_true rfl) (Nat.le_of_ble_eq_true rfl) rfl pK0_1 flX7_19 dX7_sin_60 ?_
              obtain ⟨u8, h7, hf⟩ := bd1_some hf
              refine G_cV (as := [.ref 3]) (rest := []) hX cvX7_121 (mX3_keep w kK3 h7) (Nat.le_of_ble_eq_true rfl) kK9 (Nat.le_of_ble_eq_true rfl) (Nat.le_of_ble_eq_true rfl) rfl rfl (Nat.le_of_ble_eq_true rfl) dX7_sin_63 (st' := []) rfl ?_
              refine G_aload_n hX dX7_sin_66 rfl ?_
              refine G_getR (i := 1) (t := 3) hX kK0 (Nat.le_of_ble_eq_true rfl) (Nat.le_of_ble_eq_true rfl) rfl pK0_1 flX7_19 dX7_sin_67 ?_
              refine G_iload_n hX dX7_sin_70 rfl ?_
              refine G_iload_n hX dX7_sin_71 rfl ?_
              refine G_iload_n hX dX7_sin_72 rfl ?_
              obtain ⟨u10, h9, hf⟩ := bd1_some hf
              refine G_cV (as := [.int p0, .int p1, .int p2]) (rest := []) hX cvX7_131 (mX0_addWrong w kK3 h9) (Nat.le_of_ble_eq_true rfl) kK3 (Nat.le_of_ble_eq_true rfl) (Nat.le_of_ble_eq_true rfl) rfl rfl (Nat.le_of_ble_eq_true rfl) dX7_sin_73 (st' := []) rfl ?_
              refine G_aload_n hX dX7_sin_76 rfl ?_
              refine G_getR (i := 1) (t := 3) hX kK0 (Nat.le_of_ble_eq_true rfl) (Nat.le_of_ble_eq_true rfl) rfl pK0_1 flX7_19 dX7_sin_77 ?_
              obtain ⟨v12, h11, hf⟩ := bd1_some hf
              refine G_cV (as := []) (rest := []) hX cvX7_87 (mX0_wrongs w kK3 h11) (Nat.le_of_ble_eq_true rfl) kK3 (Nat.le_of_ble_eq_true rfl) (Nat.le_of_ble_eq_true rfl) rfl rfl (Nat.le_of_ble_eq_true rfl) dX7_sin_80 (st' := [.int v12]) rfl ?_
              refine G_iconst (v := 1) hX dX7_sin_83 rfl ?_
              refine G_isub hX dX7_sin_84 ?_
              obtain ⟨rfl, rfl⟩ := ret2 hf
              exact G_iret hX hR dX7_sin_85
            · refine G_bipush (v := (-3)) hX dX7_sin_52 rfl ?_
              obtain ⟨rfl, rfl⟩ := ret2 hf
              exact G_iret hX hR dX7_sin_54
          · refine G_iconst (v := (-1)) hX dX7_sin_38 rfl ?_
            obtain ⟨rfl, rfl⟩ := ret2 hf
            exact G_iret hX hR dX7_sin_39
noncomputable def fX7_harden (p0 : Int32) (p1 : Int32) (u : Um) : Option (Int32 × Um) :=
  bd1 (fX0_hasPerson 3 p0 u) fun v2 =>
  if v2 = 0 then
    some ((-1), u)
  else
    if p1 < 0 then
      some ((-1), u)
    else
      if p1 ≤ 9 then
        bd2 (fX7_change p0 2 p1 u) fun v4 u5 =>
        some (v4, u5)
      else
        some ((-1), u)
set_option maxHeartbeats 4000000 in
set_option maxRecDepth 100000 in
theorem mX7_harden (w : Wc) {p0 : Int32} {p1 : Int32}  {u : Um} {r : Int32} {u' : Um} (hf : fX7_harden p0 p1 u = some (r, u')) : MC w 4 qX7_harden [.ref 0, .int p0, .int p1] u (some (.int r)) u' := by
  unfold fX7_harden at hf
  refine MC_intro pnX7 (Nat.le_of_ble_eq_true rfl) (fun X hX hR _ _ => ?_)
  have hX : OKc w X RX7 cX7_harden 4 := hX
  have hR : RT w X (some .int) 0 0 Pst 133 false (some (.int r)) u' := hR
  refine G_eql (lv' := [some (.ref 0), some (.int p0), some (.int p1)]) rfl ?_
  refine G_aload_n hX dX7_harden_0 rfl ?_
  refine G_getR (i := 1) (t := 3) hX kK0 (Nat.le_of_ble_eq_true rfl) (Nat.le_of_ble_eq_true rfl) rfl pK0_1 flX7_19 dX7_harden_1 ?_
  refine G_iload_n hX dX7_harden_4 rfl ?_
  obtain ⟨v2, h1, hf⟩ := bd1_some hf
  refine G_cV (as := [.int p0]) (rest := []) hX cvX7_90 (mX0_hasPerson w kK3 h1) (Nat.le_of_ble_eq_true rfl) kK3 (Nat.le_of_ble_eq_true rfl) (Nat.le_of_ble_eq_true rfl) rfl rfl (Nat.le_of_ble_eq_true rfl) dX7_harden_5 (st' := [.int v2]) rfl ?_
  refine G_if_eq (tgt := 21) hX dX7_harden_8 rfl hf (fun hf => ?_) (fun hf => ?_)
  · refine G_iconst (v := (-1)) hX dX7_harden_21 rfl ?_
    obtain ⟨rfl, rfl⟩ := ret2 hf
    exact G_iret hX hR dX7_harden_22
  · refine G_iload_n hX dX7_harden_11 rfl ?_
    refine G_if_lt (tgt := 21) hX dX7_harden_12 rfl hf (fun hf => ?_) (fun hf => ?_)
    · refine G_iconst (v := (-1)) hX dX7_harden_21 rfl ?_
      obtain ⟨rfl, rfl⟩ := ret2 hf
      exact G_iret hX hR dX7_harden_22
    · refine G_iload_n hX dX7_harden_15 rfl ?_
      refine G_bipush (v := 9) hX dX7_harden_16 rfl ?_
      refine G_icmp_le (tgt := 23) hX dX7_harden_18 rfl hf (fun hf => ?_) (fun hf => ?_)
      · refine G_aload_n hX dX7_harden_23 rfl ?_
        refine G_iload_n hX dX7_harden_24 rfl ?_
        refine G_iconst (v := 2) hX dX7_harden_25 rfl ?_
        refine G_iload_n hX dX7_harden_26 rfl ?_
        obtain ⟨v4, u5, h3, hf⟩ := bd2_some hf
        refine G_cV (as := [.int p0, .int 2, .int p1]) (rest := []) hX cvX7_127 (mX7_change w h3) (Nat.le_of_ble_eq_true rfl) kK0 (Nat.le_of_ble_eq_true rfl) (Nat.le_of_ble_eq_true rfl) rfl rfl (Nat.le_of_ble_eq_true rfl) dX7_harden_27 (st' := [.int v4]) rfl ?_
        obtain ⟨rfl, rfl⟩ := ret2 hf
        exact G_iret hX hR dX7_harden_30
      · refine G_iconst (v := (-1)) hX dX7_harden_21 rfl ?_
        obtain ⟨rfl, rfl⟩ := ret2 hf
        exact G_iret hX hR dX7_harden_22
noncomputable def fX0_stands (a : Nat) (u : Um) : Option Int32 :=
  if (u.1 a 2) ≤ 0 then
    some 0
  else
    some 1
set_option maxHeartbeats 4000000 in
set_option maxRecDepth 100000 in
theorem mX0_stands (w : Wc) {a : Nat} (ha : kd a = 0) {u : Um} {r : Int32} (hf : fX0_stands a u = some r) : MC w 1 qX0_stands [.ref a] u (some (.int r)) u := by
  unfold fX0_stands at hf
  refine MC_intro pnX0 (Nat.le_of_ble_eq_true rfl) (fun X hX hR _ _ => ?_)
  have hX : OKc w X RX0 cX0_stands 1 := hX
  have hR : RT w X (some .boolean) 0 0 Pst 133 false (some (.int r)) u := hR
  refine G_eql (lv' := [some (.ref a)]) rfl ?_
  refine G_aload_n hX dX0_stands_0 rfl ?_
  refine G_getI (i := 2) hX ha (Nat.le_of_ble_eq_true rfl) (kd_lt ha (Nat.le_of_ble_eq_true rfl)) rfl flX0_18 dX0_stands_1 ?_
  refine G_if_le (tgt := 11) hX dX0_stands_4 rfl hf (fun hf => ?_) (fun hf => ?_)
  · refine G_iconst (v := 0) hX dX0_stands_11 rfl ?_
    obtain rfl := Option.some.inj hf
    exact G_zret hX hR (by decide) dX0_stands_12
  · refine G_iconst (v := 1) hX dX0_stands_7 rfl ?_
    refine G_goto (tgt := 12) hX dX0_stands_8 rfl ?_
    obtain rfl := Option.some.inj hf
    exact G_zret hX hR (by decide) dX0_stands_12
noncomputable def fX7_pass  (u : Um) : Option (Int32 × Um) :=
  bd1 (fX0_stands 3 u) fun v2 =>
  if v2 = 0 then
    some ((-2), u)
  else
    bd1 (fX0_day 3 u) fun v4 =>
    if v4 < 9999 then
      bd1 (fX3_keep 3 u) fun u6 =>
      bd1 (fX0_nextDay 3 u6) fun u8 =>
      bd1 (fX0_day 3 u8) fun v10 =>
      some (v10, u8)
    else
      some ((-3), u)
set_option maxHeartbeats 4000000 in
set_option maxRecDepth 100000 in
theorem mX7_pass (w : Wc)   {u : Um} {r : Int32} {u' : Um} (hf : fX7_pass  u = some (r, u')) : MC w 3 qX7_pass [.ref 0] u (some (.int r)) u' := by
  unfold fX7_pass at hf
  refine MC_intro pnX7 (Nat.le_of_ble_eq_true rfl) (fun X hX hR _ _ => ?_)
  have hX : OKc w X RX7 cX7_pass 3 := hX
  have hR : RT w X (some .int) 0 0 Pst 133 false (some (.int r)) u' := hR
  refine G_eql (lv' := [some (.ref 0)]) rfl ?_
  refine G_aload_n hX dX7_pass_0 rfl ?_
  refine G_getR (i := 1) (t := 3) hX kK0 (Nat.le_of_ble_eq_true rfl) (Nat.le_of_ble_eq_true rfl) rfl pK0_1 flX7_19 dX7_pass_1 ?_
  obtain ⟨v2, h1, hf⟩ := bd1_some hf
  refine G_cV (as := []) (rest := []) hX cvX7_135 (mX0_stands w kK3 h1) (Nat.le_of_ble_eq_true rfl) kK3 (Nat.le_of_ble_eq_true rfl) (Nat.le_of_ble_eq_true rfl) rfl rfl (Nat.le_of_ble_eq_true rfl) dX7_pass_4 (st' := [.int v2]) rfl ?_
  refine G_if_ne (tgt := 13) hX dX7_pass_7 rfl hf (fun hf => ?_) (fun hf => ?_)
  · refine G_aload_n hX dX7_pass_13 rfl ?_
    refine G_getR (i := 1) (t := 3) hX kK0 (Nat.le_of_ble_eq_true rfl) (Nat.le_of_ble_eq_true rfl) rfl pK0_1 flX7_19 dX7_pass_14 ?_
    obtain ⟨v4, h3, hf⟩ := bd1_some hf
    refine G_cV (as := []) (rest := []) hX cvX7_118 (mX0_day w kK3 h3) (Nat.le_of_ble_eq_true rfl) kK3 (Nat.le_of_ble_eq_true rfl) (Nat.le_of_ble_eq_true rfl) rfl rfl (Nat.le_of_ble_eq_true rfl) dX7_pass_17 (st' := [.int v4]) rfl ?_
    refine G_sipush (v := 9999) hX dX7_pass_20 rfl ?_
    refine G_icmp_lt (tgt := 29) hX dX7_pass_23 rfl hf (fun hf => ?_) (fun hf => ?_)
    · refine G_aload_n hX dX7_pass_29 rfl ?_
      refine G_getR (i := 3) (t := 9) hX kK0 (Nat.le_of_ble_eq_true rfl) (Nat.le_of_ble_eq_true rfl) rfl pK0_3 flX7_29 dX7_pass_30 ?_
      refine G_aload_n hX dX7_pass_33 rfl ?_
      refine G_getR (i := 1) (t := 3) hX kK0 (Nat.le_of_ble_eq_true rfl) (Nat.le_of_ble_eq_true rfl) rfl pK0_1 flX7_19 dX7_pass_34 ?_
      obtain ⟨u6, h5, hf⟩ := bd1_some hf
      refine G_cV (as := [.ref 3]) (rest := []) hX cvX7_121 (mX3_keep w kK3 h5) (Nat.le_of_ble_eq_true rfl) kK9 (Nat.le_of_ble_eq_true rfl) (Nat.le_of_ble_eq_true rfl) rfl rfl (Nat.le_of_ble_eq_true rfl) dX7_pass_37 (st' := []) rfl ?_
      refine G_aload_n hX dX7_pass_40 rfl ?_
      refine G_getR (i := 1) (t := 3) hX kK0 (Nat.le_of_ble_eq_true rfl) (Nat.le_of_ble_eq_true rfl) rfl pK0_1 flX7_19 dX7_pass_41 ?_
      obtain ⟨u8, h7, hf⟩ := bd1_some hf
      refine G_cV (as := []) (rest := []) hX cvX7_139 (mX0_nextDay w kK3 h7) (Nat.le_of_ble_eq_true rfl) kK3 (Nat.le_of_ble_eq_true rfl) (Nat.le_of_ble_eq_true rfl) rfl rfl (Nat.le_of_ble_eq_true rfl) dX7_pass_44 (st' := []) rfl ?_
      refine G_aload_n hX dX7_pass_47 rfl ?_
      refine G_getR (i := 1) (t := 3) hX kK0 (Nat.le_of_ble_eq_true rfl) (Nat.le_of_ble_eq_true rfl) rfl pK0_1 flX7_19 dX7_pass_48 ?_
      obtain ⟨v10, h9, hf⟩ := bd1_some hf
      refine G_cV (as := []) (rest := []) hX cvX7_118 (mX0_day w kK3 h9) (Nat.le_of_ble_eq_true rfl) kK3 (Nat.le_of_ble_eq_true rfl) (Nat.le_of_ble_eq_true rfl) rfl rfl (Nat.le_of_ble_eq_true rfl) dX7_pass_51 (st' := [.int v10]) rfl ?_
      obtain ⟨rfl, rfl⟩ := ret2 hf
      exact G_iret hX hR dX7_pass_54
    · refine G_bipush (v := (-3)) hX dX7_pass_26 rfl ?_
      obtain ⟨rfl, rfl⟩ := ret2 hf
      exact G_iret hX hR dX7_pass_28
  · refine G_bipush (v := (-2)) hX dX7_pass_10 rfl ?_
    obtain ⟨rfl, rfl⟩ := ret2 hf
    exact G_iret hX hR dX7_pass_12
