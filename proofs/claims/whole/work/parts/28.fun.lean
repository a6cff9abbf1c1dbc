noncomputable def fX8_isOverSands_j20 (p0 : Int32) (p1 : Int32) (z0 : Int32) (z1 : Int32) (u : Um) : Option Int32 :=
  if z1 = z0 then
    some 0
  else
    some 1
set_option maxHeartbeats 4000000 in
set_option maxRecDepth 100000 in
theorem tX8_isOverSands_j20 {w : Wc} {X : MX} (hX : OKc w X RX8 cX8_isOverSands 1) {p0 : Int32} {p1 : Int32} {z0 : Int32} {z1 : Int32} {u : Um} {r : Int32} (hR : RT w X (some .boolean) 0 0 Pst 133 false (some (.int r)) u) (hf : fX8_isOverSands_j20 p0 p1 z0 z1 u = some r) : G w X Zm 20 [none, none] [.int z0, .int z1] u := by
  unfold fX8_isOverSands_j20 at hf
  refine G_icmp_eq (tgt := 27) hX dX8_isOverSands_20 rfl hf (fun hf => ?_) (fun hf => ?_)
  · refine G_iconst (v := 0) hX dX8_isOverSands_27 rfl ?_
    obtain rfl := Option.some.inj hf
    exact G_zret hX hR (by decide) dX8_isOverSands_28
  · refine G_iconst (v := 1) hX dX8_isOverSands_23 rfl ?_
    refine G_goto (tgt := 28) hX dX8_isOverSands_24 rfl ?_
    obtain rfl := Option.some.inj hf
    exact G_zret hX hR (by decide) dX8_isOverSands_28
noncomputable def fX8_isOverSands_j10 (p0 : Int32) (p1 : Int32) (z0 : Int32) (u : Um) : Option Int32 :=
  if 5 ≤ p1 then
    fX8_isOverSands_j20 p0 p1 0 z0 u
  else
    fX8_isOverSands_j20 p0 p1 1 z0 u
set_option maxHeartbeats 4000000 in
set_option maxRecDepth 100000 in
theorem tX8_isOverSands_j10 {w : Wc} {X : MX} (hX : OKc w X RX8 cX8_isOverSands 1) {p0 : Int32} {p1 : Int32} {z0 : Int32} {u : Um} {r : Int32} (hR : RT w X (some .boolean) 0 0 Pst 133 false (some (.int r)) u) (hf : fX8_isOverSands_j10 p0 p1 z0 u = some r) : G w X Zm 10 [none, some (.int p1)] [.int z0] u := by
  unfold fX8_isOverSands_j10 at hf
  refine G_iload_n hX dX8_isOverSands_10 rfl ?_
  refine G_iconst (v := 5) hX dX8_isOverSands_11 rfl ?_
  refine G_icmp_ge (tgt := 19) hX dX8_isOverSands_12 rfl hf (fun hf => ?_) (fun hf => ?_)
  · refine G_iconst (v := 0) hX dX8_isOverSands_19 rfl ?_
    refine G_mask (lv' := [none, none]) [false, false] rfl rfl ?_
    exact tX8_isOverSands_j20 hX  hR hf
  · refine G_iconst (v := 1) hX dX8_isOverSands_15 rfl ?_
    refine G_goto (tgt := 20) hX dX8_isOverSands_16 rfl ?_
    refine G_mask (lv' := [none, none]) [false, false] rfl rfl ?_
    exact tX8_isOverSands_j20 hX  hR hf
noncomputable def fX8_isOverSands (p0 : Int32) (p1 : Int32) (u : Um) : Option Int32 :=
  if 5 ≤ p0 then
    fX8_isOverSands_j10 p0 p1 0 u
  else
    fX8_isOverSands_j10 p0 p1 1 u
set_option maxHeartbeats 4000000 in
set_option maxRecDepth 100000 in
theorem mX8_isOverSands (w : Wc) {p0 : Int32} {p1 : Int32}  {u : Um} {r : Int32} (hf : fX8_isOverSands p0 p1 u = some r) : MC w 1 qX8_isOverSands [.int p0, .int p1] u (some (.int r)) u := by
  unfold fX8_isOverSands at hf
  refine MC_intro pnX8 (Nat.le_of_ble_eq_true rfl) (fun X hX hR _ _ => ?_)
  have hX : OKc w X RX8 cX8_isOverSands 1 := hX
  have hR : RT w X (some .boolean) 0 0 Pst 133 false (some (.int r)) u := hR
  refine G_eql (lv' := [some (.int p0), some (.int p1)]) rfl ?_
  refine G_iload_n hX dX8_isOverSands_0 rfl ?_
  refine G_iconst (v := 5) hX dX8_isOverSands_1 rfl ?_
  refine G_icmp_ge (tgt := 9) hX dX8_isOverSands_2 rfl hf (fun hf => ?_) (fun hf => ?_)
  · refine G_iconst (v := 0) hX dX8_isOverSands_9 rfl ?_
    refine G_mask (lv' := [none, some (.int p1)]) [false, true] rfl rfl ?_
    exact tX8_isOverSands_j10 hX  hR hf
  · refine G_iconst (v := 1) hX dX8_isOverSands_5 rfl ?_
    refine G_goto (tgt := 10) hX dX8_isOverSands_6 rfl ?_
    refine G_mask (lv' := [none, some (.int p1)]) [false, true] rfl rfl ?_
    exact tX8_isOverSands_j10 hX  hR hf
noncomputable def fX8_isMay_j53 (p0 : Nat) (p1 : Int32) (p2 : Int32) (j3 : Int32) (z0 : Int32) (u : Um) : Option Int32 :=
  if j3 = 0 then
    some 0
  else
    if inb (33 + p2) (ln p0) = true then
    if inb (51 + p1) (ln p0) = true then
    if (u.1 p0 ((33 + p2)).toNatClampNeg) = (u.1 p0 ((51 + p1)).toNatClampNeg) then
      if inb (59 + p1) (ln p0) = true then
      if p2 = (u.1 p0 ((59 + p1)).toNatClampNeg) then
        some 0
      else
        if z0 = 0 then
          some 0
        else
          some 1
      else none
    else
      some 0
    else none
    else none
set_option maxHeartbeats 4000000 in
set_option maxRecDepth 100000 in
theorem tX8_isMay_j53 {w : Wc} {X : MX} (hX : OKc w X RX8 cX8_isMay 2) {p0 : Nat} {p1 : Int32} {p2 : Int32} {j3 : Int32} {z0 : Int32} (hp0 : kd p0 = 9) {u : Um} {r : Int32} (hR : RT w X (some .boolean) 0 0 Pst 133 false (some (.int r)) u) (hf : fX8_isMay_j53 p0 p1 p2 j3 z0 u = some r) : G w X Zm 53 [some (.ref p0), some (.int p1), some (.int p2), some (.int j3), none] [.int z0] u := by
  unfold fX8_isMay_j53 at hf
  refine G_istore (lv' := [some (.ref p0), some (.int p1), some (.int p2), some (.int j3), some (.int z0)]) hX dX8_isMay_53 rfl (Nat.le_of_ble_eq_true rfl) rfl ?_
  refine G_iload_n hX dX8_isMay_55 rfl ?_
  refine G_if_eq (tgt := 93) hX dX8_isMay_56 rfl hf (fun hf => ?_) (fun hf => ?_)
  · refine G_iconst (v := 0) hX dX8_isMay_93 rfl ?_
    obtain rfl := Option.some.inj hf
    exact G_zret hX hR (by decide) dX8_isMay_94
  · refine G_aload_n hX dX8_isMay_59 rfl ?_
    refine G_bipush (v := 33) hX dX8_isMay_60 rfl ?_
    refine G_iload_n hX dX8_isMay_62 rfl ?_
    refine G_iadd hX dX8_isMay_63 ?_
    refine G_iald (n := (ln p0)) hX hp0 rfl (kd_lt hp0 (Nat.le_of_ble_eq_true rfl)) dX8_isMay_64 hf (fun hf => ?_)
    refine G_aload_n hX dX8_isMay_65 rfl ?_
    refine G_bipush (v := 51) hX dX8_isMay_66 rfl ?_
    refine G_iload_n hX dX8_isMay_68 rfl ?_
    refine G_iadd hX dX8_isMay_69 ?_
    refine G_iald (n := (ln p0)) hX hp0 rfl (kd_lt hp0 (Nat.le_of_ble_eq_true rfl)) dX8_isMay_70 hf (fun hf => ?_)
    refine G_icmp_ne (tgt := 93) hX dX8_isMay_71 rfl hf (fun hf => ?_) (fun hf => ?_)
    · refine G_iconst (v := 0) hX dX8_isMay_93 rfl ?_
      obtain rfl := Option.some.inj hf
      exact G_zret hX hR (by decide) dX8_isMay_94
    · refine G_iload_n hX dX8_isMay_74 rfl ?_
      refine G_aload_n hX dX8_isMay_75 rfl ?_
      refine G_bipush (v := 59) hX dX8_isMay_76 rfl ?_
      refine G_iload_n hX dX8_isMay_78 rfl ?_
      refine G_iadd hX dX8_isMay_79 ?_
      refine G_iald (n := (ln p0)) hX hp0 rfl (kd_lt hp0 (Nat.le_of_ble_eq_true rfl)) dX8_isMay_80 hf (fun hf => ?_)
      refine G_icmp_eq (tgt := 93) hX dX8_isMay_81 rfl hf (fun hf => ?_) (fun hf => ?_)
      · refine G_iconst (v := 0) hX dX8_isMay_93 rfl ?_
        obtain rfl := Option.some.inj hf
        exact G_zret hX hR (by decide) dX8_isMay_94
      · refine G_iload hX dX8_isMay_84 rfl ?_
        refine G_if_eq (tgt := 93) hX dX8_isMay_86 rfl hf (fun hf => ?_) (fun hf => ?_)
        · refine G_iconst (v := 0) hX dX8_isMay_93 rfl ?_
          obtain rfl := Option.some.inj hf
          exact G_zret hX hR (by decide) dX8_isMay_94
        · refine G_iconst (v := 1) hX dX8_isMay_89 rfl ?_
          refine G_goto (tgt := 94) hX dX8_isMay_90 rfl ?_
          obtain rfl := Option.some.inj hf
          exact G_zret hX hR (by decide) dX8_isMay_94
noncomputable def fX8_isMay_j48 (p0 : Nat) (p1 : Int32) (p2 : Int32) (j3 : Int32) (u : Um) : Option Int32 :=
  fX8_isMay_j53 p0 p1 p2 j3 1 u
set_option maxHeartbeats 4000000 in
set_option maxRecDepth 100000 in
theorem tX8_isMay_j48 {w : Wc} {X : MX} (hX : OKc w X RX8 cX8_isMay 2) {p0 : Nat} {p1 : Int32} {p2 : Int32} {j3 : Int32} (hp0 : kd p0 = 9) {u : Um} {r : Int32} (hR : RT w X (some .boolean) 0 0 Pst 133 false (some (.int r)) u) (hf : fX8_isMay_j48 p0 p1 p2 j3 u = some r) : G w X Zm 48 [some (.ref p0), some (.int p1), some (.int p2), some (.int j3), none] [] u := by
  unfold fX8_isMay_j48 at hf
  refine G_iconst (v := 1) hX dX8_isMay_48 rfl ?_
  refine G_goto (tgt := 53) hX dX8_isMay_49 rfl ?_
  refine G_mask (lv' := [some (.ref p0), some (.int p1), some (.int p2), some (.int j3), none]) [true, true, true, true, false] rfl rfl ?_
  exact tX8_isMay_j53 hX hp0 hR hf
noncomputable def fX8_isMay_j16 (p0 : Nat) (p1 : Int32) (p2 : Int32) (z0 : Int32) (u : Um) : Option Int32 :=
  if inb 0 (ln p0) = true then
  if (irm (u.1 p0 (0 : Int32).toNatClampNeg) 2) = 0 then
    fX8_isMay_j48 p0 p1 p2 z0 u
  else
    if inb (27 + p2) (ln p0) = true then
    if inb (59 + p1) (ln p0) = true then
    if inb (21 + (u.1 p0 ((59 + p1)).toNatClampNeg)) (ln p0) = true then
    bd1 (fX8_isOverSands (u.1 p0 ((27 + p2)).toNatClampNeg) (u.1 p0 ((21 + (u.1 p0 ((59 + p1)).toNatClampNeg))).toNatClampNeg) u) fun v2 =>
    if v2 = 0 then
      fX8_isMay_j48 p0 p1 p2 z0 u
    else
      fX8_isMay_j53 p0 p1 p2 z0 0 u
    else none
    else none
    else none
  else none
set_option maxHeartbeats 4000000 in
set_option maxRecDepth 100000 in
theorem tX8_isMay_j16 {w : Wc} {X : MX} (hX : OKc w X RX8 cX8_isMay 2) {p0 : Nat} {p1 : Int32} {p2 : Int32} {z0 : Int32} (hp0 : kd p0 = 9) {u : Um} {r : Int32} (hR : RT w X (some .boolean) 0 0 Pst 133 false (some (.int r)) u) (hf : fX8_isMay_j16 p0 p1 p2 z0 u = some r) : G w X Zm 16 [some (.ref p0), some (.int p1), some (.int p2), none, none] [.int z0] u := by
  unfold fX8_isMay_j16 at hf
  refine G_istore_n (lv' := [some (.ref p0), some (.int p1), some (.int p2), some (.int z0), none]) hX dX8_isMay_16 rfl (Nat.le_of_ble_eq_true rfl) rfl ?_
  refine G_aload_n hX dX8_isMay_17 rfl ?_
  refine G_iconst (v := 0) hX dX8_isMay_18 rfl ?_
  refine G_iald (n := (ln p0)) hX hp0 rfl (kd_lt hp0 (Nat.le_of_ble_eq_true rfl)) dX8_isMay_19 hf (fun hf => ?_)
  refine G_iconst (v := 2) hX dX8_isMay_20 rfl ?_
  refine G_irem hX dX8_isMay_21 (by decide) ?_
  refine G_if_eq (tgt := 48) hX dX8_isMay_22 rfl hf (fun hf => ?_) (fun hf => ?_)
  · refine G_mask (lv' := [some (.ref p0), some (.int p1), some (.int p2), some (.int z0), none]) [true, true, true, true, false] rfl rfl ?_
    exact tX8_isMay_j48 hX hp0 hR hf
  · refine G_aload_n hX dX8_isMay_25 rfl ?_
    refine G_bipush (v := 27) hX dX8_isMay_26 rfl ?_
    refine G_iload_n hX dX8_isMay_28 rfl ?_
    refine G_iadd hX dX8_isMay_29 ?_
    refine G_iald (n := (ln p0)) hX hp0 rfl (kd_lt hp0 (Nat.le_of_ble_eq_true rfl)) dX8_isMay_30 hf (fun hf => ?_)
    refine G_aload_n hX dX8_isMay_31 rfl ?_
    refine G_bipush (v := 21) hX dX8_isMay_32 rfl ?_
    refine G_aload_n hX dX8_isMay_34 rfl ?_
    refine G_bipush (v := 59) hX dX8_isMay_35 rfl ?_
    refine G_iload_n hX dX8_isMay_37 rfl ?_
    refine G_iadd hX dX8_isMay_38 ?_
    refine G_iald (n := (ln p0)) hX hp0 rfl (kd_lt hp0 (Nat.le_of_ble_eq_true rfl)) dX8_isMay_39 hf (fun hf => ?_)
    refine G_iadd hX dX8_isMay_40 ?_
    refine G_iald (n := (ln p0)) hX hp0 rfl (kd_lt hp0 (Nat.le_of_ble_eq_true rfl)) dX8_isMay_41 hf (fun hf => ?_)
    obtain ⟨v2, h1, hf⟩ := bd1_some hf
    refine G_cS (as := [.int (u.1 p0 ((27 + p2)).toNatClampNeg), .int (u.1 p0 ((21 + (u.1 p0 ((59 + p1)).toNatClampNeg))).toNatClampNeg)]) (rest := []) hX csX8_115 (mX8_isOverSands w h1) (Nat.le_of_ble_eq_true rfl) rfl rfl (Nat.le_of_ble_eq_true rfl) dX8_isMay_42 (st' := [.int v2]) rfl ?_
    refine G_if_ne (tgt := 52) hX dX8_isMay_45 rfl hf (fun hf => ?_) (fun hf => ?_)
    · refine G_iconst (v := 0) hX dX8_isMay_52 rfl ?_
      refine G_mask (lv' := [some (.ref p0), some (.int p1), some (.int p2), some (.int z0), none]) [true, true, true, true, false] rfl rfl ?_
      exact tX8_isMay_j53 hX hp0 hR hf
    · refine G_mask (lv' := [some (.ref p0), some (.int p1), some (.int p2), some (.int z0), none]) [true, true, true, true, false] rfl rfl ?_
      exact tX8_isMay_j48 hX hp0 hR hf
noncomputable def fX8_isMay (p0 : Nat) (p1 : Int32) (p2 : Int32) (u : Um) : Option Int32 :=
  if inb (75 + p1) (ln p0) = true then
  if (u.1 p0 ((75 + p1)).toNatClampNeg) = (-4) then
    fX8_isMay_j16 p0 p1 p2 1 u
  else
    fX8_isMay_j16 p0 p1 p2 0 u
  else none
set_option maxHeartbeats 4000000 in
set_option maxRecDepth 100000 in
theorem mX8_isMay (w : Wc) {p0 : Nat} {p1 : Int32} {p2 : Int32} (hp0 : kd p0 = 9) {u : Um} {r : Int32} (hf : fX8_isMay p0 p1 p2 u = some r) : MC w 2 qX8_isMay [.ref p0, .int p1, .int p2] u (some (.int r)) u := by
  unfold fX8_isMay at hf
  refine MC_intro pnX8 (Nat.le_of_ble_eq_true rfl) (fun X hX hR _ _ => ?_)
  have hX : OKc w X RX8 cX8_isMay 2 := hX
  have hR : RT w X (some .boolean) 0 0 Pst 133 false (some (.int r)) u := hR
  refine G_eql (lv' := [some (.ref p0), some (.int p1), some (.int p2), none, none]) rfl ?_
  refine G_aload_n hX dX8_isMay_0 rfl ?_
  refine G_bipush (v := 75) hX dX8_isMay_1 rfl ?_
  refine G_iload_n hX dX8_isMay_3 rfl ?_
  refine G_iadd hX dX8_isMay_4 ?_
  refine G_iald (n := (ln p0)) hX hp0 rfl (kd_lt hp0 (Nat.le_of_ble_eq_true rfl)) dX8_isMay_5 hf (fun hf => ?_)
  refine G_bipush (v := (-4)) hX dX8_isMay_6 rfl ?_
  refine G_icmp_ne (tgt := 15) hX dX8_isMay_8 rfl hf (fun hf => ?_) (fun hf => ?_)
  · refine G_iconst (v := 0) hX dX8_isMay_15 rfl ?_
    refine G_mask (lv' := [some (.ref p0), some (.int p1), some (.int p2), none, none]) [true, true, true, false, false] rfl rfl ?_
    exact tX8_isMay_j16 hX hp0 hR hf
  · refine G_iconst (v := 1) hX dX8_isMay_11 rfl ?_
    refine G_goto (tgt := 16) hX dX8_isMay_12 rfl ?_
    refine G_mask (lv' := [some (.ref p0), some (.int p1), some (.int p2), none, none]) [true, true, true, false, false] rfl rfl ?_
    exact tX8_isMay_j16 hX hp0 hR hf
noncomputable def fX8_whyNot (p0 : Int32) (p1 : Int32) (u : Um) : Option Int32 :=
  bd1 (fX8_isWrong p0 u) fun v2 =>
  if v2 = 0 then
    some (-1)
  else
    bd1 (fX8_isOne p1 u) fun v4 =>
    if v4 = 0 then
      some (-1)
    else
      bd1 (fX8_isMay 122 p0 p1 u) fun v6 =>
      if v6 = 0 then
        some (-2)
      else
        some 0
set_option maxHeartbeats 4000000 in
set_option maxRecDepth 100000 in
theorem mX8_whyNot (w : Wc) {p0 : Int32} {p1 : Int32}  {u : Um} {r : Int32} (hf : fX8_whyNot p0 p1 u = some r) : MC w 3 qX8_whyNot [.ref 117, .int p0, .int p1] u (some (.int r)) u := by
  unfold fX8_whyNot at hf
  refine MC_intro pnX8 (Nat.le_of_ble_eq_true rfl) (fun X hX hR _ _ => ?_)
  have hX : OKc w X RX8 cX8_whyNot 3 := hX
  have hR : RT w X (some .int) 0 0 Pst 133 false (some (.int r)) u := hR
  refine G_eql (lv' := [some (.ref 117), some (.int p0), some (.int p1)]) rfl ?_
  refine G_aload_n hX dX8_whyNot_0 rfl ?_
  refine G_iload_n hX dX8_whyNot_1 rfl ?_
  obtain ⟨v2, h1, hf⟩ := bd1_some hf
  refine G_cV (as := [.int p0]) (rest := []) hX cvX8_108 (mX8_isWrong w h1) (Nat.le_of_ble_eq_true rfl) kK117 (Nat.le_of_ble_eq_true rfl) (Nat.le_of_ble_eq_true rfl) rfl rfl (Nat.le_of_ble_eq_true rfl) dX8_whyNot_2 (st' := [.int v2]) rfl ?_
  refine G_if_eq (tgt := 16) hX dX8_whyNot_5 rfl hf (fun hf => ?_) (fun hf => ?_)
  · refine G_iconst (v := (-1)) hX dX8_whyNot_16 rfl ?_
    refine G_goto (tgt := 38) hX dX8_whyNot_17 rfl ?_
    obtain rfl := Option.some.inj hf
    exact G_iret hX hR dX8_whyNot_38
  · refine G_aload_n hX dX8_whyNot_8 rfl ?_
    refine G_iload_n hX dX8_whyNot_9 rfl ?_
    obtain ⟨v4, h3, hf⟩ := bd1_some hf
    refine G_cV (as := [.int p1]) (rest := []) hX cvX8_105 (mX8_isOne w h3) (Nat.le_of_ble_eq_true rfl) kK117 (Nat.le_of_ble_eq_true rfl) (Nat.le_of_ble_eq_true rfl) rfl rfl (Nat.le_of_ble_eq_true rfl) dX8_whyNot_10 (st' := [.int v4]) rfl ?_
    refine G_if_ne (tgt := 20) hX dX8_whyNot_13 rfl hf (fun hf => ?_) (fun hf => ?_)
    · refine G_aload_n hX dX8_whyNot_20 rfl ?_
      refine G_getR (i := 6) (t := 122) hX kK117 (Nat.le_of_ble_eq_true rfl) (Nat.le_of_ble_eq_true rfl) rfl pK117_6 flX8_23 dX8_whyNot_21 ?_
      refine G_iload_n hX dX8_whyNot_24 rfl ?_
      refine G_iload_n hX dX8_whyNot_25 rfl ?_
      obtain ⟨v6, h5, hf⟩ := bd1_some hf
      refine G_cS (as := [.ref 122, .int p0, .int p1]) (rest := []) hX csX8_137 (mX8_isMay w kK122 h5) (Nat.le_of_ble_eq_true rfl) rfl rfl (Nat.le_of_ble_eq_true rfl) dX8_whyNot_26 (st' := [.int v6]) rfl ?_
      refine G_if_eq (tgt := 36) hX dX8_whyNot_29 rfl hf (fun hf => ?_) (fun hf => ?_)
      · refine G_bipush (v := (-2)) hX dX8_whyNot_36 rfl ?_
        obtain rfl := Option.some.inj hf
        exact G_iret hX hR dX8_whyNot_38
      · refine G_iconst (v := 0) hX dX8_whyNot_32 rfl ?_
        refine G_goto (tgt := 38) hX dX8_whyNot_33 rfl ?_
        obtain rfl := Option.some.inj hf
        exact G_iret hX hR dX8_whyNot_38
    · refine G_iconst (v := (-1)) hX dX8_whyNot_16 rfl ?_
      refine G_goto (tgt := 38) hX dX8_whyNot_17 rfl ?_
      obtain rfl := Option.some.inj hf
      exact G_iret hX hR dX8_whyNot_38
noncomputable def fX8_note_j36  (u : Um) : Option Um :=
  bd1 (fX8_bring 122 0 127 (83 * (u.1 117 12)) 83 u) fun u2 =>
  nm (sI u2 117 12 ((u2.1 117 12) + 1)) fun u3 =>
  some u3
set_option maxHeartbeats 4000000 in
set_option maxRecDepth 100000 in
theorem tX8_note_j36 {w : Wc} {X : MX} (hX : OKc w X RX8 cX8_note 2)  {u : Um} {u' : Um} (hR : RT w X none 0 0 Pst 133 false none u') (hf : fX8_note_j36  u = some u') : G w X Zm 36 [some (.ref 117)] [] u := by
  unfold fX8_note_j36 at hf
  refine G_aload_n hX dX8_note_36 rfl ?_
  refine G_getR (i := 6) (t := 122) hX kK117 (Nat.le_of_ble_eq_true rfl) (Nat.le_of_ble_eq_true rfl) rfl pK117_6 flX8_23 dX8_note_37 ?_
  refine G_iconst (v := 0) hX dX8_note_40 rfl ?_
  refine G_aload_n hX dX8_note_41 rfl ?_
  refine G_getR (i := 11) (t := 127) hX kK117 (Nat.le_of_ble_eq_true rfl) (Nat.le_of_ble_eq_true rfl) rfl pK117_11 flX8_39 dX8_note_42 ?_
  refine G_bipush (v := 83) hX dX8_note_45 rfl ?_
  refine G_aload_n hX dX8_note_47 rfl ?_
  refine G_getI (i := 12) hX kK117 (Nat.le_of_ble_eq_true rfl) (Nat.le_of_ble_eq_true rfl) rfl flX8_102 dX8_note_48 ?_
  refine G_imul hX dX8_note_51 ?_
  refine G_bipush (v := 83) hX dX8_note_52 rfl ?_
  obtain ⟨u2, h1, hf⟩ := bd1_some hf
  refine G_cS (as := [.ref 122, .int 0, .ref 127, .int (83 * (u.1 117 12)), .int 83]) (rest := []) hX csX8_98 (mX8_bring w kK122 kK127 h1) (Nat.le_of_ble_eq_true rfl) rfl rfl (Nat.le_of_ble_eq_true rfl) dX8_note_54 (st' := []) rfl ?_
  refine G_aload_n hX dX8_note_57 rfl ?_
  refine G_dup hX dX8_note_58 rfl ?_
  refine G_getI (i := 12) hX kK117 (Nat.le_of_ble_eq_true rfl) (Nat.le_of_ble_eq_true rfl) rfl flX8_102 dX8_note_59 ?_
  refine G_iconst (v := 1) hX dX8_note_62 rfl ?_
  refine G_iadd hX dX8_note_63 ?_
  refine G_putI (i := 12) hX kK117 (Nat.le_of_ble_eq_true rfl) (Nat.le_of_ble_eq_true rfl) rfl rfl flX8_102 fwX8_12 dX8_note_64 hf (fun u3 hf => ?_)
  obtain rfl := Option.some.inj hf
  exact G_vret hX hR dX8_note_67
noncomputable def fX8_note  (u : Um) : Option Um :=
  if (u.1 117 12) = 24 then
    bd1 (fX8_bring 127 83 127 0 1909 u) fun u5 =>
    nm (sI u5 117 12 ((u5.1 117 12) - 1)) fun u6 =>
    fX8_note_j36  u6
  else
    fX8_note_j36  u
set_option maxHeartbeats 4000000 in
set_option maxRecDepth 100000 in
theorem mX8_note (w : Wc)   {u : Um} {u' : Um} (hf : fX8_note  u = some u') : MC w 2 qX8_note [.ref 117] u none u' := by
  unfold fX8_note at hf
  refine MC_intro pnX8 (Nat.le_of_ble_eq_true rfl) (fun X hX hR _ _ => ?_)
  have hX : OKc w X RX8 cX8_note 2 := hX
  have hR : RT w X none 0 0 Pst 133 false none u' := hR
  refine G_eql (lv' := [some (.ref 117)]) rfl ?_
  refine G_aload_n hX dX8_note_0 rfl ?_
  refine G_getI (i := 12) hX kK117 (Nat.le_of_ble_eq_true rfl) (Nat.le_of_ble_eq_true rfl) rfl flX8_102 dX8_note_1 ?_
  refine G_bipush (v := 24) hX dX8_note_4 rfl ?_
  refine G_icmp_ne (tgt := 36) hX dX8_note_6 rfl hf (fun hf => ?_) (fun hf => ?_)
  · refine G_mask (lv' := [some (.ref 117)]) [true] rfl rfl ?_
    exact tX8_note_j36 hX  hR hf
  · refine G_aload_n hX dX8_note_9 rfl ?_
    refine G_getR (i := 11) (t := 127) hX kK117 (Nat.le_of_ble_eq_true rfl) (Nat.le_of_ble_eq_true rfl) rfl pK117_11 flX8_39 dX8_note_10 ?_
    refine G_bipush (v := 83) hX dX8_note_13 rfl ?_
    refine G_aload_n hX dX8_note_15 rfl ?_
    refine G_getR (i := 11) (t := 127) hX kK117 (Nat.le_of_ble_eq_true rfl) (Nat.le_of_ble_eq_true rfl) rfl pK117_11 flX8_39 dX8_note_16 ?_
    refine G_iconst (v := 0) hX dX8_note_19 rfl ?_
    refine G_sipush (v := 1909) hX dX8_note_20 rfl ?_
    obtain ⟨u5, h4, hf⟩ := bd1_some hf
    refine G_cS (as := [.ref 127, .int 83, .ref 127, .int 0, .int 1909]) (rest := []) hX csX8_98 (mX8_bring w kK127 kK127 h4) (Nat.le_of_ble_eq_true rfl) rfl rfl (Nat.le_of_ble_eq_true rfl) dX8_note_23 (st' := []) rfl ?_
    refine G_aload_n hX dX8_note_26 rfl ?_
    refine G_dup hX dX8_note_27 rfl ?_
    refine G_getI (i := 12) hX kK117 (Nat.le_of_ble_eq_true rfl) (Nat.le_of_ble_eq_true rfl) rfl flX8_102 dX8_note_28 ?_
    refine G_iconst (v := 1) hX dX8_note_31 rfl ?_
    refine G_isub hX dX8_note_32 ?_
    refine G_putI (i := 12) hX kK117 (Nat.le_of_ble_eq_true rfl) (Nat.le_of_ble_eq_true rfl) rfl rfl flX8_102 fwX8_12 dX8_note_33 hf (fun u6 hf => ?_)
    refine G_mask (lv' := [some (.ref 117)]) [true] rfl rfl ?_
    exact tX8_note_j36 hX  hR hf
noncomputable def fX8_milesOf (p0 : Int32) (p1 : Int32) (u : Um) : Option Int32 :=
  if p0 ≤ p1 then
    some (p1 - p0)
  else
    some (p0 - p1)
set_option maxHeartbeats 4000000 in
set_option maxRecDepth 100000 in
theorem mX8_milesOf (w : Wc) {p0 : Int32} {p1 : Int32}  {u : Um} {r : Int32} (hf : fX8_milesOf p0 p1 u = some r) : MC w 1 qX8_milesOf [.int p0, .int p1] u (some (.int r)) u := by
  unfold fX8_milesOf at hf
  refine MC_intro pnX8 (Nat.le_of_ble_eq_true rfl) (fun X hX hR _ _ => ?_)
  have hX : OKc w X RX8 cX8_milesOf 1 := hX
  have hR : RT w X (some .int) 0 0 Pst 133 false (some (.int r)) u := hR
  refine G_eql (lv' := [some (.int p0), some (.int p1)]) rfl ?_
  refine G_iload_n hX dX8_milesOf_0 rfl ?_
  refine G_iload_n hX dX8_milesOf_1 rfl ?_
  refine G_icmp_le (tgt := 11) hX dX8_milesOf_2 rfl hf (fun hf => ?_) (fun hf => ?_)
  · refine G_iload_n hX dX8_milesOf_11 rfl ?_
    refine G_iload_n hX dX8_milesOf_12 rfl ?_
    refine G_isub hX dX8_milesOf_13 ?_
    obtain rfl := Option.some.inj hf
    exact G_iret hX hR dX8_milesOf_14
  · refine G_iload_n hX dX8_milesOf_5 rfl ?_
    refine G_iload_n hX dX8_milesOf_6 rfl ?_
    refine G_isub hX dX8_milesOf_7 ?_
    refine G_goto (tgt := 14) hX dX8_milesOf_8 rfl ?_
    obtain rfl := Option.some.inj hf
    exact G_iret hX hR dX8_milesOf_14
noncomputable def fX8_saidBy (p0 : Int32) (p1 : Int32) (p2 : Int32) (p3 : Int32) (u : Um) : Option Int32 :=
  if p0 = 1 then
    some p1
  else if p0 = 2 then
    some (p1 + 2)
  else if p0 = 3 then
    some (p1 / 2)
  else if p0 = 4 then
    some (p2 + 2)
  else 
  some ((p1 + 2) + (p3 / 2))
set_option maxHeartbeats 4000000 in
set_option maxRecDepth 100000 in
theorem mX8_saidBy (w : Wc) {p0 : Int32} {p1 : Int32} {p2 : Int32} {p3 : Int32}  {u : Um} {r : Int32} (hf : fX8_saidBy p0 p1 p2 p3 u = some r) : MC w 1 qX8_saidBy [.int p0, .int p1, .int p2, .int p3] u (some (.int r)) u := by
  unfold fX8_saidBy at hf
  refine MC_intro pnX8 (Nat.le_of_ble_eq_true rfl) (fun X hX hR _ _ => ?_)
  have hX : OKc w X RX8 cX8_saidBy 1 := hX
  have hR : RT w X (some .int) 0 0 Pst 133 false (some (.int r)) u := hR
  refine G_eql (lv' := [some (.int p0), some (.int p1), some (.int p2), some (.int p3)]) rfl ?_
  refine G_iload_n hX dX8_saidBy_0 rfl ?_
  by_cases c1_0 : p0 = 1
  · rw [if_pos c1_0] at hf
    refine G_tswIn (tgt := 32) hX dX8_saidBy_1 (by rw [c1_0]; decide) (by rw [c1_0]; decide) (by rw [c1_0]; rfl) rfl ?_
    refine G_iload_n hX dX8_saidBy_32 rfl ?_
    obtain rfl := Option.some.inj hf
    exact G_iret hX hR dX8_saidBy_33
  rw [if_neg c1_0] at hf
  by_cases c1_1 : p0 = 2
  · rw [if_pos c1_1] at hf
    refine G_tswIn (tgt := 34) hX dX8_saidBy_1 (by rw [c1_1]; decide) (by rw [c1_1]; decide) (by rw [c1_1]; rfl) rfl ?_
    refine G_iload_n hX dX8_saidBy_34 rfl ?_
    refine G_iconst (v := 2) hX dX8_saidBy_35 rfl ?_
    refine G_iadd hX dX8_saidBy_36 ?_
    obtain rfl := Option.some.inj hf
    exact G_iret hX hR dX8_saidBy_37
  rw [if_neg c1_1] at hf
  by_cases c1_2 : p0 = 3
  · rw [if_pos c1_2] at hf
    refine G_tswIn (tgt := 38) hX dX8_saidBy_1 (by rw [c1_2]; decide) (by rw [c1_2]; decide) (by rw [c1_2]; rfl) rfl ?_
    refine G_iload_n hX dX8_saidBy_38 rfl ?_
    refine G_iconst (v := 2) hX dX8_saidBy_39 rfl ?_
    refine G_idiv hX dX8_saidBy_40 (by decide) ?_
    obtain rfl := Option.some.inj hf
    exact G_iret hX hR dX8_saidBy_41
  rw [if_neg c1_2] at hf
  by_cases c1_3 : p0 = 4
  · rw [if_pos c1_3] at hf
    refine G_tswIn (tgt := 42) hX dX8_saidBy_1 (by rw [c1_3]; decide) (by rw [c1_3]; decide) (by rw [c1_3]; rfl) rfl ?_
    refine G_iload_n hX dX8_saidBy_42 rfl ?_
    refine G_iconst (v := 2) hX dX8_saidBy_43 rfl ?_
    refine G_iadd hX dX8_saidBy_44 ?_
    obtain rfl := Option.some.inj hf
    exact G_iret hX hR dX8_saidBy_45
  rw [if_neg c1_3] at hf
  have n1_0 := lv_neT (a := 1) c1_0 rfl
  have n1_1 := lv_neT (a := 2) c1_1 rfl
  have n1_2 := lv_neT (a := 3) c1_2 rfl
  have n1_3 := lv_neT (a := 4) c1_3 rfl
  refine G_tswOut (tgt := 46) hX dX8_saidBy_1 (by omega) rfl ?_
  refine G_iload_n hX dX8_saidBy_46 rfl ?_
  refine G_iconst (v := 2) hX dX8_saidBy_47 rfl ?_
  refine G_iadd hX dX8_saidBy_48 ?_
  refine G_iload_n hX dX8_saidBy_49 rfl ?_
  refine G_iconst (v := 2) hX dX8_saidBy_50 rfl ?_
  refine G_idiv hX dX8_saidBy_51 (by decide) ?_
  refine G_iadd hX dX8_saidBy_52 ?_
  obtain rfl := Option.some.inj hf
  exact G_iret hX hR dX8_saidBy_53
noncomputable def fX8_saidOf (p0 : Nat) (p1 : Int32) (p2 : Int32) (u : Um) : Option Int32 :=
  if inb (3 + p2) (ln p0) = true then
  if inb (9 + p2) (ln p0) = true then
  if inb (39 + p2) (ln p0) = true then
  if inb (27 + p2) (ln p0) = true then
  if inb (59 + p1) (ln p0) = true then
  if inb (21 + (u.1 p0 ((59 + p1)).toNatClampNeg)) (ln p0) = true then
  bd1 (fX8_milesOf (u.1 p0 ((27 + p2)).toNatClampNeg) (u.1 p0 ((21 + (u.1 p0 ((59 + p1)).toNatClampNeg))).toNatClampNeg) u) fun v2 =>
  bd1 (fX8_saidBy (u.1 p0 ((3 + p2)).toNatClampNeg) (u.1 p0 ((9 + p2)).toNatClampNeg) (u.1 p0 ((39 + p2)).toNatClampNeg) v2 u) fun v4 =>
  some v4
  else none
  else none
  else none
  else none
  else none
  else none
set_option maxHeartbeats 4000000 in
set_option maxRecDepth 100000 in
theorem mX8_saidOf (w : Wc) {p0 : Nat} {p1 : Int32} {p2 : Int32} (hp0 : kd p0 = 9) {u : Um} {r : Int32} (hf : fX8_saidOf p0 p1 p2 u = some r) : MC w 2 qX8_saidOf [.ref p0, .int p1, .int p2] u (some (.int r)) u := by
  unfold fX8_saidOf at hf
  refine MC_intro pnX8 (Nat.le_of_ble_eq_true rfl) (fun X hX hR _ _ => ?_)
  have hX : OKc w X RX8 cX8_saidOf 2 := hX
  have hR : RT w X (some .int) 0 0 Pst 133 false (some (.int r)) u := hR
  refine G_eql (lv' := [some (.ref p0), some (.int p1), some (.int p2)]) rfl ?_
  refine G_aload_n hX dX8_saidOf_0 rfl ?_
  refine G_iconst (v := 3) hX dX8_saidOf_1 rfl ?_
  refine G_iload_n hX dX8_saidOf_2 rfl ?_
  refine G_iadd hX dX8_saidOf_3 ?_
  refine G_iald (n := (ln p0)) hX hp0 rfl (kd_lt hp0 (Nat.le_of_ble_eq_true rfl)) dX8_saidOf_4 hf (fun hf => ?_)
  refine G_aload_n hX dX8_saidOf_5 rfl ?_
  refine G_bipush (v := 9) hX dX8_saidOf_6 rfl ?_
  refine G_iload_n hX dX8_saidOf_8 rfl ?_
  refine G_iadd hX dX8_saidOf_9 ?_
  refine G_iald (n := (ln p0)) hX hp0 rfl (kd_lt hp0 (Nat.le_of_ble_eq_true rfl)) dX8_saidOf_10 hf (fun hf => ?_)
  refine G_aload_n hX dX8_saidOf_11 rfl ?_
  refine G_bipush (v := 39) hX dX8_saidOf_12 rfl ?_
  refine G_iload_n hX dX8_saidOf_14 rfl ?_
  refine G_iadd hX dX8_saidOf_15 ?_
  refine G_iald (n := (ln p0)) hX hp0 rfl (kd_lt hp0 (Nat.le_of_ble_eq_true rfl)) dX8_saidOf_16 hf (fun hf => ?_)
  refine G_aload_n hX dX8_saidOf_17 rfl ?_
  refine G_bipush (v := 27) hX dX8_saidOf_18 rfl ?_
  refine G_iload_n hX dX8_saidOf_20 rfl ?_
  refine G_iadd hX dX8_saidOf_21 ?_
  refine G_iald (n := (ln p0)) hX hp0 rfl (kd_lt hp0 (Nat.le_of_ble_eq_true rfl)) dX8_saidOf_22 hf (fun hf => ?_)
  refine G_aload_n hX dX8_saidOf_23 rfl ?_
  refine G_bipush (v := 21) hX dX8_saidOf_24 rfl ?_
  refine G_aload_n hX dX8_saidOf_26 rfl ?_
  refine G_bipush (v := 59) hX dX8_saidOf_27 rfl ?_
  refine G_iload_n hX dX8_saidOf_29 rfl ?_
  refine G_iadd hX dX8_saidOf_30 ?_
  refine G_iald (n := (ln p0)) hX hp0 rfl (kd_lt hp0 (Nat.le_of_ble_eq_true rfl)) dX8_saidOf_31 hf (fun hf => ?_)
  refine G_iadd hX dX8_saidOf_32 ?_
  refine G_iald (n := (ln p0)) hX hp0 rfl (kd_lt hp0 (Nat.le_of_ble_eq_true rfl)) dX8_saidOf_33 hf (fun hf => ?_)
  obtain ⟨v2, h1, hf⟩ := bd1_some hf
  refine G_cS (as := [.int (u.1 p0 ((27 + p2)).toNatClampNeg), .int (u.1 p0 ((21 + (u.1 p0 ((59 + p1)).toNatClampNeg))).toNatClampNeg)]) (rest := [.int (u.1 p0 ((39 + p2)).toNatClampNeg), .int (u.1 p0 ((9 + p2)).toNatClampNeg), .int (u.1 p0 ((3 + p2)).toNatClampNeg)]) hX csX8_119 (mX8_milesOf w h1) (Nat.le_of_ble_eq_true rfl) rfl rfl (Nat.le_of_ble_eq_true rfl) dX8_saidOf_34 (st' := [.int v2, .int (u.1 p0 ((39 + p2)).toNatClampNeg), .int (u.1 p0 ((9 + p2)).toNatClampNeg), .int (u.1 p0 ((3 + p2)).toNatClampNeg)]) rfl ?_
  obtain ⟨v4, h3, hf⟩ := bd1_some hf
  refine G_cS (as := [.int (u.1 p0 ((3 + p2)).toNatClampNeg), .int (u.1 p0 ((9 + p2)).toNatClampNeg), .int (u.1 p0 ((39 + p2)).toNatClampNeg), .int v2]) (rest := []) hX csX8_123 (mX8_saidBy w h3) (Nat.le_of_ble_eq_true rfl) rfl rfl (Nat.le_of_ble_eq_true rfl) dX8_saidOf_37 (st' := [.int v4]) rfl ?_
  obtain rfl := Option.some.inj hf
  exact G_iret hX hR dX8_saidOf_40
noncomputable def fX8_comesOf (p0 : Nat) (p1 : Int32) (p2 : Int32) (u : Um) : Option Int32 :=
  bd1 (fX8_saidOf p0 p1 p2 u) fun v2 =>
  bd1 (fX8_needOf p0 p1 u) fun v4 =>
  if v4 ≤ v2 then
    if v2 < (v4 + 4) then
      some 1
    else
      if inb (59 + p1) (ln p0) = true then
      if inb (45 + (u.1 p0 ((59 + p1)).toNatClampNeg)) (ln p0) = true then
      if (u.1 p0 ((45 + (u.1 p0 ((59 + p1)).toNatClampNeg))).toNatClampNeg) = (-4) then
        some 2
      else
        some 1
      else none
      else none
  else
    some 0
set_option maxHeartbeats 4000000 in
set_option maxRecDepth 100000 in
theorem mX8_comesOf (w : Wc) {p0 : Nat} {p1 : Int32} {p2 : Int32} (hp0 : kd p0 = 9) {u : Um} {r : Int32} (hf : fX8_comesOf p0 p1 p2 u = some r) : MC w 3 qX8_comesOf [.ref p0, .int p1, .int p2] u (some (.int r)) u := by
  unfold fX8_comesOf at hf
  refine MC_intro pnX8 (Nat.le_of_ble_eq_true rfl) (fun X hX hR _ _ => ?_)
  have hX : OKc w X RX8 cX8_comesOf 3 := hX
  have hR : RT w X (some .int) 0 0 Pst 133 false (some (.int r)) u := hR
  refine G_eql (lv' := [some (.ref p0), some (.int p1), some (.int p2), none, none]) rfl ?_
  refine G_aload_n hX dX8_comesOf_0 rfl ?_
  refine G_iload_n hX dX8_comesOf_1 rfl ?_
  refine G_iload_n hX dX8_comesOf_2 rfl ?_
  obtain ⟨v2, h1, hf⟩ := bd1_some hf
  refine G_cS (as := [.ref p0, .int p1, .int p2]) (rest := []) hX csX8_127 (mX8_saidOf w hp0 h1) (Nat.le_of_ble_eq_true rfl) rfl rfl (Nat.le_of_ble_eq_true rfl) dX8_comesOf_3 (st' := [.int v2]) rfl ?_
  refine G_istore_n (lv' := [some (.ref p0), some (.int p1), some (.int p2), some (.int v2), none]) hX dX8_comesOf_6 rfl (Nat.le_of_ble_eq_true rfl) rfl ?_
  refine G_aload_n hX dX8_comesOf_7 rfl ?_
  refine G_iload_n hX dX8_comesOf_8 rfl ?_
  obtain ⟨v4, h3, hf⟩ := bd1_some hf
  refine G_cS (as := [.ref p0, .int p1]) (rest := []) hX csX8_111 (mX8_needOf w hp0 h3) (Nat.le_of_ble_eq_true rfl) rfl rfl (Nat.le_of_ble_eq_true rfl) dX8_comesOf_9 (st' := [.int v4]) rfl ?_
  refine G_istore (lv' := [some (.ref p0), some (.int p1), some (.int p2), some (.int v2), some (.int v4)]) hX dX8_comesOf_12 rfl (Nat.le_of_ble_eq_true rfl) rfl ?_
  refine G_iload_n hX dX8_comesOf_14 rfl ?_
  refine G_iload hX dX8_comesOf_15 rfl ?_
  refine G_icmp_ge (tgt := 24) hX dX8_comesOf_17 rfl hf (fun hf => ?_) (fun hf => ?_)
  · refine G_iload_n hX dX8_comesOf_24 rfl ?_
    refine G_iload hX dX8_comesOf_25 rfl ?_
    refine G_iconst (v := 4) hX dX8_comesOf_27 rfl ?_
    refine G_iadd hX dX8_comesOf_28 ?_
    refine G_icmp_lt (tgt := 52) hX dX8_comesOf_29 rfl hf (fun hf => ?_) (fun hf => ?_)
    · refine G_iconst (v := 1) hX dX8_comesOf_52 rfl ?_
      obtain rfl := Option.some.inj hf
      exact G_iret hX hR dX8_comesOf_53
    · refine G_aload_n hX dX8_comesOf_32 rfl ?_
      refine G_bipush (v := 45) hX dX8_comesOf_33 rfl ?_
      refine G_aload_n hX dX8_comesOf_35 rfl ?_
      refine G_bipush (v := 59) hX dX8_comesOf_36 rfl ?_
      refine G_iload_n hX dX8_comesOf_38 rfl ?_
      refine G_iadd hX dX8_comesOf_39 ?_
      refine G_iald (n := (ln p0)) hX hp0 rfl (kd_lt hp0 (Nat.le_of_ble_eq_true rfl)) dX8_comesOf_40 hf (fun hf => ?_)
      refine G_iadd hX dX8_comesOf_41 ?_
      refine G_iald (n := (ln p0)) hX hp0 rfl (kd_lt hp0 (Nat.le_of_ble_eq_true rfl)) dX8_comesOf_42 hf (fun hf => ?_)
      refine G_bipush (v := (-4)) hX dX8_comesOf_43 rfl ?_
      refine G_icmp_ne (tgt := 52) hX dX8_comesOf_45 rfl hf (fun hf => ?_) (fun hf => ?_)
      · refine G_iconst (v := 1) hX dX8_comesOf_52 rfl ?_
        obtain rfl := Option.some.inj hf
        exact G_iret hX hR dX8_comesOf_53
      · refine G_iconst (v := 2) hX dX8_comesOf_48 rfl ?_
        refine G_goto (tgt := 53) hX dX8_comesOf_49 rfl ?_
        obtain rfl := Option.some.inj hf
        exact G_iret hX hR dX8_comesOf_53
  · refine G_iconst (v := 0) hX dX8_comesOf_20 rfl ?_
    refine G_goto (tgt := 53) hX dX8_comesOf_21 rfl ?_
    obtain rfl := Option.some.inj hf
    exact G_iret hX hR dX8_comesOf_53
noncomputable def fX8_stings (p0 : Int32) (u : Um) : Option Int32 :=
  if p0 = 1 then
    some 1
  else
    if p0 = 2 then
      some 1
    else
      if p0 = 3 then
        some 2
      else
        some 0
set_option maxHeartbeats 4000000 in
set_option maxRecDepth 100000 in
theorem mX8_stings (w : Wc) {p0 : Int32}  {u : Um} {r : Int32} (hf : fX8_stings p0 u = some r) : MC w 1 qX8_stings [.int p0] u (some (.int r)) u := by
  unfold fX8_stings at hf
  refine MC_intro pnX8 (Nat.le_of_ble_eq_true rfl) (fun X hX hR _ _ => ?_)
  have hX : OKc w X RX8 cX8_stings 1 := hX
  have hR : RT w X (some .int) 0 0 Pst 133 false (some (.int r)) u := hR
  refine G_eql (lv' := [some (.int p0)]) rfl ?_
  refine G_iload_n hX dX8_stings_0 rfl ?_
  refine G_iconst (v := 1) hX dX8_stings_1 rfl ?_
  refine G_icmp_eq (tgt := 10) hX dX8_stings_2 rfl hf (fun hf => ?_) (fun hf => ?_)
  · refine G_iconst (v := 1) hX dX8_stings_10 rfl ?_
    refine G_goto (tgt := 24) hX dX8_stings_11 rfl ?_
    obtain rfl := Option.some.inj hf
    exact G_iret hX hR dX8_stings_24
  · refine G_iload_n hX dX8_stings_5 rfl ?_
    refine G_iconst (v := 2) hX dX8_stings_6 rfl ?_
    refine G_icmp_ne (tgt := 14) hX dX8_stings_7 rfl hf (fun hf => ?_) (fun hf => ?_)
    · refine G_iload_n hX dX8_stings_14 rfl ?_
      refine G_iconst (v := 3) hX dX8_stings_15 rfl ?_
      refine G_icmp_ne (tgt := 23) hX dX8_stings_16 rfl hf (fun hf => ?_) (fun hf => ?_)
      · refine G_iconst (v := 0) hX dX8_stings_23 rfl ?_
        obtain rfl := Option.some.inj hf
        exact G_iret hX hR dX8_stings_24
      · refine G_iconst (v := 2) hX dX8_stings_19 rfl ?_
        refine G_goto (tgt := 24) hX dX8_stings_20 rfl ?_
        obtain rfl := Option.some.inj hf
        exact G_iret hX hR dX8_stings_24
    · refine G_iconst (v := 1) hX dX8_stings_10 rfl ?_
      refine G_goto (tgt := 24) hX dX8_stings_11 rfl ?_
      obtain rfl := Option.some.inj hf
      exact G_iret hX hR dX8_stings_24
noncomputable def fX8_carries_j87 (p0 : Nat) (p1 : Int32) (p2 : Int32) (j3 : Int32) (j4 : Int32) (u : Um) : Option (Int32 × Um) :=
  if inb (21 + j4) (ln p0) = true then
  if inb (27 + p2) (ln p0) = true then
  nm (sI u p0 (27 + p2).toNatClampNeg (u.1 p0 ((21 + j4)).toNatClampNeg)) fun u5 =>
  if inb (39 + p2) (ln p0) = true then
  if inb (39 + p2) (ln p0) = true then
  nm (sI u5 p0 (39 + p2).toNatClampNeg ((u5.1 p0 ((39 + p2)).toNatClampNeg) + 1)) fun u6 =>
  if inb 0 (ln p0) = true then
  if inb 0 (ln p0) = true then
  nm (sI u6 p0 (0 : Int32).toNatClampNeg ((u6.1 p0 (0 : Int32).toNatClampNeg) + 1)) fun u7 =>
  some (j3, u7)
  else none
  else none
  else none
  else none
  else none
  else none
set_option maxHeartbeats 4000000 in
set_option maxRecDepth 100000 in
theorem tX8_carries_j87 {w : Wc} {X : MX} (hX : OKc w X RX8 cX8_carries 4) {p0 : Nat} {p1 : Int32} {p2 : Int32} {j3 : Int32} {j4 : Int32} (hp0 : kd p0 = 9) {u : Um} {r : Int32} {u' : Um} (hR : RT w X (some .int) 0 0 Pst 133 false (some (.int r)) u') (hf : fX8_carries_j87 p0 p1 p2 j3 j4 u = some (r, u')) : G w X Zm 87 [some (.ref p0), none, some (.int p2), some (.int j3), some (.int j4), none] [] u := by
  unfold fX8_carries_j87 at hf
  refine G_aload_n hX dX8_carries_87 rfl ?_
  refine G_bipush (v := 27) hX dX8_carries_88 rfl ?_
  refine G_iload_n hX dX8_carries_90 rfl ?_
  refine G_iadd hX dX8_carries_91 ?_
  refine G_aload_n hX dX8_carries_92 rfl ?_
  refine G_bipush (v := 21) hX dX8_carries_93 rfl ?_
  refine G_iload hX dX8_carries_95 rfl ?_
  refine G_iadd hX dX8_carries_97 ?_
  refine G_iald (n := (ln p0)) hX hp0 rfl (kd_lt hp0 (Nat.le_of_ble_eq_true rfl)) dX8_carries_98 hf (fun hf => ?_)
  refine G_iast (n := (ln p0)) hX hp0 rfl (kd_lt hp0 (Nat.le_of_ble_eq_true rfl)) rfl dX8_carries_99 hf (fun u5 hf => ?_)
  refine G_aload_n hX dX8_carries_100 rfl ?_
  refine G_bipush (v := 39) hX dX8_carries_101 rfl ?_
  refine G_iload_n hX dX8_carries_103 rfl ?_
  refine G_iadd hX dX8_carries_104 ?_
  refine G_dup2 hX dX8_carries_105 rfl rfl ?_
  refine G_iald (n := (ln p0)) hX hp0 rfl (kd_lt hp0 (Nat.le_of_ble_eq_true rfl)) dX8_carries_106 hf (fun hf => ?_)
  refine G_iconst (v := 1) hX dX8_carries_107 rfl ?_
  refine G_iadd hX dX8_carries_108 ?_
  refine G_iast (n := (ln p0)) hX hp0 rfl (kd_lt hp0 (Nat.le_of_ble_eq_true rfl)) rfl dX8_carries_109 hf (fun u6 hf => ?_)
  refine G_aload_n hX dX8_carries_110 rfl ?_
  refine G_iconst (v := 0) hX dX8_carries_111 rfl ?_
  refine G_dup2 hX dX8_carries_112 rfl rfl ?_
  refine G_iald (n := (ln p0)) hX hp0 rfl (kd_lt hp0 (Nat.le_of_ble_eq_true rfl)) dX8_carries_113 hf (fun hf => ?_)
  refine G_iconst (v := 1) hX dX8_carries_114 rfl ?_
  refine G_iadd hX dX8_carries_115 ?_
  refine G_iast (n := (ln p0)) hX hp0 rfl (kd_lt hp0 (Nat.le_of_ble_eq_true rfl)) rfl dX8_carries_116 hf (fun u7 hf => ?_)
  refine G_iload_n hX dX8_carries_117 rfl ?_
  obtain ⟨rfl, rfl⟩ := ret2 hf
  exact G_iret hX hR dX8_carries_118
noncomputable def fX8_carries_j66 (p0 : Nat) (p1 : Int32) (p2 : Int32) (j3 : Int32) (j4 : Int32) (u : Um) : Option (Int32 × Um) :=
  if j3 = 2 then
    if inb (45 + j4) (ln p0) = true then
    nm (sI u p0 (45 + j4).toNatClampNeg p2) fun u8 =>
    if inb (33 + p2) (ln p0) = true then
    nm (sI u8 p0 (33 + p2).toNatClampNeg (-4)) fun u9 =>
    fX8_carries_j87 p0 p1 p2 j3 j4 u9
    else none
    else none
  else
    fX8_carries_j87 p0 p1 p2 j3 j4 u
set_option maxHeartbeats 4000000 in
set_option maxRecDepth 100000 in
theorem tX8_carries_j66 {w : Wc} {X : MX} (hX : OKc w X RX8 cX8_carries 4) {p0 : Nat} {p1 : Int32} {p2 : Int32} {j3 : Int32} {j4 : Int32} (hp0 : kd p0 = 9) {u : Um} {r : Int32} {u' : Um} (hR : RT w X (some .int) 0 0 Pst 133 false (some (.int r)) u') (hf : fX8_carries_j66 p0 p1 p2 j3 j4 u = some (r, u')) : G w X Zm 66 [some (.ref p0), none, some (.int p2), some (.int j3), some (.int j4), none] [] u := by
  unfold fX8_carries_j66 at hf
  refine G_iload_n hX dX8_carries_66 rfl ?_
  refine G_iconst (v := 2) hX dX8_carries_67 rfl ?_
  refine G_icmp_ne (tgt := 87) hX dX8_carries_68 rfl hf (fun hf => ?_) (fun hf => ?_)
  · refine G_mask (lv' := [some (.ref p0), none, some (.int p2), some (.int j3), some (.int j4), none]) [true, false, true, true, true, false] rfl rfl ?_
    exact tX8_carries_j87 hX hp0 hR hf
  · refine G_aload_n hX dX8_carries_71 rfl ?_
    refine G_bipush (v := 45) hX dX8_carries_72 rfl ?_
    refine G_iload hX dX8_carries_74 rfl ?_
    refine G_iadd hX dX8_carries_76 ?_
    refine G_iload_n hX dX8_carries_77 rfl ?_
    refine G_iast (n := (ln p0)) hX hp0 rfl (kd_lt hp0 (Nat.le_of_ble_eq_true rfl)) rfl dX8_carries_78 hf (fun u8 hf => ?_)
    refine G_aload_n hX dX8_carries_79 rfl ?_
    refine G_bipush (v := 33) hX dX8_carries_80 rfl ?_
    refine G_iload_n hX dX8_carries_82 rfl ?_
    refine G_iadd hX dX8_carries_83 ?_
    refine G_bipush (v := (-4)) hX dX8_carries_84 rfl ?_
    refine G_iast (n := (ln p0)) hX hp0 rfl (kd_lt hp0 (Nat.le_of_ble_eq_true rfl)) rfl dX8_carries_86 hf (fun u9 hf => ?_)
    refine G_mask (lv' := [some (.ref p0), none, some (.int p2), some (.int j3), some (.int j4), none]) [true, false, true, true, true, false] rfl rfl ?_
    exact tX8_carries_j87 hX hp0 hR hf
noncomputable def fX8_carries_j55 (p0 : Nat) (p1 : Int32) (p2 : Int32) (j3 : Int32) (j4 : Int32) (z0 : Int32) (z1 : Int32) (u : Um) : Option (Int32 × Um) :=
  if inb z1 (ln p0) = true then
  nm (sI u p0 z1.toNatClampNeg z0) fun u13 =>
  fX8_carries_j66 p0 p1 p2 j3 j4 u13
  else none
set_option maxHeartbeats 4000000 in
set_option maxRecDepth 100000 in
theorem tX8_carries_j55 {w : Wc} {X : MX} (hX : OKc w X RX8 cX8_carries 4) {p0 : Nat} {p1 : Int32} {p2 : Int32} {j3 : Int32} {j4 : Int32} {z0 : Int32} {z1 : Int32} (hp0 : kd p0 = 9) {u : Um} {r : Int32} {u' : Um} (hR : RT w X (some .int) 0 0 Pst 133 false (some (.int r)) u') (hf : fX8_carries_j55 p0 p1 p2 j3 j4 z0 z1 u = some (r, u')) : G w X Zm 55 [some (.ref p0), none, some (.int p2), some (.int j3), some (.int j4), none] [.int z0, .int z1, .ref p0] u := by
  unfold fX8_carries_j55 at hf
  refine G_iast (n := (ln p0)) hX hp0 rfl (kd_lt hp0 (Nat.le_of_ble_eq_true rfl)) rfl dX8_carries_55 hf (fun u13 hf => ?_)
  refine G_goto (tgt := 66) hX dX8_carries_56 rfl ?_
  refine G_mask (lv' := [some (.ref p0), none, some (.int p2), some (.int j3), some (.int j4), none]) [true, false, true, true, true, false] rfl rfl ?_
  exact tX8_carries_j66 hX hp0 hR hf
noncomputable def fX8_carries (p0 : Nat) (p1 : Int32) (p2 : Int32) (u : Um) : Option (Int32 × Um) :=
  bd1 (fX8_comesOf p0 p1 p2 u) fun v2 =>
  if inb (59 + p1) (ln p0) = true then
  nm (u.1 p0 ((59 + p1)).toNatClampNeg) fun v3 =>
  if v2 = 0 then
    if inb (67 + p1) (ln p0) = true then
    if inb (3 + p2) (ln p0) = true then
    bd1 (fX8_stings (u.1 p0 ((3 + p2)).toNatClampNeg) u) fun v11 =>
    nm ((u.1 p0 ((67 + p1)).toNatClampNeg) + v11) fun v12 =>
    if v12 ≤ 9 then
      fX8_carries_j55 p0 p1 p2 v2 v3 v12 (67 + p1) u
    else
      fX8_carries_j55 p0 p1 p2 v2 v3 9 (67 + p1) u
    else none
    else none
  else
    if inb (75 + p1) (ln p0) = true then
    nm (sI u p0 (75 + p1).toNatClampNeg p2) fun u4 =>
    fX8_carries_j66 p0 p1 p2 v2 v3 u4
    else none
  else none
set_option maxHeartbeats 4000000 in
set_option maxRecDepth 100000 in
theorem mX8_carries (w : Wc) {p0 : Nat} {p1 : Int32} {p2 : Int32} (hp0 : kd p0 = 9) {u : Um} {r : Int32} {u' : Um} (hf : fX8_carries p0 p1 p2 u = some (r, u')) : MC w 4 qX8_carries [.ref p0, .int p1, .int p2] u (some (.int r)) u' := by
  unfold fX8_carries at hf
  refine MC_intro pnX8 (Nat.le_of_ble_eq_true rfl) (fun X hX hR _ _ => ?_)
  have hX : OKc w X RX8 cX8_carries 4 := hX
  have hR : RT w X (some .int) 0 0 Pst 133 false (some (.int r)) u' := hR
  refine G_eql (lv' := [some (.ref p0), some (.int p1), some (.int p2), none, none, none]) rfl ?_
  refine G_aload_n hX dX8_carries_0 rfl ?_
  refine G_iload_n hX dX8_carries_1 rfl ?_
  refine G_iload_n hX dX8_carries_2 rfl ?_
  obtain ⟨v2, h1, hf⟩ := bd1_some hf
  refine G_cS (as := [.ref p0, .int p1, .int p2]) (rest := []) hX csX8_131 (mX8_comesOf w hp0 h1) (Nat.le_of_ble_eq_true rfl) rfl rfl (Nat.le_of_ble_eq_true rfl) dX8_carries_3 (st' := [.int v2]) rfl ?_
  refine G_istore_n (lv' := [some (.ref p0), some (.int p1), some (.int p2), some (.int v2), none, none]) hX dX8_carries_6 rfl (Nat.le_of_ble_eq_true rfl) rfl ?_
  refine G_aload_n hX dX8_carries_7 rfl ?_
  refine G_bipush (v := 59) hX dX8_carries_8 rfl ?_
  refine G_iload_n hX dX8_carries_10 rfl ?_
  refine G_iadd hX dX8_carries_11 ?_
  refine G_iald (n := (ln p0)) hX hp0 rfl (kd_lt hp0 (Nat.le_of_ble_eq_true rfl)) dX8_carries_12 hf (fun hf => ?_)
  refine G_istoreF (lvf := fun v3 => [some (.ref p0), some (.int p1), some (.int p2), some (.int v2), some (.int v3), none]) hX dX8_carries_13 rfl (Nat.le_of_ble_eq_true rfl) (fun _ => rfl) hf (fun v3 hf => ?_)
  refine G_iload_n hX dX8_carries_15 rfl ?_
  refine G_if_ne (tgt := 59) hX dX8_carries_16 rfl hf (fun hf => ?_) (fun hf => ?_)
  · refine G_aload_n hX dX8_carries_59 rfl ?_
    refine G_bipush (v := 75) hX dX8_carries_60 rfl ?_
    refine G_iload_n hX dX8_carries_62 rfl ?_
    refine G_iadd hX dX8_carries_63 ?_
    refine G_iload_n hX dX8_carries_64 rfl ?_
    refine G_iast (n := (ln p0)) hX hp0 rfl (kd_lt hp0 (Nat.le_of_ble_eq_true rfl)) rfl dX8_carries_65 hf (fun u4 hf => ?_)
    refine G_mask (lv' := [some (.ref p0), none, some (.int p2), some (.int v2), some (.int v3), none]) [true, false, true, true, true, false] rfl rfl ?_
    exact tX8_carries_j66 hX hp0 hR hf
  · refine G_aload_n hX dX8_carries_19 rfl ?_
    refine G_bipush (v := 67) hX dX8_carries_20 rfl ?_
    refine G_iload_n hX dX8_carries_22 rfl ?_
    refine G_iadd hX dX8_carries_23 ?_
    refine G_iald (n := (ln p0)) hX hp0 rfl (kd_lt hp0 (Nat.le_of_ble_eq_true rfl)) dX8_carries_24 hf (fun hf => ?_)
    refine G_aload_n hX dX8_carries_25 rfl ?_
    refine G_iconst (v := 3) hX dX8_carries_26 rfl ?_
    refine G_iload_n hX dX8_carries_27 rfl ?_
    refine G_iadd hX dX8_carries_28 ?_
    refine G_iald (n := (ln p0)) hX hp0 rfl (kd_lt hp0 (Nat.le_of_ble_eq_true rfl)) dX8_carries_29 hf (fun hf => ?_)
    obtain ⟨v11, h10, hf⟩ := bd1_some hf
    refine G_cS (as := [.int (u.1 p0 ((3 + p2)).toNatClampNeg)]) (rest := [.int (u.1 p0 ((67 + p1)).toNatClampNeg)]) hX csX8_134 (mX8_stings w h10) (Nat.le_of_ble_eq_true rfl) rfl rfl (Nat.le_of_ble_eq_true rfl) dX8_carries_30 (st' := [.int v11, .int (u.1 p0 ((67 + p1)).toNatClampNeg)]) rfl ?_
    refine G_iadd hX dX8_carries_33 ?_
    refine G_istoreF (lvf := fun v12 => [some (.ref p0), some (.int p1), some (.int p2), some (.int v2), some (.int v3), some (.int v12)]) hX dX8_carries_34 rfl (Nat.le_of_ble_eq_true rfl) (fun _ => rfl) hf (fun v12 hf => ?_)
    refine G_aload_n hX dX8_carries_36 rfl ?_
    refine G_bipush (v := 67) hX dX8_carries_37 rfl ?_
    refine G_iload_n hX dX8_carries_39 rfl ?_
    refine G_iadd hX dX8_carries_40 ?_
    refine G_iload hX dX8_carries_41 rfl ?_
    refine G_bipush (v := 9) hX dX8_carries_43 rfl ?_
    refine G_icmp_le (tgt := 53) hX dX8_carries_45 rfl hf (fun hf => ?_) (fun hf => ?_)
    · refine G_iload hX dX8_carries_53 rfl ?_
      refine G_mask (lv' := [some (.ref p0), none, some (.int p2), some (.int v2), some (.int v3), none]) [true, false, true, true, true, false] rfl rfl ?_
      exact tX8_carries_j55 hX hp0 hR hf
    · refine G_bipush (v := 9) hX dX8_carries_48 rfl ?_
      refine G_goto (tgt := 55) hX dX8_carries_50 rfl ?_
      refine G_mask (lv' := [some (.ref p0), none, some (.int p2), some (.int v2), some (.int v3), none]) [true, false, true, true, true, false] rfl rfl ?_
      exact tX8_carries_j55 hX hp0 hR hf
noncomputable def fX8_carry (p0 : Int32) (p1 : Int32) (u : Um) : Option (Int32 × Um) :=
  bd1 (fX8_whyNot p0 p1 u) fun v2 =>
  if v2 = 0 then
    if inb 0 83 = true then
    if (u.1 122 (0 : Int32).toNatClampNeg) = 9999 then
      some ((-3), u)
    else
      bd1 (fX8_note  u) fun u4 =>
      bd2 (fX8_carries 122 p0 p1 u4) fun v6 u7 =>
      some (v6, u7)
    else none
  else
    some (v2, u)
set_option maxHeartbeats 4000000 in
set_option maxRecDepth 100000 in
theorem mX8_carry (w : Wc) {p0 : Int32} {p1 : Int32}  {u : Um} {r : Int32} {u' : Um} (hf : fX8_carry p0 p1 u = some (r, u')) : MC w 5 qX8_carry [.ref 117, .int p0, .int p1] u (some (.int r)) u' := by
  unfold fX8_carry at hf
  refine MC_intro pnX8 (Nat.le_of_ble_eq_true rfl) (fun X hX hR _ _ => ?_)
  have hX : OKc w X RX8 cX8_carry 5 := hX
  have hR : RT w X (some .int) 0 0 Pst 133 false (some (.int r)) u' := hR
  refine G_eql (lv' := [some (.ref 117), some (.int p0), some (.int p1), none]) rfl ?_
  refine G_aload_n hX dX8_carry_0 rfl ?_
  refine G_iload_n hX dX8_carry_1 rfl ?_
  refine G_iload_n hX dX8_carry_2 rfl ?_
  obtain ⟨v2, h1, hf⟩ := bd1_some hf
  refine G_cV (as := [.int p0, .int p1]) (rest := []) hX cvX8_141 (mX8_whyNot w h1) (Nat.le_of_ble_eq_true rfl) kK117 (Nat.le_of_ble_eq_true rfl) (Nat.le_of_ble_eq_true rfl) rfl rfl (Nat.le_of_ble_eq_true rfl) dX8_carry_3 (st' := [.int v2]) rfl ?_
  refine G_istore_n (lv' := [some (.ref 117), some (.int p0), some (.int p1), some (.int v2)]) hX dX8_carry_6 rfl (Nat.le_of_ble_eq_true rfl) rfl ?_
  refine G_iload_n hX dX8_carry_7 rfl ?_
  refine G_if_eq (tgt := 13) hX dX8_carry_8 rfl hf (fun hf => ?_) (fun hf => ?_)
  · refine G_aload_n hX dX8_carry_13 rfl ?_
    refine G_getR (i := 6) (t := 122) hX kK117 (Nat.le_of_ble_eq_true rfl) (Nat.le_of_ble_eq_true rfl) rfl pK117_6 flX8_23 dX8_carry_14 ?_
    refine G_iconst (v := 0) hX dX8_carry_17 rfl ?_
    refine G_iald (n := 83) hX kK122 lK122 (Nat.le_of_ble_eq_true rfl) dX8_carry_18 hf (fun hf => ?_)
    refine G_sipush (v := 9999) hX dX8_carry_19 rfl ?_
    refine G_icmp_ne (tgt := 28) hX dX8_carry_22 rfl hf (fun hf => ?_) (fun hf => ?_)
    · refine G_aload_n hX dX8_carry_28 rfl ?_
      obtain ⟨u4, h3, hf⟩ := bd1_some hf
      refine G_cV (as := []) (rest := []) hX cvX8_144 (mX8_note w h3) (Nat.le_of_ble_eq_true rfl) kK117 (Nat.le_of_ble_eq_true rfl) (Nat.le_of_ble_eq_true rfl) rfl rfl (Nat.le_of_ble_eq_true rfl) dX8_carry_29 (st' := []) rfl ?_
      refine G_aload_n hX dX8_carry_32 rfl ?_
      refine G_getR (i := 6) (t := 122) hX kK117 (Nat.le_of_ble_eq_true rfl) (Nat.le_of_ble_eq_true rfl) rfl pK117_6 flX8_23 dX8_carry_33 ?_
      refine G_iload_n hX dX8_carry_36 rfl ?_
      refine G_iload_n hX dX8_carry_37 rfl ?_
      obtain ⟨v6, u7, h5, hf⟩ := bd2_some hf
      refine G_cS (as := [.ref 122, .int p0, .int p1]) (rest := []) hX csX8_147 (mX8_carries w kK122 h5) (Nat.le_of_ble_eq_true rfl) rfl rfl (Nat.le_of_ble_eq_true rfl) dX8_carry_38 (st' := [.int v6]) rfl ?_
      obtain ⟨rfl, rfl⟩ := ret2 hf
      exact G_iret hX hR dX8_carry_41
    · refine G_bipush (v := (-3)) hX dX8_carry_25 rfl ?_
      obtain ⟨rfl, rfl⟩ := ret2 hf
      exact G_iret hX hR dX8_carry_27
  · refine G_iload_n hX dX8_carry_11 rfl ?_
    obtain ⟨rfl, rfl⟩ := ret2 hf
    exact G_iret hX hR dX8_carry_12
noncomputable def fX8_lend (p0 : Int32) (p1 : Int32) (u : Um) : Option (Int32 × Um) :=
  bd1 (fX8_isOne p0 u) fun v2 =>
  if v2 = 0 then
    some ((-1), u)
  else
    bd1 (fX8_isOne p1 u) fun v4 =>
    if v4 = 0 then
      some ((-1), u)
    else
      if p0 = p1 then
        some ((-1), u)
      else
        if inb (33 + p0) 83 = true then
        nm (u.1 122 ((33 + p0)).toNatClampNeg) fun v5 =>
        if v5 = p1 then
          some ((-2), u)
        else
          bd1 (fX8_note  u) fun u7 =>
          if inb (33 + p0) 83 = true then
          nm (sI u7 122 (33 + p0).toNatClampNeg p1) fun u8 =>
          some (v5, u8)
          else none
        else none
set_option maxHeartbeats 4000000 in
set_option maxRecDepth 100000 in
theorem mX8_lend (w : Wc) {p0 : Int32} {p1 : Int32}  {u : Um} {r : Int32} {u' : Um} (hf : fX8_lend p0 p1 u = some (r, u')) : MC w 3 qX8_lend [.ref 117, .int p0, .int p1] u (some (.int r)) u' := by
  unfold fX8_lend at hf
  refine MC_intro pnX8 (Nat.le_of_ble_eq_true rfl) (fun X hX hR _ _ => ?_)
  have hX : OKc w X RX8 cX8_lend 3 := hX
  have hR : RT w X (some .int) 0 0 Pst 133 false (some (.int r)) u' := hR
  refine G_eql (lv' := [some (.ref 117), some (.int p0), some (.int p1), none]) rfl ?_
  refine G_aload_n hX dX8_lend_0 rfl ?_
  refine G_iload_n hX dX8_lend_1 rfl ?_
  obtain ⟨v2, h1, hf⟩ := bd1_some hf
  refine G_cV (as := [.int p0]) (rest := []) hX cvX8_105 (mX8_isOne w h1) (Nat.le_of_ble_eq_true rfl) kK117 (Nat.le_of_ble_eq_true rfl) (Nat.le_of_ble_eq_true rfl) rfl rfl (Nat.le_of_ble_eq_true rfl) dX8_lend_2 (st' := [.int v2]) rfl ?_
  refine G_if_eq (tgt := 21) hX dX8_lend_5 rfl hf (fun hf => ?_) (fun hf => ?_)
  · refine G_iconst (v := (-1)) hX dX8_lend_21 rfl ?_
    obtain ⟨rfl, rfl⟩ := ret2 hf
    exact G_iret hX hR dX8_lend_22
  · refine G_aload_n hX dX8_lend_8 rfl ?_
    refine G_iload_n hX dX8_lend_9 rfl ?_
    obtain ⟨v4, h3, hf⟩ := bd1_some hf
    refine G_cV (as := [.int p1]) (rest := []) hX cvX8_105 (mX8_isOne w h3) (Nat.le_of_ble_eq_true rfl) kK117 (Nat.le_of_ble_eq_true rfl) (Nat.le_of_ble_eq_true rfl) rfl rfl (Nat.le_of_ble_eq_true rfl) dX8_lend_10 (st' := [.int v4]) rfl ?_
    refine G_if_eq (tgt := 21) hX dX8_lend_13 rfl hf (fun hf => ?_) (fun hf => ?_)
    · refine G_iconst (v := (-1)) hX dX8_lend_21 rfl ?_
      obtain ⟨rfl, rfl⟩ := ret2 hf
      exact G_iret hX hR dX8_lend_22
    · refine G_iload_n hX dX8_lend_16 rfl ?_
      refine G_iload_n hX dX8_lend_17 rfl ?_
      refine G_icmp_ne (tgt := 23) hX dX8_lend_18 rfl hf (fun hf => ?_) (fun hf => ?_)
      · refine G_aload_n hX dX8_lend_23 rfl ?_
        refine G_getR (i := 6) (t := 122) hX kK117 (Nat.le_of_ble_eq_true rfl) (Nat.le_of_ble_eq_true rfl) rfl pK117_6 flX8_23 dX8_lend_24 ?_
        refine G_bipush (v := 33) hX dX8_lend_27 rfl ?_
        refine G_iload_n hX dX8_lend_29 rfl ?_
        refine G_iadd hX dX8_lend_30 ?_
        refine G_iald (n := 83) hX kK122 lK122 (Nat.le_of_ble_eq_true rfl) dX8_lend_31 hf (fun hf => ?_)
        refine G_istore_nF (lvf := fun v5 => [some (.ref 117), some (.int p0), some (.int p1), some (.int v5)]) hX dX8_lend_32 rfl (Nat.le_of_ble_eq_true rfl) (fun _ => rfl) hf (fun v5 hf => ?_)
        refine G_iload_n hX dX8_lend_33 rfl ?_
        refine G_iload_n hX dX8_lend_34 rfl ?_
        refine G_icmp_ne (tgt := 41) hX dX8_lend_35 rfl hf (fun hf => ?_) (fun hf => ?_)
        · refine G_aload_n hX dX8_lend_41 rfl ?_
          obtain ⟨u7, h6, hf⟩ := bd1_some hf
          refine G_cV (as := []) (rest := []) hX cvX8_144 (mX8_note w h6) (Nat.le_of_ble_eq_true rfl) kK117 (Nat.le_of_ble_eq_true rfl) (Nat.le_of_ble_eq_true rfl) rfl rfl (Nat.le_of_ble_eq_true rfl) dX8_lend_42 (st' := []) rfl ?_
          refine G_aload_n hX dX8_lend_45 rfl ?_
          refine G_getR (i := 6) (t := 122) hX kK117 (Nat.le_of_ble_eq_true rfl) (Nat.le_of_ble_eq_true rfl) rfl pK117_6 flX8_23 dX8_lend_46 ?_
          refine G_bipush (v := 33) hX dX8_lend_49 rfl ?_
          refine G_iload_n hX dX8_lend_51 rfl ?_
          refine G_iadd hX dX8_lend_52 ?_
          refine G_iload_n hX dX8_lend_53 rfl ?_
          refine G_iast (n := 83) hX kK122 lK122 (Nat.le_of_ble_eq_true rfl) rfl dX8_lend_54 hf (fun u8 hf => ?_)
          refine G_iload_n hX dX8_lend_55 rfl ?_
          obtain ⟨rfl, rfl⟩ := ret2 hf
          exact G_iret hX hR dX8_lend_56
        · refine G_bipush (v := (-2)) hX dX8_lend_38 rfl ?_
          obtain ⟨rfl, rfl⟩ := ret2 hf
          exact G_iret hX hR dX8_lend_40
      · refine G_iconst (v := (-1)) hX dX8_lend_21 rfl ?_
        obtain ⟨rfl, rfl⟩ := ret2 hf
        exact G_iret hX hR dX8_lend_22
noncomputable def fX8_sin (p0 : Int32) (p1 : Int32) (p2 : Int32) (u : Um) : Option (Int32 × Um) :=
  bd1 (fX8_isOne p0 u) fun v2 =>
  if v2 = 0 then
    some ((-1), u)
  else
    bd1 (fX8_isOne p1 u) fun v4 =>
    if v4 = 0 then
      some ((-1), u)
    else
      if p0 = p1 then
        some ((-1), u)
      else
        bd1 (fX8_in p2 1 9 u) fun v6 =>
        if v6 = 0 then
          some ((-1), u)
        else
          if inb 2 83 = true then
          if (u.1 122 (2 : Int32).toNatClampNeg) = 8 then
            some ((-3), u)
          else
            bd1 (fX8_note  u) fun u8 =>
            bd2 (fX8_addWrong 122 p0 p1 p2 u8) fun v10 u11 =>
            some (v10, u11)
          else none
set_option maxHeartbeats 4000000 in
set_option maxRecDepth 100000 in
theorem mX8_sin (w : Wc) {p0 : Int32} {p1 : Int32} {p2 : Int32}  {u : Um} {r : Int32} {u' : Um} (hf : fX8_sin p0 p1 p2 u = some (r, u')) : MC w 3 qX8_sin [.ref 117, .int p0, .int p1, .int p2] u (some (.int r)) u' := by
  unfold fX8_sin at hf
  refine MC_intro pnX8 (Nat.le_of_ble_eq_true rfl) (fun X hX hR _ _ => ?_)
  have hX : OKc w X RX8 cX8_sin 3 := hX
  have hR : RT w X (some .int) 0 0 Pst 133 false (some (.int r)) u' := hR
  refine G_eql (lv' := [some (.ref 117), some (.int p0), some (.int p1), some (.int p2)]) rfl ?_
  refine G_aload_n hX dX8_sin_0 rfl ?_
  refine G_iload_n hX dX8_sin_1 rfl ?_
  obtain ⟨v2, h1, hf⟩ := bd1_some hf
  refine G_cV (as := [.int p0]) (rest := []) hX cvX8_105 (mX8_isOne w h1) (Nat.le_of_ble_eq_true rfl) kK117 (Nat.le_of_ble_eq_true rfl) (Nat.le_of_ble_eq_true rfl) rfl rfl (Nat.le_of_ble_eq_true rfl) dX8_sin_2 (st' := [.int v2]) rfl ?_
  refine G_if_eq (tgt := 31) hX dX8_sin_5 rfl hf (fun hf => ?_) (fun hf => ?_)
  · refine G_iconst (v := (-1)) hX dX8_sin_31 rfl ?_
    obtain ⟨rfl, rfl⟩ := ret2 hf
    exact G_iret hX hR dX8_sin_32
  · refine G_aload_n hX dX8_sin_8 rfl ?_
    refine G_iload_n hX dX8_sin_9 rfl ?_
    obtain ⟨v4, h3, hf⟩ := bd1_some hf
    refine G_cV (as := [.int p1]) (rest := []) hX cvX8_105 (mX8_isOne w h3) (Nat.le_of_ble_eq_true rfl) kK117 (Nat.le_of_ble_eq_true rfl) (Nat.le_of_ble_eq_true rfl) rfl rfl (Nat.le_of_ble_eq_true rfl) dX8_sin_10 (st' := [.int v4]) rfl ?_
    refine G_if_eq (tgt := 31) hX dX8_sin_13 rfl hf (fun hf => ?_) (fun hf => ?_)
    · refine G_iconst (v := (-1)) hX dX8_sin_31 rfl ?_
      obtain ⟨rfl, rfl⟩ := ret2 hf
      exact G_iret hX hR dX8_sin_32
    · refine G_iload_n hX dX8_sin_16 rfl ?_
      refine G_iload_n hX dX8_sin_17 rfl ?_
      refine G_icmp_eq (tgt := 31) hX dX8_sin_18 rfl hf (fun hf => ?_) (fun hf => ?_)
      · refine G_iconst (v := (-1)) hX dX8_sin_31 rfl ?_
        obtain ⟨rfl, rfl⟩ := ret2 hf
        exact G_iret hX hR dX8_sin_32
      · refine G_iload_n hX dX8_sin_21 rfl ?_
        refine G_iconst (v := 1) hX dX8_sin_22 rfl ?_
        refine G_bipush (v := 9) hX dX8_sin_23 rfl ?_
        obtain ⟨v6, h5, hf⟩ := bd1_some hf
        refine G_cS (as := [.int p2, .int 1, .int 9]) (rest := []) hX csX8_57 (mX8_in w h5) (Nat.le_of_ble_eq_true rfl) rfl rfl (Nat.le_of_ble_eq_true rfl) dX8_sin_25 (st' := [.int v6]) rfl ?_
        refine G_if_ne (tgt := 33) hX dX8_sin_28 rfl hf (fun hf => ?_) (fun hf => ?_)
        · refine G_aload_n hX dX8_sin_33 rfl ?_
          refine G_getR (i := 6) (t := 122) hX kK117 (Nat.le_of_ble_eq_true rfl) (Nat.le_of_ble_eq_true rfl) rfl pK117_6 flX8_23 dX8_sin_34 ?_
          refine G_iconst (v := 2) hX dX8_sin_37 rfl ?_
          refine G_iald (n := 83) hX kK122 lK122 (Nat.le_of_ble_eq_true rfl) dX8_sin_38 hf (fun hf => ?_)
          refine G_bipush (v := 8) hX dX8_sin_39 rfl ?_
          refine G_icmp_ne (tgt := 47) hX dX8_sin_41 rfl hf (fun hf => ?_) (fun hf => ?_)
          · refine G_aload_n hX dX8_sin_47 rfl ?_
            obtain ⟨u8, h7, hf⟩ := bd1_some hf
            refine G_cV (as := []) (rest := []) hX cvX8_144 (mX8_note w h7) (Nat.le_of_ble_eq_true rfl) kK117 (Nat.le_of_ble_eq_true rfl) (Nat.le_of_ble_eq_true rfl) rfl rfl (Nat.le_of_ble_eq_true rfl) dX8_sin_48 (st' := []) rfl ?_
            refine G_aload_n hX dX8_sin_51 rfl ?_
            refine G_getR (i := 6) (t := 122) hX kK117 (Nat.le_of_ble_eq_true rfl) (Nat.le_of_ble_eq_true rfl) rfl pK117_6 flX8_23 dX8_sin_52 ?_
            refine G_iload_n hX dX8_sin_55 rfl ?_
            refine G_iload_n hX dX8_sin_56 rfl ?_
            refine G_iload_n hX dX8_sin_57 rfl ?_
            obtain ⟨v10, u11, h9, hf⟩ := bd2_some hf
            refine G_cS (as := [.ref 122, .int p0, .int p1, .int p2]) (rest := []) hX csX8_84 (mX8_addWrong w kK122 h9) (Nat.le_of_ble_eq_true rfl) rfl rfl (Nat.le_of_ble_eq_true rfl) dX8_sin_58 (st' := [.int v10]) rfl ?_
            obtain ⟨rfl, rfl⟩ := ret2 hf
            exact G_iret hX hR dX8_sin_61
          · refine G_bipush (v := (-3)) hX dX8_sin_44 rfl ?_
            obtain ⟨rfl, rfl⟩ := ret2 hf
            exact G_iret hX hR dX8_sin_46
        · refine G_iconst (v := (-1)) hX dX8_sin_31 rfl ?_
          obtain ⟨rfl, rfl⟩ := ret2 hf
          exact G_iret hX hR dX8_sin_32
noncomputable def fX8_harden (p0 : Int32) (p1 : Int32) (u : Um) : Option (Int32 × Um) :=
  bd1 (fX8_isOne p0 u) fun v2 =>
  if v2 = 0 then
    some ((-1), u)
  else
    bd1 (fX8_in p1 0 9 u) fun v4 =>
    if v4 = 0 then
      some ((-1), u)
    else
      if inb (15 + p0) 83 = true then
      nm (u.1 122 ((15 + p0)).toNatClampNeg) fun v5 =>
      if v5 = p1 then
        some ((-2), u)
      else
        bd1 (fX8_note  u) fun u7 =>
        if inb (15 + p0) 83 = true then
        nm (sI u7 122 (15 + p0).toNatClampNeg p1) fun u8 =>
        some (v5, u8)
        else none
      else none
set_option maxHeartbeats 4000000 in
set_option maxRecDepth 100000 in
theorem mX8_harden (w : Wc) {p0 : Int32} {p1 : Int32}  {u : Um} {r : Int32} {u' : Um} (hf : fX8_harden p0 p1 u = some (r, u')) : MC w 3 qX8_harden [.ref 117, .int p0, .int p1] u (some (.int r)) u' := by
  unfold fX8_harden at hf
  refine MC_intro pnX8 (Nat.le_of_ble_eq_true rfl) (fun X hX hR _ _ => ?_)
  have hX : OKc w X RX8 cX8_harden 3 := hX
  have hR : RT w X (some .int) 0 0 Pst 133 false (some (.int r)) u' := hR
  refine G_eql (lv' := [some (.ref 117), some (.int p0), some (.int p1), none]) rfl ?_
  refine G_aload_n hX dX8_harden_0 rfl ?_
  refine G_iload_n hX dX8_harden_1 rfl ?_
  obtain ⟨v2, h1, hf⟩ := bd1_some hf
  refine G_cV (as := [.int p0]) (rest := []) hX cvX8_105 (mX8_isOne w h1) (Nat.le_of_ble_eq_true rfl) kK117 (Nat.le_of_ble_eq_true rfl) (Nat.le_of_ble_eq_true rfl) rfl rfl (Nat.le_of_ble_eq_true rfl) dX8_harden_2 (st' := [.int v2]) rfl ?_
  refine G_if_eq (tgt := 18) hX dX8_harden_5 rfl hf (fun hf => ?_) (fun hf => ?_)
  · refine G_iconst (v := (-1)) hX dX8_harden_18 rfl ?_
    obtain ⟨rfl, rfl⟩ := ret2 hf
    exact G_iret hX hR dX8_harden_19
  · refine G_iload_n hX dX8_harden_8 rfl ?_
    refine G_iconst (v := 0) hX dX8_harden_9 rfl ?_
    refine G_bipush (v := 9) hX dX8_harden_10 rfl ?_
    obtain ⟨v4, h3, hf⟩ := bd1_some hf
    refine G_cS (as := [.int p1, .int 0, .int 9]) (rest := []) hX csX8_57 (mX8_in w h3) (Nat.le_of_ble_eq_true rfl) rfl rfl (Nat.le_of_ble_eq_true rfl) dX8_harden_12 (st' := [.int v4]) rfl ?_
    refine G_if_ne (tgt := 20) hX dX8_harden_15 rfl hf (fun hf => ?_) (fun hf => ?_)
    · refine G_aload_n hX dX8_harden_20 rfl ?_
      refine G_getR (i := 6) (t := 122) hX kK117 (Nat.le_of_ble_eq_true rfl) (Nat.le_of_ble_eq_true rfl) rfl pK117_6 flX8_23 dX8_harden_21 ?_
      refine G_bipush (v := 15) hX dX8_harden_24 rfl ?_
      refine G_iload_n hX dX8_harden_26 rfl ?_
      refine G_iadd hX dX8_harden_27 ?_
      refine G_iald (n := 83) hX kK122 lK122 (Nat.le_of_ble_eq_true rfl) dX8_harden_28 hf (fun hf => ?_)
      refine G_istore_nF (lvf := fun v5 => [some (.ref 117), some (.int p0), some (.int p1), some (.int v5)]) hX dX8_harden_29 rfl (Nat.le_of_ble_eq_true rfl) (fun _ => rfl) hf (fun v5 hf => ?_)
      refine G_iload_n hX dX8_harden_30 rfl ?_
      refine G_iload_n hX dX8_harden_31 rfl ?_
      refine G_icmp_ne (tgt := 38) hX dX8_harden_32 rfl hf (fun hf => ?_) (fun hf => ?_)
      · refine G_aload_n hX dX8_harden_38 rfl ?_
        obtain ⟨u7, h6, hf⟩ := bd1_some hf
        refine G_cV (as := []) (rest := []) hX cvX8_144 (mX8_note w h6) (Nat.le_of_ble_eq_true rfl) kK117 (Nat.le_of_ble_eq_true rfl) (Nat.le_of_ble_eq_true rfl) rfl rfl (Nat.le_of_ble_eq_true rfl) dX8_harden_39 (st' := []) rfl ?_
        refine G_aload_n hX dX8_harden_42 rfl ?_
        refine G_getR (i := 6) (t := 122) hX kK117 (Nat.le_of_ble_eq_true rfl) (Nat.le_of_ble_eq_true rfl) rfl pK117_6 flX8_23 dX8_harden_43 ?_
        refine G_bipush (v := 15) hX dX8_harden_46 rfl ?_
        refine G_iload_n hX dX8_harden_48 rfl ?_
        refine G_iadd hX dX8_harden_49 ?_
        refine G_iload_n hX dX8_harden_50 rfl ?_
        refine G_iast (n := 83) hX kK122 lK122 (Nat.le_of_ble_eq_true rfl) rfl dX8_harden_51 hf (fun u8 hf => ?_)
        refine G_iload_n hX dX8_harden_52 rfl ?_
        obtain ⟨rfl, rfl⟩ := ret2 hf
        exact G_iret hX hR dX8_harden_53
      · refine G_bipush (v := (-2)) hX dX8_harden_35 rfl ?_
        obtain ⟨rfl, rfl⟩ := ret2 hf
        exact G_iret hX hR dX8_harden_37
    · refine G_iconst (v := (-1)) hX dX8_harden_18 rfl ?_
      obtain ⟨rfl, rfl⟩ := ret2 hf
      exact G_iret hX hR dX8_harden_19
noncomputable def fX8_isThere  (u : Um) : Option Int32 :=
  if inb 1 83 = true then
  if (u.1 122 (1 : Int32).toNatClampNeg) ≤ 0 then
    some 0
  else
    some 1
  else none
set_option maxHeartbeats 4000000 in
set_option maxRecDepth 100000 in
theorem mX8_isThere (w : Wc)   {u : Um} {r : Int32} (hf : fX8_isThere  u = some r) : MC w 1 qX8_isThere [.ref 117] u (some (.int r)) u := by
  unfold fX8_isThere at hf
  refine MC_intro pnX8 (Nat.le_of_ble_eq_true rfl) (fun X hX hR _ _ => ?_)
  have hX : OKc w X RX8 cX8_isThere 1 := hX
  have hR : RT w X (some .boolean) 0 0 Pst 133 false (some (.int r)) u := hR
  refine G_eql (lv' := [some (.ref 117)]) rfl ?_
  refine G_aload_n hX dX8_isThere_0 rfl ?_
  refine G_getR (i := 6) (t := 122) hX kK117 (Nat.le_of_ble_eq_true rfl) (Nat.le_of_ble_eq_true rfl) rfl pK117_6 flX8_23 dX8_isThere_1 ?_
  refine G_iconst (v := 1) hX dX8_isThere_4 rfl ?_
  refine G_iald (n := 83) hX kK122 lK122 (Nat.le_of_ble_eq_true rfl) dX8_isThere_5 hf (fun hf => ?_)
  refine G_if_le (tgt := 13) hX dX8_isThere_6 rfl hf (fun hf => ?_) (fun hf => ?_)
  · refine G_iconst (v := 0) hX dX8_isThere_13 rfl ?_
    obtain rfl := Option.some.inj hf
    exact G_zret hX hR (by decide) dX8_isThere_14
  · refine G_iconst (v := 1) hX dX8_isThere_9 rfl ?_
    refine G_goto (tgt := 14) hX dX8_isThere_10 rfl ?_
    obtain rfl := Option.some.inj hf
    exact G_zret hX hR (by decide) dX8_isThere_14
noncomputable def fX8_pass  (u : Um) : Option (Int32 × Um) :=
  bd1 (fX8_isThere  u) fun v2 =>
  if v2 = 0 then
    some ((-2), u)
  else
    if inb 0 83 = true then
    if (u.1 122 (0 : Int32).toNatClampNeg) = 9999 then
      some ((-3), u)
    else
      bd1 (fX8_note  u) fun u4 =>
      if inb 0 83 = true then
      if inb 0 83 = true then
      nm (sI u4 122 (0 : Int32).toNatClampNeg ((u4.1 122 (0 : Int32).toNatClampNeg) + 1)) fun u5 =>
      if inb 0 83 = true then
      some ((u5.1 122 (0 : Int32).toNatClampNeg), u5)
      else none
      else none
      else none
    else none
set_option maxHeartbeats 4000000 in
set_option maxRecDepth 100000 in
theorem mX8_pass (w : Wc)   {u : Um} {r : Int32} {u' : Um} (hf : fX8_pass  u = some (r, u')) : MC w 3 qX8_pass [.ref 117] u (some (.int r)) u' := by
  unfold fX8_pass at hf
  refine MC_intro pnX8 (Nat.le_of_ble_eq_true rfl) (fun X hX hR _ _ => ?_)
  have hX : OKc w X RX8 cX8_pass 3 := hX
  have hR : RT w X (some .int) 0 0 Pst 133 false (some (.int r)) u' := hR
  refine G_eql (lv' := [some (.ref 117)]) rfl ?_
  refine G_aload_n hX dX8_pass_0 rfl ?_
  obtain ⟨v2, h1, hf⟩ := bd1_some hf
  refine G_cV (as := []) (rest := []) hX cvX8_150 (mX8_isThere w h1) (Nat.le_of_ble_eq_true rfl) kK117 (Nat.le_of_ble_eq_true rfl) (Nat.le_of_ble_eq_true rfl) rfl rfl (Nat.le_of_ble_eq_true rfl) dX8_pass_1 (st' := [.int v2]) rfl ?_
  refine G_if_ne (tgt := 10) hX dX8_pass_4 rfl hf (fun hf => ?_) (fun hf => ?_)
  · refine G_aload_n hX dX8_pass_10 rfl ?_
    refine G_getR (i := 6) (t := 122) hX kK117 (Nat.le_of_ble_eq_true rfl) (Nat.le_of_ble_eq_true rfl) rfl pK117_6 flX8_23 dX8_pass_11 ?_
    refine G_iconst (v := 0) hX dX8_pass_14 rfl ?_
    refine G_iald (n := 83) hX kK122 lK122 (Nat.le_of_ble_eq_true rfl) dX8_pass_15 hf (fun hf => ?_)
    refine G_sipush (v := 9999) hX dX8_pass_16 rfl ?_
    refine G_icmp_ne (tgt := 25) hX dX8_pass_19 rfl hf (fun hf => ?_) (fun hf => ?_)
    · refine G_aload_n hX dX8_pass_25 rfl ?_
      obtain ⟨u4, h3, hf⟩ := bd1_some hf
      refine G_cV (as := []) (rest := []) hX cvX8_144 (mX8_note w h3) (Nat.le_of_ble_eq_true rfl) kK117 (Nat.le_of_ble_eq_true rfl) (Nat.le_of_ble_eq_true rfl) rfl rfl (Nat.le_of_ble_eq_true rfl) dX8_pass_26 (st' := []) rfl ?_
      refine G_aload_n hX dX8_pass_29 rfl ?_
      refine G_getR (i := 6) (t := 122) hX kK117 (Nat.le_of_ble_eq_true rfl) (Nat.le_of_ble_eq_true rfl) rfl pK117_6 flX8_23 dX8_pass_30 ?_
      refine G_iconst (v := 0) hX dX8_pass_33 rfl ?_
      refine G_dup2 hX dX8_pass_34 rfl rfl ?_
      refine G_iald (n := 83) hX kK122 lK122 (Nat.le_of_ble_eq_true rfl) dX8_pass_35 hf (fun hf => ?_)
      refine G_iconst (v := 1) hX dX8_pass_36 rfl ?_
      refine G_iadd hX dX8_pass_37 ?_
      refine G_iast (n := 83) hX kK122 lK122 (Nat.le_of_ble_eq_true rfl) rfl dX8_pass_38 hf (fun u5 hf => ?_)
      refine G_aload_n hX dX8_pass_39 rfl ?_
      refine G_getR (i := 6) (t := 122) hX kK117 (Nat.le_of_ble_eq_true rfl) (Nat.le_of_ble_eq_true rfl) rfl pK117_6 flX8_23 dX8_pass_40 ?_
      refine G_iconst (v := 0) hX dX8_pass_43 rfl ?_
      refine G_iald (n := 83) hX kK122 lK122 (Nat.le_of_ble_eq_true rfl) dX8_pass_44 hf (fun hf => ?_)
      obtain ⟨rfl, rfl⟩ := ret2 hf
      exact G_iret hX hR dX8_pass_45
    · refine G_bipush (v := (-3)) hX dX8_pass_22 rfl ?_
      obtain ⟨rfl, rfl⟩ := ret2 hf
      exact G_iret hX hR dX8_pass_24
  · refine G_bipush (v := (-2)) hX dX8_pass_7 rfl ?_
    obtain ⟨rfl, rfl⟩ := ret2 hf
    exact G_iret hX hR dX8_pass_9
noncomputable def fX8_undo  (u : Um) : Option (Int32 × Um) :=
  if (u.1 117 12) = 0 then
    some ((-4), u)
  else
    nm (sI u 117 12 ((u.1 117 12) - 1)) fun u1 =>
    bd1 (fX8_bring 127 (83 * (u1.1 117 12)) 122 0 83 u1) fun u3 =>
    some ((u3.1 117 12), u3)
set_option maxHeartbeats 4000000 in
set_option maxRecDepth 100000 in
theorem mX8_undo (w : Wc)   {u : Um} {r : Int32} {u' : Um} (hf : fX8_undo  u = some (r, u')) : MC w 2 qX8_undo [.ref 117] u (some (.int r)) u' := by
  unfold fX8_undo at hf
  refine MC_intro pnX8 (Nat.le_of_ble_eq_true rfl) (fun X hX hR _ _ => ?_)
  have hX : OKc w X RX8 cX8_undo 2 := hX
  have hR : RT w X (some .int) 0 0 Pst 133 false (some (.int r)) u' := hR
  refine G_eql (lv' := [some (.ref 117)]) rfl ?_
  refine G_aload_n hX dX8_undo_0 rfl ?_
  refine G_getI (i := 12) hX kK117 (Nat.le_of_ble_eq_true rfl) (Nat.le_of_ble_eq_true rfl) rfl flX8_102 dX8_undo_1 ?_
  refine G_if_ne (tgt := 10) hX dX8_undo_4 rfl hf (fun hf => ?_) (fun hf => ?_)
  · refine G_aload_n hX dX8_undo_10 rfl ?_
    refine G_dup hX dX8_undo_11 rfl ?_
    refine G_getI (i := 12) hX kK117 (Nat.le_of_ble_eq_true rfl) (Nat.le_of_ble_eq_true rfl) rfl flX8_102 dX8_undo_12 ?_
    refine G_iconst (v := 1) hX dX8_undo_15 rfl ?_
    refine G_isub hX dX8_undo_16 ?_
    refine G_putI (i := 12) hX kK117 (Nat.le_of_ble_eq_true rfl) (Nat.le_of_ble_eq_true rfl) rfl rfl flX8_102 fwX8_12 dX8_undo_17 hf (fun u1 hf => ?_)
    refine G_aload_n hX dX8_undo_20 rfl ?_
    refine G_getR (i := 11) (t := 127) hX kK117 (Nat.le_of_ble_eq_true rfl) (Nat.le_of_ble_eq_true rfl) rfl pK117_11 flX8_39 dX8_undo_21 ?_
    refine G_bipush (v := 83) hX dX8_undo_24 rfl ?_
    refine G_aload_n hX dX8_undo_26 rfl ?_
    refine G_getI (i := 12) hX kK117 (Nat.le_of_ble_eq_true rfl) (Nat.le_of_ble_eq_true rfl) rfl flX8_102 dX8_undo_27 ?_
    refine G_imul hX dX8_undo_30 ?_
    refine G_aload_n hX dX8_undo_31 rfl ?_
    refine G_getR (i := 6) (t := 122) hX kK117 (Nat.le_of_ble_eq_true rfl) (Nat.le_of_ble_eq_true rfl) rfl pK117_6 flX8_23 dX8_undo_32 ?_
    refine G_iconst (v := 0) hX dX8_undo_35 rfl ?_
    refine G_bipush (v := 83) hX dX8_undo_36 rfl ?_
    obtain ⟨u3, h2, hf⟩ := bd1_some hf
    refine G_cS (as := [.ref 127, .int (83 * (u1.1 117 12)), .ref 122, .int 0, .int 83]) (rest := []) hX csX8_98 (mX8_bring w kK127 kK122 h2) (Nat.le_of_ble_eq_true rfl) rfl rfl (Nat.le_of_ble_eq_true rfl) dX8_undo_38 (st' := []) rfl ?_
    refine G_aload_n hX dX8_undo_41 rfl ?_
    refine G_getI (i := 12) hX kK117 (Nat.le_of_ble_eq_true rfl) (Nat.le_of_ble_eq_true rfl) rfl flX8_102 dX8_undo_42 ?_
    obtain ⟨rfl, rfl⟩ := ret2 hf
    exact G_iret hX hR dX8_undo_45
  · refine G_bipush (v := (-4)) hX dX8_undo_7 rfl ?_
    obtain ⟨rfl, rfl⟩ := ret2 hf
    exact G_iret hX hR dX8_undo_9
noncomputable def fX8_image (p0 : Int32) (u : Um) : Option (Int32 × Um) :=
  bd1 (fX8_in p0 0 1 u) fun v2 =>
  if v2 = 0 then
    some ((-1), u)
  else
    bd1 (fX8_isThere  u) fun v4 =>
    if v4 = 0 then
      some ((-2), u)
    else
      bd1 (fX8_bring 122 0 125 (83 * p0) 83 u) fun u6 =>
      if inb p0 2 = true then
      nm (sI u6 126 p0.toNatClampNeg (vp_nar .boolean 1)) fun u7 =>
      if inb 0 83 = true then
      some ((u7.1 122 (0 : Int32).toNatClampNeg), u7)
      else none
      else none
set_option maxHeartbeats 4000000 in
set_option maxRecDepth 100000 in
theorem mX8_image (w : Wc) {p0 : Int32}  {u : Um} {r : Int32} {u' : Um} (hf : fX8_image p0 u = some (r, u')) : MC w 2 qX8_image [.ref 117, .int p0] u (some (.int r)) u' := by
  unfold fX8_image at hf
  refine MC_intro pnX8 (Nat.le_of_ble_eq_true rfl) (fun X hX hR _ _ => ?_)
  have hX : OKc w X RX8 cX8_image 2 := hX
  have hR : RT w X (some .int) 0 0 Pst 133 false (some (.int r)) u' := hR
  refine G_eql (lv' := [some (.ref 117), some (.int p0)]) rfl ?_
  refine G_iload_n hX dX8_image_0 rfl ?_
  refine G_iconst (v := 0) hX dX8_image_1 rfl ?_
  refine G_iconst (v := 1) hX dX8_image_2 rfl ?_
  obtain ⟨v2, h1, hf⟩ := bd1_some hf
  refine G_cS (as := [.int p0, .int 0, .int 1]) (rest := []) hX csX8_57 (mX8_in w h1) (Nat.le_of_ble_eq_true rfl) rfl rfl (Nat.le_of_ble_eq_true rfl) dX8_image_3 (st' := [.int v2]) rfl ?_
  refine G_if_ne (tgt := 11) hX dX8_image_6 rfl hf (fun hf => ?_) (fun hf => ?_)
  · refine G_aload_n hX dX8_image_11 rfl ?_
    obtain ⟨v4, h3, hf⟩ := bd1_some hf
    refine G_cV (as := []) (rest := []) hX cvX8_150 (mX8_isThere w h3) (Nat.le_of_ble_eq_true rfl) kK117 (Nat.le_of_ble_eq_true rfl) (Nat.le_of_ble_eq_true rfl) rfl rfl (Nat.le_of_ble_eq_true rfl) dX8_image_12 (st' := [.int v4]) rfl ?_
    refine G_if_ne (tgt := 21) hX dX8_image_15 rfl hf (fun hf => ?_) (fun hf => ?_)
    · refine G_aload_n hX dX8_image_21 rfl ?_
      refine G_getR (i := 6) (t := 122) hX kK117 (Nat.le_of_ble_eq_true rfl) (Nat.le_of_ble_eq_true rfl) rfl pK117_6 flX8_23 dX8_image_22 ?_
      refine G_iconst (v := 0) hX dX8_image_25 rfl ?_
      refine G_aload_n hX dX8_image_26 rfl ?_
      refine G_getR (i := 9) (t := 125) hX kK117 (Nat.le_of_ble_eq_true rfl) (Nat.le_of_ble_eq_true rfl) rfl pK117_9 flX8_32 dX8_image_27 ?_
      refine G_bipush (v := 83) hX dX8_image_30 rfl ?_
      refine G_iload_n hX dX8_image_32 rfl ?_
      refine G_imul hX dX8_image_33 ?_
      refine G_bipush (v := 83) hX dX8_image_34 rfl ?_
      obtain ⟨u6, h5, hf⟩ := bd1_some hf
      refine G_cS (as := [.ref 122, .int 0, .ref 125, .int (83 * p0), .int 83]) (rest := []) hX csX8_98 (mX8_bring w kK122 kK125 h5) (Nat.le_of_ble_eq_true rfl) rfl rfl (Nat.le_of_ble_eq_true rfl) dX8_image_36 (st' := []) rfl ?_
      refine G_aload_n hX dX8_image_39 rfl ?_
      refine G_getR (i := 10) (t := 126) hX kK117 (Nat.le_of_ble_eq_true rfl) (Nat.le_of_ble_eq_true rfl) rfl pK117_10 flX8_35 dX8_image_40 ?_
      refine G_iload_n hX dX8_image_43 rfl ?_
      refine G_iconst (v := 1) hX dX8_image_44 rfl ?_
      refine G_zast (n := 2) hX kK126 lK126 (Nat.le_of_ble_eq_true rfl) rfl dX8_image_45 hf (fun u7 hf => ?_)
      refine G_aload_n hX dX8_image_46 rfl ?_
      refine G_getR (i := 6) (t := 122) hX kK117 (Nat.le_of_ble_eq_true rfl) (Nat.le_of_ble_eq_true rfl) rfl pK117_6 flX8_23 dX8_image_47 ?_
      refine G_iconst (v := 0) hX dX8_image_50 rfl ?_
      refine G_iald (n := 83) hX kK122 lK122 (Nat.le_of_ble_eq_true rfl) dX8_image_51 hf (fun hf => ?_)
      obtain ⟨rfl, rfl⟩ := ret2 hf
      exact G_iret hX hR dX8_image_52
    · refine G_bipush (v := (-2)) hX dX8_image_18 rfl ?_
      obtain ⟨rfl, rfl⟩ := ret2 hf
      exact G_iret hX hR dX8_image_20
  · refine G_iconst (v := (-1)) hX dX8_image_9 rfl ?_
    obtain ⟨rfl, rfl⟩ := ret2 hf
    exact G_iret hX hR dX8_image_10
noncomputable def fX8_restore (p0 : Int32) (u : Um) : Option (Int32 × Um) :=
  bd1 (fX8_in p0 0 1 u) fun v2 =>
  if v2 = 0 then
    some ((-1), u)
  else
    if inb p0 2 = true then
    if (u.1 126 p0.toNatClampNeg) = 0 then
      some ((-2), u)
    else
      bd1 (fX8_bring 125 (83 * p0) 122 0 83 u) fun u4 =>
      nm (sI u4 117 12 0) fun u5 =>
      if inb 0 83 = true then
      some ((u5.1 122 (0 : Int32).toNatClampNeg), u5)
      else none
    else none
set_option maxHeartbeats 4000000 in
set_option maxRecDepth 100000 in
theorem mX8_restore (w : Wc) {p0 : Int32}  {u : Um} {r : Int32} {u' : Um} (hf : fX8_restore p0 u = some (r, u')) : MC w 2 qX8_restore [.ref 117, .int p0] u (some (.int r)) u' := by
  unfold fX8_restore at hf
  refine MC_intro pnX8 (Nat.le_of_ble_eq_true rfl) (fun X hX hR _ _ => ?_)
  have hX : OKc w X RX8 cX8_restore 2 := hX
  have hR : RT w X (some .int) 0 0 Pst 133 false (some (.int r)) u' := hR
  refine G_eql (lv' := [some (.ref 117), some (.int p0)]) rfl ?_
  refine G_iload_n hX dX8_restore_0 rfl ?_
  refine G_iconst (v := 0) hX dX8_restore_1 rfl ?_
  refine G_iconst (v := 1) hX dX8_restore_2 rfl ?_
  obtain ⟨v2, h1, hf⟩ := bd1_some hf
  refine G_cS (as := [.int p0, .int 0, .int 1]) (rest := []) hX csX8_57 (mX8_in w h1) (Nat.le_of_ble_eq_true rfl) rfl rfl (Nat.le_of_ble_eq_true rfl) dX8_restore_3 (st' := [.int v2]) rfl ?_
  refine G_if_ne (tgt := 11) hX dX8_restore_6 rfl hf (fun hf => ?_) (fun hf => ?_)
  · refine G_aload_n hX dX8_restore_11 rfl ?_
    refine G_getR (i := 10) (t := 126) hX kK117 (Nat.le_of_ble_eq_true rfl) (Nat.le_of_ble_eq_true rfl) rfl pK117_10 flX8_35 dX8_restore_12 ?_
    refine G_iload_n hX dX8_restore_15 rfl ?_
    refine G_zald (n := 2) hX kK126 lK126 (Nat.le_of_ble_eq_true rfl) dX8_restore_16 hf (fun hf => ?_)
    refine G_if_ne (tgt := 23) hX dX8_restore_17 rfl hf (fun hf => ?_) (fun hf => ?_)
    · refine G_aload_n hX dX8_restore_23 rfl ?_
      refine G_getR (i := 9) (t := 125) hX kK117 (Nat.le_of_ble_eq_true rfl) (Nat.le_of_ble_eq_true rfl) rfl pK117_9 flX8_32 dX8_restore_24 ?_
      refine G_bipush (v := 83) hX dX8_restore_27 rfl ?_
      refine G_iload_n hX dX8_restore_29 rfl ?_
      refine G_imul hX dX8_restore_30 ?_
      refine G_aload_n hX dX8_restore_31 rfl ?_
      refine G_getR (i := 6) (t := 122) hX kK117 (Nat.le_of_ble_eq_true rfl) (Nat.le_of_ble_eq_true rfl) rfl pK117_6 flX8_23 dX8_restore_32 ?_
      refine G_iconst (v := 0) hX dX8_restore_35 rfl ?_
      refine G_bipush (v := 83) hX dX8_restore_36 rfl ?_
      obtain ⟨u4, h3, hf⟩ := bd1_some hf
      refine G_cS (as := [.ref 125, .int (83 * p0), .ref 122, .int 0, .int 83]) (rest := []) hX csX8_98 (mX8_bring w kK125 kK122 h3) (Nat.le_of_ble_eq_true rfl) rfl rfl (Nat.le_of_ble_eq_true rfl) dX8_restore_38 (st' := []) rfl ?_
      refine G_aload_n hX dX8_restore_41 rfl ?_
      refine G_iconst (v := 0) hX dX8_restore_42 rfl ?_
      refine G_putI (i := 12) hX kK117 (Nat.le_of_ble_eq_true rfl) (Nat.le_of_ble_eq_true rfl) rfl rfl flX8_102 fwX8_12 dX8_restore_43 hf (fun u5 hf => ?_)
      refine G_aload_n hX dX8_restore_46 rfl ?_
      refine G_getR (i := 6) (t := 122) hX kK117 (Nat.le_of_ble_eq_true rfl) (Nat.le_of_ble_eq_true rfl) rfl pK117_6 flX8_23 dX8_restore_47 ?_
      refine G_iconst (v := 0) hX dX8_restore_50 rfl ?_
      refine G_iald (n := 83) hX kK122 lK122 (Nat.le_of_ble_eq_true rfl) dX8_restore_51 hf (fun hf => ?_)
      obtain ⟨rfl, rfl⟩ := ret2 hf
      exact G_iret hX hR dX8_restore_52
    · refine G_bipush (v := (-2)) hX dX8_restore_20 rfl ?_
      obtain ⟨rfl, rfl⟩ := ret2 hf
      exact G_iret hX hR dX8_restore_22
  · refine G_iconst (v := (-1)) hX dX8_restore_9 rfl ?_
    obtain ⟨rfl, rfl⟩ := ret2 hf
    exact G_iret hX hR dX8_restore_10
noncomputable def fX8_said (p0 : Int32) (p1 : Int32) (u : Um) : Option Int32 :=
  bd1 (fX8_isWrong p0 u) fun v2 =>
  if v2 = 0 then
    some (-1)
  else
    bd1 (fX8_isOne p1 u) fun v4 =>
    if v4 = 0 then
      some (-1)
    else
      bd1 (fX8_saidOf 122 p0 p1 u) fun v6 =>
      some v6
set_option maxHeartbeats 4000000 in
set_option maxRecDepth 100000 in
theorem mX8_said (w : Wc) {p0 : Int32} {p1 : Int32}  {u : Um} {r : Int32} (hf : fX8_said p0 p1 u = some r) : MC w 3 qX8_said [.ref 117, .int p0, .int p1] u (some (.int r)) u := by
  unfold fX8_said at hf
  refine MC_intro pnX8 (Nat.le_of_ble_eq_true rfl) (fun X hX hR _ _ => ?_)
  have hX : OKc w X RX8 cX8_said 3 := hX
  have hR : RT w X (some .int) 0 0 Pst 133 false (some (.int r)) u := hR
  refine G_eql (lv' := [some (.ref 117), some (.int p0), some (.int p1)]) rfl ?_
  refine G_aload_n hX dX8_said_0 rfl ?_
  refine G_iload_n hX dX8_said_1 rfl ?_
  obtain ⟨v2, h1, hf⟩ := bd1_some hf
  refine G_cV (as := [.int p0]) (rest := []) hX cvX8_108 (mX8_isWrong w h1) (Nat.le_of_ble_eq_true rfl) kK117 (Nat.le_of_ble_eq_true rfl) (Nat.le_of_ble_eq_true rfl) rfl rfl (Nat.le_of_ble_eq_true rfl) dX8_said_2 (st' := [.int v2]) rfl ?_
  refine G_if_eq (tgt := 28) hX dX8_said_5 rfl hf (fun hf => ?_) (fun hf => ?_)
  · refine G_iconst (v := (-1)) hX dX8_said_28 rfl ?_
    obtain rfl := Option.some.inj hf
    exact G_iret hX hR dX8_said_29
  · refine G_aload_n hX dX8_said_8 rfl ?_
    refine G_iload_n hX dX8_said_9 rfl ?_
    obtain ⟨v4, h3, hf⟩ := bd1_some hf
    refine G_cV (as := [.int p1]) (rest := []) hX cvX8_105 (mX8_isOne w h3) (Nat.le_of_ble_eq_true rfl) kK117 (Nat.le_of_ble_eq_true rfl) (Nat.le_of_ble_eq_true rfl) rfl rfl (Nat.le_of_ble_eq_true rfl) dX8_said_10 (st' := [.int v4]) rfl ?_
    refine G_if_eq (tgt := 28) hX dX8_said_13 rfl hf (fun hf => ?_) (fun hf => ?_)
    · refine G_iconst (v := (-1)) hX dX8_said_28 rfl ?_
      obtain rfl := Option.some.inj hf
      exact G_iret hX hR dX8_said_29
    · refine G_aload_n hX dX8_said_16 rfl ?_
      refine G_getR (i := 6) (t := 122) hX kK117 (Nat.le_of_ble_eq_true rfl) (Nat.le_of_ble_eq_true rfl) rfl pK117_6 flX8_23 dX8_said_17 ?_
      refine G_iload_n hX dX8_said_20 rfl ?_
      refine G_iload_n hX dX8_said_21 rfl ?_
      obtain ⟨v6, h5, hf⟩ := bd1_some hf
      refine G_cS (as := [.ref 122, .int p0, .int p1]) (rest := []) hX csX8_127 (mX8_saidOf w kK122 h5) (Nat.le_of_ble_eq_true rfl) rfl rfl (Nat.le_of_ble_eq_true rfl) dX8_said_22 (st' := [.int v6]) rfl ?_
      refine G_goto (tgt := 29) hX dX8_said_25 rfl ?_
      obtain rfl := Option.some.inj hf
      exact G_iret hX hR dX8_said_29
noncomputable def fX8_comes (p0 : Int32) (p1 : Int32) (u : Um) : Option Int32 :=
  bd1 (fX8_whyNot p0 p1 u) fun v2 =>
  if v2 = 0 then
    bd1 (fX8_comesOf 122 p0 p1 u) fun v4 =>
    some v4
  else
    some v2
set_option maxHeartbeats 4000000 in
set_option maxRecDepth 100000 in
theorem mX8_comes (w : Wc) {p0 : Int32} {p1 : Int32}  {u : Um} {r : Int32} (hf : fX8_comes p0 p1 u = some r) : MC w 4 qX8_comes [.ref 117, .int p0, .int p1] u (some (.int r)) u := by
  unfold fX8_comes at hf
  refine MC_intro pnX8 (Nat.le_of_ble_eq_true rfl) (fun X hX hR _ _ => ?_)
  have hX : OKc w X RX8 cX8_comes 4 := hX
  have hR : RT w X (some .int) 0 0 Pst 133 false (some (.int r)) u := hR
  refine G_eql (lv' := [some (.ref 117), some (.int p0), some (.int p1), none]) rfl ?_
  refine G_aload_n hX dX8_comes_0 rfl ?_
  refine G_iload_n hX dX8_comes_1 rfl ?_
  refine G_iload_n hX dX8_comes_2 rfl ?_
  obtain ⟨v2, h1, hf⟩ := bd1_some hf
  refine G_cV (as := [.int p0, .int p1]) (rest := []) hX cvX8_141 (mX8_whyNot w h1) (Nat.le_of_ble_eq_true rfl) kK117 (Nat.le_of_ble_eq_true rfl) (Nat.le_of_ble_eq_true rfl) rfl rfl (Nat.le_of_ble_eq_true rfl) dX8_comes_3 (st' := [.int v2]) rfl ?_
  refine G_istore_n (lv' := [some (.ref 117), some (.int p0), some (.int p1), some (.int v2)]) hX dX8_comes_6 rfl (Nat.le_of_ble_eq_true rfl) rfl ?_
  refine G_iload_n hX dX8_comes_7 rfl ?_
  refine G_if_eq (tgt := 15) hX dX8_comes_8 rfl hf (fun hf => ?_) (fun hf => ?_)
  · refine G_aload_n hX dX8_comes_15 rfl ?_
    refine G_getR (i := 6) (t := 122) hX kK117 (Nat.le_of_ble_eq_true rfl) (Nat.le_of_ble_eq_true rfl) rfl pK117_6 flX8_23 dX8_comes_16 ?_
    refine G_iload_n hX dX8_comes_19 rfl ?_
    refine G_iload_n hX dX8_comes_20 rfl ?_
    obtain ⟨v4, h3, hf⟩ := bd1_some hf
    refine G_cS (as := [.ref 122, .int p0, .int p1]) (rest := []) hX csX8_131 (mX8_comesOf w kK122 h3) (Nat.le_of_ble_eq_true rfl) rfl rfl (Nat.le_of_ble_eq_true rfl) dX8_comes_21 (st' := [.int v4]) rfl ?_
    obtain rfl := Option.some.inj hf
    exact G_iret hX hR dX8_comes_24
  · refine G_iload_n hX dX8_comes_11 rfl ?_
    refine G_goto (tgt := 24) hX dX8_comes_12 rfl ?_
    obtain rfl := Option.some.inj hf
    exact G_iret hX hR dX8_comes_24
noncomputable def fX8_begin  (u : Um) : Option Um :=
  bd1 (fX8_bring 122 0 124 0 83 u) fun u2 =>
  some u2
set_option maxHeartbeats 4000000 in
set_option maxRecDepth 100000 in
theorem mX8_begin (w : Wc)   {u : Um} {u' : Um} (hf : fX8_begin  u = some u') : MC w 2 qX8_begin [.ref 117] u none u' := by
  unfold fX8_begin at hf
  refine MC_intro pnX8 (Nat.le_of_ble_eq_true rfl) (fun X hX hR _ _ => ?_)
  have hX : OKc w X RX8 cX8_begin 2 := hX
  have hR : RT w X none 0 0 Pst 133 false none u' := hR
  refine G_eql (lv' := [some (.ref 117)]) rfl ?_
  refine G_aload_n hX dX8_begin_0 rfl ?_
  refine G_getR (i := 6) (t := 122) hX kK117 (Nat.le_of_ble_eq_true rfl) (Nat.le_of_ble_eq_true rfl) rfl pK117_6 flX8_23 dX8_begin_1 ?_
  refine G_iconst (v := 0) hX dX8_begin_4 rfl ?_
  refine G_aload_n hX dX8_begin_5 rfl ?_
  refine G_getR (i := 8) (t := 124) hX kK117 (Nat.le_of_ble_eq_true rfl) (Nat.le_of_ble_eq_true rfl) rfl pK117_8 flX8_29 dX8_begin_6 ?_
  refine G_iconst (v := 0) hX dX8_begin_9 rfl ?_
  refine G_bipush (v := 83) hX dX8_begin_10 rfl ?_
  obtain ⟨u2, h1, hf⟩ := bd1_some hf
  refine G_cS (as := [.ref 122, .int 0, .ref 124, .int 0, .int 83]) (rest := []) hX csX8_98 (mX8_bring w kK122 kK124 h1) (Nat.le_of_ble_eq_true rfl) rfl rfl (Nat.le_of_ble_eq_true rfl) dX8_begin_12 (st' := []) rfl ?_
  obtain rfl := Option.some.inj hf
  exact G_vret hX hR dX8_begin_15
noncomputable def fX8_least_b20 (p0 : Int32) (p1 : Int32) (s4 : Int32) (u : Um) : Option (Nat × Int32 × Um) :=
  if 9 < s4 then
    some (1, s4, u)
  else
    if inb (9 + p1) 83 = true then
    nm (sI u 124 (9 + p1).toNatClampNeg s4) fun u5 =>
    bd1 (fX8_comesOf 124 p0 p1 u5) fun v7 =>
    if v7 ≤ 0 then
      nm (s4 + 1) fun v8 =>
      some (0, v8, u5)
    else
      some (2, s4, u5)
    else none
set_option maxHeartbeats 4000000 in
set_option maxRecDepth 100000 in
theorem tX8_least_b20 {w : Wc} {X : MX} (hX : OKc w X RX8 cX8_least 4) {p0 : Int32} {p1 : Int32} {s : Int32 × Um} {e : Nat} {s' : Int32 × Um} (hf : fX8_least_b20 p0 p1 s.1 s.2 = some (e, s')) (K0 : e = 0 → G w X Zm 20 [some (.ref 117), some (.int p0), some (.int p1), none, some (.int s'.1)] [] s'.2) (K1 : e ≠ 0 → if e = 1 then G w X Zm 59 [none, none, none, none, none] [] s'.2 else G w X Zm 50 [none, none, none, none, some (.int s'.1)] [] s'.2) : G w X Zm 20 [some (.ref 117), some (.int p0), some (.int p1), none, some (.int s.1)] [] s.2 := by
  obtain ⟨s4, u⟩ := s
  unfold fX8_least_b20 at hf
  try dsimp only at hf ⊢
  refine G_iload hX dX8_least_20 rfl ?_
  refine G_bipush (v := 9) hX dX8_least_22 rfl ?_
  refine G_icmp_gt (tgt := 59) hX dX8_least_24 rfl hf (fun hf => ?_) (fun hf => ?_)
  · obtain ⟨rfl, rfl⟩ := ret2 hf
    refine G_mask (lv' := [none, none, none, none, none]) [false, false, false, false, false] rfl rfl ?_
    exact gx_hit (K1 (by decide))
  · refine G_aload_n hX dX8_least_27 rfl ?_
    refine G_getR (i := 8) (t := 124) hX kK117 (Nat.le_of_ble_eq_true rfl) (Nat.le_of_ble_eq_true rfl) rfl pK117_8 flX8_29 dX8_least_28 ?_
    refine G_bipush (v := 9) hX dX8_least_31 rfl ?_
    refine G_iload_n hX dX8_least_33 rfl ?_
    refine G_iadd hX dX8_least_34 ?_
    refine G_iload hX dX8_least_35 rfl ?_
    refine G_iast (n := 83) hX kK124 lK124 (Nat.le_of_ble_eq_true rfl) rfl dX8_least_37 hf (fun u5 hf => ?_)
    refine G_aload_n hX dX8_least_38 rfl ?_
    refine G_getR (i := 8) (t := 124) hX kK117 (Nat.le_of_ble_eq_true rfl) (Nat.le_of_ble_eq_true rfl) rfl pK117_8 flX8_29 dX8_least_39 ?_
    refine G_iload_n hX dX8_least_42 rfl ?_
    refine G_iload_n hX dX8_least_43 rfl ?_
    obtain ⟨v7, h6, hf⟩ := bd1_some hf
    refine G_cS (as := [.ref 124, .int p0, .int p1]) (rest := []) hX csX8_131 (mX8_comesOf w kK124 h6) (Nat.le_of_ble_eq_true rfl) rfl rfl (Nat.le_of_ble_eq_true rfl) dX8_least_44 (st' := [.int v7]) rfl ?_
    refine G_if_le (tgt := 53) hX dX8_least_47 rfl hf (fun hf => ?_) (fun hf => ?_)
    · refine G_iincF (lvf := fun v8 => [some (.ref 117), some (.int p0), some (.int p1), none, some (.int v8)]) hX dX8_least_53 rfl rfl rfl (Nat.le_of_ble_eq_true rfl) (fun _ => rfl) hf (fun v8 hf => ?_)
      refine G_goto (tgt := 20) hX dX8_least_56 rfl ?_
      obtain ⟨rfl, rfl⟩ := ret2 hf
      refine G_mask (lv' := [some (.ref 117), some (.int p0), some (.int p1), none, some (.int v8)]) [true, true, true, false, true] rfl rfl ?_
      exact K0 rfl
    · obtain ⟨rfl, rfl⟩ := ret2 hf
      refine G_mask (lv' := [none, none, none, none, some (.int s4)]) [false, false, false, false, true] rfl rfl ?_
      exact gx_miss (by decide) (K1 (by decide))
noncomputable def fX8_least (p0 : Int32) (p1 : Int32) (u : Um) : Option (Int32 × Um) :=
  bd1 (fX8_whyNot p0 p1 u) fun v2 =>
  if v2 = 0 then
    bd1 (fX8_begin  u) fun u4 =>
    bd3 (lp (fun s => fX8_least_b20 p0 p1 s.1 s.2) fuel ((0 : Int32), u4)) fun e11 v9 u10 =>
    if e11 = 1 then
      some ((-4), u10)
    else
    some (v9, u10)
  else
    some (v2, u)
set_option maxHeartbeats 4000000 in
set_option maxRecDepth 100000 in
theorem mX8_least (w : Wc) {p0 : Int32} {p1 : Int32}  {u : Um} {r : Int32} {u' : Um} (hf : fX8_least p0 p1 u = some (r, u')) : MC w 4 qX8_least [.ref 117, .int p0, .int p1] u (some (.int r)) u' := by
  unfold fX8_least at hf
  refine MC_intro pnX8 (Nat.le_of_ble_eq_true rfl) (fun X hX hR _ _ => ?_)
  have hX : OKc w X RX8 cX8_least 4 := hX
  have hR : RT w X (some .int) 0 0 Pst 133 false (some (.int r)) u' := hR
  refine G_eql (lv' := [some (.ref 117), some (.int p0), some (.int p1), none, none]) rfl ?_
  refine G_aload_n hX dX8_least_0 rfl ?_
  refine G_iload_n hX dX8_least_1 rfl ?_
  refine G_iload_n hX dX8_least_2 rfl ?_
  obtain ⟨v2, h1, hf⟩ := bd1_some hf
  refine G_cV (as := [.int p0, .int p1]) (rest := []) hX cvX8_141 (mX8_whyNot w h1) (Nat.le_of_ble_eq_true rfl) kK117 (Nat.le_of_ble_eq_true rfl) (Nat.le_of_ble_eq_true rfl) rfl rfl (Nat.le_of_ble_eq_true rfl) dX8_least_3 (st' := [.int v2]) rfl ?_
  refine G_istore_n (lv' := [some (.ref 117), some (.int p0), some (.int p1), some (.int v2), none]) hX dX8_least_6 rfl (Nat.le_of_ble_eq_true rfl) rfl ?_
  refine G_iload_n hX dX8_least_7 rfl ?_
  refine G_if_eq (tgt := 13) hX dX8_least_8 rfl hf (fun hf => ?_) (fun hf => ?_)
  · refine G_aload_n hX dX8_least_13 rfl ?_
    obtain ⟨u4, h3, hf⟩ := bd1_some hf
    refine G_cV (as := []) (rest := []) hX cvX8_153 (mX8_begin w h3) (Nat.le_of_ble_eq_true rfl) kK117 (Nat.le_of_ble_eq_true rfl) (Nat.le_of_ble_eq_true rfl) rfl rfl (Nat.le_of_ble_eq_true rfl) dX8_least_14 (st' := []) rfl ?_
    refine G_iconst (v := 0) hX dX8_least_17 rfl ?_
    refine G_istore (lv' := [some (.ref 117), some (.int p0), some (.int p1), some (.int v2), some (.int 0)]) hX dX8_least_18 rfl (Nat.le_of_ble_eq_true rfl) rfl ?_
    obtain ⟨e11, v9, u10, h12, hf⟩ := bd3_some hf
    refine G_mask (lv' := [some (.ref 117), some (.int p0), some (.int p1), none, some (.int 0)]) [true, true, true, false, true] rfl rfl ?_
    refine lp_G (body := (fun s => fX8_least_b20 p0 p1 s.1 s.2)) (Gh := fun s => G w X Zm 20 [some (.ref 117), some (.int p0), some (.int p1), none, some (.int s.1)] [] s.2) (Gx := fun e s => if e = 1 then G w X Zm 59 [none, none, none, none, none] [] s.2 else G w X Zm 50 [none, none, none, none, some (.int s.1)] [] s.2) (fun s e s' hb K0 K1 => tX8_least_b20 (s := s) (e := e) (s' := s') hX   hb K0 K1) fuel ((0 : Int32), u4) (e11, v9, u10) h12 ?_
    refine gx2 hf (fun hf => ?_) (fun hf => ?_)
    · refine G_bipush (v := (-4)) hX dX8_least_59 rfl ?_
      obtain ⟨rfl, rfl⟩ := ret2 hf
      exact G_iret hX hR dX8_least_61
    refine G_iload hX dX8_least_50 rfl ?_
    obtain ⟨rfl, rfl⟩ := ret2 hf
    exact G_iret hX hR dX8_least_52
  · refine G_iload_n hX dX8_least_11 rfl ?_
    obtain ⟨rfl, rfl⟩ := ret2 hf
    exact G_iret hX hR dX8_least_12
noncomputable def fX8_has (p0 : Int32) (p1 : Int32) (u : Um) : Option Int32 :=
  if ((p0 >>> (p1 &&& 31)) &&& 1) = 1 then
    some 1
  else
    some 0
set_option maxHeartbeats 4000000 in
set_option maxRecDepth 100000 in
theorem mX8_has (w : Wc) {p0 : Int32} {p1 : Int32}  {u : Um} {r : Int32} (hf : fX8_has p0 p1 u = some r) : MC w 1 qX8_has [.int p0, .int p1] u (some (.int r)) u := by
  unfold fX8_has at hf
  refine MC_intro pnX8 (Nat.le_of_ble_eq_true rfl) (fun X hX hR _ _ => ?_)
  have hX : OKc w X RX8 cX8_has 1 := hX
  have hR : RT w X (some .boolean) 0 0 Pst 133 false (some (.int r)) u := hR
  refine G_eql (lv' := [some (.int p0), some (.int p1)]) rfl ?_
  refine G_iload_n hX dX8_has_0 rfl ?_
  refine G_iload_n hX dX8_has_1 rfl ?_
  refine G_ishr hX dX8_has_2 ?_
  refine G_iconst (v := 1) hX dX8_has_3 rfl ?_
  refine G_iand hX dX8_has_4 ?_
  refine G_iconst (v := 1) hX dX8_has_5 rfl ?_
  refine G_icmp_ne (tgt := 13) hX dX8_has_6 rfl hf (fun hf => ?_) (fun hf => ?_)
  · refine G_iconst (v := 0) hX dX8_has_13 rfl ?_
    obtain rfl := Option.some.inj hf
    exact G_zret hX hR (by decide) dX8_has_14
  · refine G_iconst (v := 1) hX dX8_has_9 rfl ?_
    refine G_goto (tgt := 14) hX dX8_has_10 rfl ?_
    obtain rfl := Option.some.inj hf
    exact G_zret hX hR (by decide) dX8_has_14
