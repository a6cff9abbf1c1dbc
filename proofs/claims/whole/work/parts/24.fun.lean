noncomputable def fX4_bestBehind_L2_j72 (p0 : Nat) (p1 : Int32) (p2 : Int32) (p3 : Int32) (j5 : Nat) (u : Um) : Option (Int32 × Um) :=
  bd2 (fX4_bestFrom_L1 j5 (p2 + 1) (p3 - 1) u) fun v9 u10 =>
  some (v9, u10)
set_option maxHeartbeats 4000000 in
set_option maxRecDepth 100000 in
theorem tX4_bestBehind_L2_j72 {w : Wc} {X : MX} (hX : OKc w X RX4 cX4_bestBehind 10) {p0 : Nat} {p1 : Int32} {p2 : Int32} {p3 : Int32} {j5 : Nat} (hp0 : kd p0 = 0) (hj5 : kd j5 = 0) {u : Um} {r : Int32} {u' : Um} (hR : RT w X (some .int) 0 0 Pst 133 false (some (.int r)) u') (hf : fX4_bestBehind_L2_j72 p0 p1 p2 p3 j5 u = some (r, u')) : G w X Zm 72 [some (.ref 103), none, none, some (.int p2), some (.int p3), some (.ref j5)] [] u := by
  unfold fX4_bestBehind_L2_j72 at hf
  refine G_aload_n hX dX4_bestBehind_72 rfl ?_
  refine G_aload hX dX4_bestBehind_73 rfl ?_
  refine G_iload_n hX dX4_bestBehind_75 rfl ?_
  refine G_iconst (v := 1) hX dX4_bestBehind_76 rfl ?_
  refine G_iadd hX dX4_bestBehind_77 ?_
  refine G_iload hX dX4_bestBehind_78 rfl ?_
  refine G_iconst (v := 1) hX dX4_bestBehind_80 rfl ?_
  refine G_isub hX dX4_bestBehind_81 ?_
  obtain ⟨v9, u10, h8, hf⟩ := bd2_some hf
  refine G_cV (as := [.ref j5, .int (p2 + 1), .int (p3 - 1)]) (rest := []) hX cvX4_45 (mX4_bestFrom_L1 w hj5 h8) (Nat.le_of_ble_eq_true rfl) kK103 (Nat.le_of_ble_eq_true rfl) (Nat.le_of_ble_eq_true rfl) rfl rfl (Nat.le_of_ble_eq_true rfl) dX4_bestBehind_82 (st' := [.int v9]) rfl ?_
  obtain ⟨rfl, rfl⟩ := ret2 hf
  exact G_iret hX hR dX4_bestBehind_85
noncomputable def fX4_bestBehind_L2_j23 (p0 : Nat) (p1 : Int32) (p2 : Int32) (p3 : Int32) (z0 : Option Nat) (u : Um) : Option (Int32 × Um) :=
  spl z0 0
    (if p3 ≤ 1 then
      some (0, u)
    else
      some (0, u))
  (fun x1 =>
    if p3 ≤ 1 then
      some (0, u)
    else
      bd1 (fX0_copyFrom x1 p0 u) fun u4 =>
      if p1 = 99 then
        bd1 (fX0_nextDay x1 u4) fun u12 =>
        fX4_bestBehind_L2_j72 p0 p1 p2 p3 x1 u12
      else
        bd2 (fX0_deliver x1 (p1 / 10) (irm p1 10) u4) fun v6 u7 =>
        fX4_bestBehind_L2_j72 p0 p1 p2 p3 x1 u7)
set_option maxHeartbeats 4000000 in
set_option maxRecDepth 100000 in
theorem tX4_bestBehind_L2_j23 {w : Wc} {X : MX} (hX : OKc w X RX4 cX4_bestBehind 10) {p0 : Nat} {p1 : Int32} {p2 : Int32} {p3 : Int32} {z0 : Option Nat} (hp0 : kd p0 = 0) {u : Um} {r : Int32} {u' : Um} (hR : RT w X (some .int) 0 0 Pst 133 false (some (.int r)) u') (hf : fX4_bestBehind_L2_j23 p0 p1 p2 p3 z0 u = some (r, u')) : G w X Zm 23 [some (.ref 103), some (.ref p0), some (.int p1), some (.int p2), some (.int p3), none] [va_rf z0] u := by
  unfold fX4_bestBehind_L2_j23 at hf
  cases z0 with
  | none =>
    replace hf := spl_none hf
    refine G_eql (lv' := [some (.ref 103), some (.ref p0), some (.int p1), some (.int p2), some (.int p3), none]) rfl ?_
    refine G_eqs (st2 := [.null]) rfl ?_
    refine G_astoreN (lv' := [some (.ref 103), some (.ref p0), some (.int p1), some (.int p2), some (.int p3), some (.null)]) hX dX4_bestBehind_23 rfl (Nat.le_of_ble_eq_true rfl) rfl ?_
    refine G_iload hX dX4_bestBehind_25 rfl ?_
    refine G_iconst (v := 1) hX dX4_bestBehind_27 rfl ?_
    refine G_icmp_le (tgt := 36) hX dX4_bestBehind_28 rfl hf (fun hf => ?_) (fun hf => ?_)
    · refine G_iconst (v := 0) hX dX4_bestBehind_36 rfl ?_
      obtain ⟨rfl, rfl⟩ := ret2 hf
      exact G_iret hX hR dX4_bestBehind_37
    · refine G_aloadN hX dX4_bestBehind_31 rfl ?_
      refine G_ifnonnullN hX dX4_bestBehind_33 ?_
      refine G_iconst (v := 0) hX dX4_bestBehind_36 rfl ?_
      obtain ⟨rfl, rfl⟩ := ret2 hf
      exact G_iret hX hR dX4_bestBehind_37
  | some x1 =>
    obtain ⟨h2, hf⟩ := spl_some hf
    refine G_eql (lv' := [some (.ref 103), some (.ref p0), some (.int p1), some (.int p2), some (.int p3), none]) rfl ?_
    refine G_eqs (st2 := [.ref x1]) rfl ?_
    refine G_astore (lv' := [some (.ref 103), some (.ref p0), some (.int p1), some (.int p2), some (.int p3), some (.ref x1)]) hX dX4_bestBehind_23 rfl (Nat.le_of_ble_eq_true rfl) rfl ?_
    refine G_iload hX dX4_bestBehind_25 rfl ?_
    refine G_iconst (v := 1) hX dX4_bestBehind_27 rfl ?_
    refine G_icmp_le (tgt := 36) hX dX4_bestBehind_28 rfl hf (fun hf => ?_) (fun hf => ?_)
    · refine G_iconst (v := 0) hX dX4_bestBehind_36 rfl ?_
      obtain ⟨rfl, rfl⟩ := ret2 hf
      exact G_iret hX hR dX4_bestBehind_37
    · refine G_aload hX dX4_bestBehind_31 rfl ?_
      refine G_ifnonnull (tgt := 38) hX dX4_bestBehind_33 rfl ?_
      refine G_aload hX dX4_bestBehind_38 rfl ?_
      refine G_aload_n hX dX4_bestBehind_40 rfl ?_
      obtain ⟨u4, h3, hf⟩ := bd1_some hf
      refine G_cV (as := [.ref p0]) (rest := []) hX cvX4_34 (mX0_copyFrom w h2 hp0 h3) (Nat.le_of_ble_eq_true rfl) h2 (Nat.le_of_ble_eq_true rfl) (kd_lt h2 (Nat.le_of_ble_eq_true rfl)) rfl rfl (Nat.le_of_ble_eq_true rfl) dX4_bestBehind_41 (st' := []) rfl ?_
      refine G_iload_n hX dX4_bestBehind_44 rfl ?_
      refine G_bipush (v := 99) hX dX4_bestBehind_45 rfl ?_
      refine G_icmp_ne (tgt := 58) hX dX4_bestBehind_47 rfl hf (fun hf => ?_) (fun hf => ?_)
      · refine G_aload hX dX4_bestBehind_58 rfl ?_
        refine G_iload_n hX dX4_bestBehind_60 rfl ?_
        refine G_bipush (v := 10) hX dX4_bestBehind_61 rfl ?_
        refine G_idiv hX dX4_bestBehind_63 (by decide) ?_
        refine G_iload_n hX dX4_bestBehind_64 rfl ?_
        refine G_bipush (v := 10) hX dX4_bestBehind_65 rfl ?_
        refine G_irem hX dX4_bestBehind_67 (by decide) ?_
        obtain ⟨v6, u7, h5, hf⟩ := bd2_some hf
        refine G_cV (as := [.int (p1 / 10), .int (irm p1 10)]) (rest := []) hX cvX4_41 (mX0_deliver w h2 h5) (Nat.le_of_ble_eq_true rfl) h2 (Nat.le_of_ble_eq_true rfl) (kd_lt h2 (Nat.le_of_ble_eq_true rfl)) rfl rfl (Nat.le_of_ble_eq_true rfl) dX4_bestBehind_68 (st' := [.int v6]) rfl ?_
        refine G_pop hX dX4_bestBehind_71 rfl ?_
        refine G_mask (lv' := [some (.ref 103), none, none, some (.int p2), some (.int p3), some (.ref x1)]) [true, false, false, true, true, true] rfl rfl ?_
        exact tX4_bestBehind_L2_j72 hX hp0 h2 hR hf
      · refine G_aload hX dX4_bestBehind_50 rfl ?_
        obtain ⟨u12, h11, hf⟩ := bd1_some hf
        refine G_cV (as := []) (rest := []) hX cvX4_38 (mX0_nextDay w h2 h11) (Nat.le_of_ble_eq_true rfl) h2 (Nat.le_of_ble_eq_true rfl) (kd_lt h2 (Nat.le_of_ble_eq_true rfl)) rfl rfl (Nat.le_of_ble_eq_true rfl) dX4_bestBehind_52 (st' := []) rfl ?_
        refine G_goto (tgt := 72) hX dX4_bestBehind_55 rfl ?_
        refine G_mask (lv' := [some (.ref 103), none, none, some (.int p2), some (.int p3), some (.ref x1)]) [true, false, false, true, true, true] rfl rfl ?_
        exact tX4_bestBehind_L2_j72 hX hp0 h2 hR hf
noncomputable def fX4_bestBehind_L2_j13 (p0 : Nat) (p1 : Int32) (p2 : Int32) (p3 : Int32) (u : Um) : Option (Int32 × Um) :=
  fX4_bestBehind_L2_j23 p0 p1 p2 p3 none u
set_option maxHeartbeats 4000000 in
set_option maxRecDepth 100000 in
theorem tX4_bestBehind_L2_j13 {w : Wc} {X : MX} (hX : OKc w X RX4 cX4_bestBehind 10) {p0 : Nat} {p1 : Int32} {p2 : Int32} {p3 : Int32} (hp0 : kd p0 = 0) {u : Um} {r : Int32} {u' : Um} (hR : RT w X (some .int) 0 0 Pst 133 false (some (.int r)) u') (hf : fX4_bestBehind_L2_j13 p0 p1 p2 p3 u = some (r, u')) : G w X Zm 13 [some (.ref 103), some (.ref p0), some (.int p1), some (.int p2), some (.int p3), none] [] u := by
  unfold fX4_bestBehind_L2_j13 at hf
  refine G_null hX dX4_bestBehind_13 ?_
  refine G_goto (tgt := 23) hX dX4_bestBehind_14 rfl ?_
  refine G_mask (lv' := [some (.ref 103), some (.ref p0), some (.int p1), some (.int p2), some (.int p3), none]) [true, true, true, true, true, false] rfl rfl ?_
  exact tX4_bestBehind_L2_j23 hX hp0 hR hf
noncomputable def fX4_bestBehind_L2 (p0 : Nat) (p1 : Int32) (p2 : Int32) (p3 : Int32) (u : Um) : Option (Int32 × Um) :=
  if p2 < 0 then
    fX4_bestBehind_L2_j13 p0 p1 p2 p3 u
  else
    if p2 < 3 then
      if inb p2 3 = true then
      fX4_bestBehind_L2_j23 p0 p1 p2 p3 (some (105 + 3 * p2.toNatClampNeg)) u
      else none
    else
      fX4_bestBehind_L2_j13 p0 p1 p2 p3 u
abbrev qX4_bestBehind_L2 : MI := (yX4_bestBehind, cX4_bestBehind, 6, (some .int))
set_option maxHeartbeats 4000000 in
set_option maxRecDepth 100000 in
theorem mX4_bestBehind_L2 (w : Wc) {p0 : Nat} {p1 : Int32} {p2 : Int32} {p3 : Int32} (hp0 : kd p0 = 0) {u : Um} {r : Int32} {u' : Um} (hf : fX4_bestBehind_L2 p0 p1 p2 p3 u = some (r, u')) : MC w 10 qX4_bestBehind_L2 [.ref 103, .ref p0, .int p1, .int p2, .int p3] u (some (.int r)) u' := by
  unfold fX4_bestBehind_L2 at hf
  refine MC_intro pnX4 (Nat.le_of_ble_eq_true rfl) (fun X hX hR _ _ => ?_)
  have hX : OKc w X RX4 cX4_bestBehind 10 := hX
  have hR : RT w X (some .int) 0 0 Pst 133 false (some (.int r)) u' := hR
  refine G_eql (lv' := [some (.ref 103), some (.ref p0), some (.int p1), some (.int p2), some (.int p3), none]) rfl ?_
  refine G_iload_n hX dX4_bestBehind_0 rfl ?_
  refine G_if_lt (tgt := 13) hX dX4_bestBehind_1 rfl hf (fun hf => ?_) (fun hf => ?_)
  · refine G_mask (lv' := [some (.ref 103), some (.ref p0), some (.int p1), some (.int p2), some (.int p3), none]) [true, true, true, true, true, false] rfl rfl ?_
    exact tX4_bestBehind_L2_j13 hX hp0 hR hf
  · refine G_iload_n hX dX4_bestBehind_4 rfl ?_
    refine G_aload_n hX dX4_bestBehind_5 rfl ?_
    refine G_getR (i := 0) (t := 104) hX kK103 (Nat.le_of_ble_eq_true rfl) (Nat.le_of_ble_eq_true rfl) rfl pK103_0 flX4_12 dX4_bestBehind_6 ?_
    refine G_alenC (n := 3) (v := 3) hX kK104 lK104 (Nat.le_of_ble_eq_true rfl) dX4_bestBehind_9 rfl ?_
    refine G_icmp_lt (tgt := 17) hX dX4_bestBehind_10 rfl hf (fun hf => ?_) (fun hf => ?_)
    · refine G_aload_n hX dX4_bestBehind_17 rfl ?_
      refine G_getR (i := 0) (t := 104) hX kK103 (Nat.le_of_ble_eq_true rfl) (Nat.le_of_ble_eq_true rfl) rfl pK103_0 flX4_12 dX4_bestBehind_18 ?_
      refine G_iload_n hX dX4_bestBehind_21 rfl ?_
      refine G_aaldC (n := 3) (t := (105 + 3 * p2.toNatClampNeg)) hX kK104 lK104 (Nat.le_of_ble_eq_true rfl) (PaC kK104 lK104) dX4_bestBehind_22 hf (fun hf => ?_)
      refine G_mask (lv' := [some (.ref 103), some (.ref p0), some (.int p1), some (.int p2), some (.int p3), none]) [true, true, true, true, true, false] rfl rfl ?_
      exact tX4_bestBehind_L2_j23 hX hp0 hR hf
    · refine G_mask (lv' := [some (.ref 103), some (.ref p0), some (.int p1), some (.int p2), some (.int p3), none]) [true, true, true, true, true, false] rfl rfl ?_
      exact tX4_bestBehind_L2_j13 hX hp0 hR hf
noncomputable def fX4_bestFrom_L2_j94 (p0 : Nat) (p1 : Int32) (p2 : Int32) (j4 : Int32) (j5 : Int32) (u : Um) : Option (Nat × Int32 × Int32 × Um) :=
  nm (j5 + 1) fun v3 =>
  some (0, j4, v3, u)
set_option maxHeartbeats 4000000 in
set_option maxRecDepth 100000 in
theorem tX4_bestFrom_L2_j94 {w : Wc} {X : MX} (hX : OKc w X RX4 cX4_bestFrom 11) {p0 : Nat} {p1 : Int32} {p2 : Int32} {j4 : Int32} {j5 : Int32} (hp0 : kd p0 = 0)  {u : Um} {e : Nat} {s' : Int32 × Int32 × Um} (K0 : e = 0 → G w X Zm 22 [some (.ref 103), some (.ref p0), some (.int p1), some (.int p2), some (.int s'.1), some (.int s'.2.1), none, none] [] s'.2.2) (K1 : e ≠ 0 → G w X Zm 100 [none, none, none, none, some (.int s'.1), none, none, none] [] s'.2.2) (hf : fX4_bestFrom_L2_j94 p0 p1 p2 j4 j5 u = some (e, s')) : G w X Zm 94 [some (.ref 103), some (.ref p0), some (.int p1), some (.int p2), some (.int j4), some (.int j5), none, none] [] u := by
  unfold fX4_bestFrom_L2_j94 at hf
  refine G_iincF (lvf := fun v3 => [some (.ref 103), some (.ref p0), some (.int p1), some (.int p2), some (.int j4), some (.int v3), none, none]) hX dX4_bestFrom_94 rfl rfl rfl (Nat.le_of_ble_eq_true rfl) (fun _ => rfl) hf (fun v3 hf => ?_)
  refine G_goto (tgt := 22) hX dX4_bestFrom_97 rfl ?_
  obtain ⟨rfl, rfl⟩ := ret2 hf
  refine G_mask (lv' := [some (.ref 103), some (.ref p0), some (.int p1), some (.int p2), some (.int j4), some (.int v3), none, none]) [true, true, true, true, true, true, false, false] rfl rfl ?_
  exact K0 rfl
noncomputable def fX4_bestFrom_L2_b22 (p0 : Nat) (p1 : Int32) (p2 : Int32) (s4 : Int32) (s5 : Int32) (u : Um) : Option (Nat × Int32 × Int32 × Um) :=
  if 99 < s5 then
    some (1, s4, s5, u)
  else
    if p2 ≤ s4 then
      some (1, s4, s5, u)
    else
      bd1 (fX4_gainOf p0 s5 u) fun v2 =>
      if v2 < 0 then
        fX4_bestFrom_L2_j94 p0 p1 p2 s4 s5 u
      else
        if s4 < ((v2 + p2) - 1) then
          bd2 (fX4_bestBehind_L2 p0 s5 p1 p2 u) fun v5 u6 =>
          nm (v2 + v5) fun v7 =>
          if v7 ≤ s4 then
            fX4_bestFrom_L2_j94 p0 p1 p2 s4 s5 u6
          else
            bd1 (fX4_keep p1 s5 u6) fun u9 =>
            fX4_bestFrom_L2_j94 p0 p1 p2 v7 s5 u9
        else
          fX4_bestFrom_L2_j94 p0 p1 p2 s4 s5 u
set_option maxHeartbeats 4000000 in
set_option maxRecDepth 100000 in
theorem tX4_bestFrom_L2_b22 {w : Wc} {X : MX} (hX : OKc w X RX4 cX4_bestFrom 11) {p0 : Nat} {p1 : Int32} {p2 : Int32} (hp0 : kd p0 = 0) {s : Int32 × Int32 × Um} {e : Nat} {s' : Int32 × Int32 × Um} (hf : fX4_bestFrom_L2_b22 p0 p1 p2 s.1 s.2.1 s.2.2 = some (e, s')) (K0 : e = 0 → G w X Zm 22 [some (.ref 103), some (.ref p0), some (.int p1), some (.int p2), some (.int s'.1), some (.int s'.2.1), none, none] [] s'.2.2) (K1 : e ≠ 0 → G w X Zm 100 [none, none, none, none, some (.int s'.1), none, none, none] [] s'.2.2) : G w X Zm 22 [some (.ref 103), some (.ref p0), some (.int p1), some (.int p2), some (.int s.1), some (.int s.2.1), none, none] [] s.2.2 := by
  obtain ⟨s4, s5, u⟩ := s
  unfold fX4_bestFrom_L2_b22 at hf
  try dsimp only at hf ⊢
  refine G_iload hX dX4_bestFrom_22 rfl ?_
  refine G_bipush (v := 99) hX dX4_bestFrom_24 rfl ?_
  refine G_icmp_gt (tgt := 100) hX dX4_bestFrom_26 rfl hf (fun hf => ?_) (fun hf => ?_)
  · obtain ⟨rfl, rfl⟩ := ret2 hf
    refine G_mask (lv' := [none, none, none, none, some (.int s4), none, none, none]) [false, false, false, false, true, false, false, false] rfl rfl ?_
    exact K1 (by decide)
  · refine G_iload hX dX4_bestFrom_29 rfl ?_
    refine G_iload_n hX dX4_bestFrom_31 rfl ?_
    refine G_icmp_ge (tgt := 100) hX dX4_bestFrom_32 rfl hf (fun hf => ?_) (fun hf => ?_)
    · obtain ⟨rfl, rfl⟩ := ret2 hf
      refine G_mask (lv' := [none, none, none, none, some (.int s4), none, none, none]) [false, false, false, false, true, false, false, false] rfl rfl ?_
      exact K1 (by decide)
    · refine G_aload_n hX dX4_bestFrom_35 rfl ?_
      refine G_iload hX dX4_bestFrom_36 rfl ?_
      obtain ⟨v2, h1, hf⟩ := bd1_some hf
      refine G_cS (as := [.ref p0, .int s5]) (rest := []) hX csX4_22 (mX4_gainOf w hp0 h1) (Nat.le_of_ble_eq_true rfl) rfl rfl (Nat.le_of_ble_eq_true rfl) dX4_bestFrom_38 (st' := [.int v2]) rfl ?_
      refine G_istore (lv' := [some (.ref 103), some (.ref p0), some (.int p1), some (.int p2), some (.int s4), some (.int s5), some (.int v2), none]) hX dX4_bestFrom_41 rfl (Nat.le_of_ble_eq_true rfl) rfl ?_
      refine G_iload hX dX4_bestFrom_43 rfl ?_
      refine G_if_lt (tgt := 94) hX dX4_bestFrom_45 rfl hf (fun hf => ?_) (fun hf => ?_)
      · refine G_mask (lv' := [some (.ref 103), some (.ref p0), some (.int p1), some (.int p2), some (.int s4), some (.int s5), none, none]) [true, true, true, true, true, true, false, false] rfl rfl ?_
        exact tX4_bestFrom_L2_j94 hX hp0 K0 K1 hf
      · refine G_iload hX dX4_bestFrom_48 rfl ?_
        refine G_iload_n hX dX4_bestFrom_50 rfl ?_
        refine G_iadd hX dX4_bestFrom_51 ?_
        refine G_iconst (v := 1) hX dX4_bestFrom_52 rfl ?_
        refine G_isub hX dX4_bestFrom_53 ?_
        refine G_iload hX dX4_bestFrom_54 rfl ?_
        refine G_icmp_gt (tgt := 62) hX dX4_bestFrom_56 rfl hf (fun hf => ?_) (fun hf => ?_)
        · refine G_iload hX dX4_bestFrom_62 rfl ?_
          refine G_aload_n hX dX4_bestFrom_64 rfl ?_
          refine G_aload_n hX dX4_bestFrom_65 rfl ?_
          refine G_iload hX dX4_bestFrom_66 rfl ?_
          refine G_iload_n hX dX4_bestFrom_68 rfl ?_
          refine G_iload_n hX dX4_bestFrom_69 rfl ?_
          obtain ⟨v5, u6, h4, hf⟩ := bd2_some hf
          refine G_cV (as := [.ref p0, .int s5, .int p1, .int p2]) (rest := [.int v2]) hX cvX4_26 (mX4_bestBehind_L2 w hp0 h4) (Nat.le_of_ble_eq_true rfl) kK103 (Nat.le_of_ble_eq_true rfl) (Nat.le_of_ble_eq_true rfl) rfl rfl (Nat.le_of_ble_eq_true rfl) dX4_bestFrom_70 (st' := [.int v5, .int v2]) rfl ?_
          refine G_iadd hX dX4_bestFrom_73 ?_
          refine G_istoreF (lvf := fun v7 => [some (.ref 103), some (.ref p0), some (.int p1), some (.int p2), some (.int s4), some (.int s5), some (.int v2), some (.int v7)]) hX dX4_bestFrom_74 rfl (Nat.le_of_ble_eq_true rfl) (fun _ => rfl) hf (fun v7 hf => ?_)
          refine G_iload hX dX4_bestFrom_76 rfl ?_
          refine G_iload hX dX4_bestFrom_78 rfl ?_
          refine G_icmp_le (tgt := 94) hX dX4_bestFrom_80 rfl hf (fun hf => ?_) (fun hf => ?_)
          · refine G_mask (lv' := [some (.ref 103), some (.ref p0), some (.int p1), some (.int p2), some (.int s4), some (.int s5), none, none]) [true, true, true, true, true, true, false, false] rfl rfl ?_
            exact tX4_bestFrom_L2_j94 hX hp0 K0 K1 hf
          · refine G_iload hX dX4_bestFrom_83 rfl ?_
            refine G_istore (lv' := [some (.ref 103), some (.ref p0), some (.int p1), some (.int p2), some (.int v7), some (.int s5), some (.int v2), some (.int v7)]) hX dX4_bestFrom_85 rfl (Nat.le_of_ble_eq_true rfl) rfl ?_
            refine G_aload_n hX dX4_bestFrom_87 rfl ?_
            refine G_iload_n hX dX4_bestFrom_88 rfl ?_
            refine G_iload hX dX4_bestFrom_89 rfl ?_
            obtain ⟨u9, h8, hf⟩ := bd1_some hf
            refine G_cV (as := [.int p1, .int s5]) (rest := []) hX cvX4_30 (mX4_keep w h8) (Nat.le_of_ble_eq_true rfl) kK103 (Nat.le_of_ble_eq_true rfl) (Nat.le_of_ble_eq_true rfl) rfl rfl (Nat.le_of_ble_eq_true rfl) dX4_bestFrom_91 (st' := []) rfl ?_
            refine G_mask (lv' := [some (.ref 103), some (.ref p0), some (.int p1), some (.int p2), some (.int v7), some (.int s5), none, none]) [true, true, true, true, true, true, false, false] rfl rfl ?_
            exact tX4_bestFrom_L2_j94 hX hp0 K0 K1 hf
        · refine G_goto (tgt := 94) hX dX4_bestFrom_59 rfl ?_
          refine G_mask (lv' := [some (.ref 103), some (.ref p0), some (.int p1), some (.int p2), some (.int s4), some (.int s5), none, none]) [true, true, true, true, true, true, false, false] rfl rfl ?_
          exact tX4_bestFrom_L2_j94 hX hp0 K0 K1 hf
noncomputable def fX4_bestFrom_L2 (p0 : Nat) (p1 : Int32) (p2 : Int32) (u : Um) : Option (Int32 × Um) :=
  if p2 < 1 then
    some (0, u)
  else
    if p1 < 0 then
      some (0, u)
    else
      if p1 < 3 then
        bd4 (lp (fun s => fX4_bestFrom_L2_b22 p0 p1 p2 s.1 s.2.1 s.2.2) fuel (((-1) : Int32), (0 : Int32), u)) fun e13 v10 v11 u12 =>
        some (v10, u12)
      else
        some (0, u)
abbrev qX4_bestFrom_L2 : MI := (yX4_bestFrom, cX4_bestFrom, 8, (some .int))
set_option maxHeartbeats 4000000 in
set_option maxRecDepth 100000 in
theorem mX4_bestFrom_L2 (w : Wc) {p0 : Nat} {p1 : Int32} {p2 : Int32} (hp0 : kd p0 = 0) {u : Um} {r : Int32} {u' : Um} (hf : fX4_bestFrom_L2 p0 p1 p2 u = some (r, u')) : MC w 11 qX4_bestFrom_L2 [.ref 103, .ref p0, .int p1, .int p2] u (some (.int r)) u' := by
  unfold fX4_bestFrom_L2 at hf
  refine MC_intro pnX4 (Nat.le_of_ble_eq_true rfl) (fun X hX hR _ _ => ?_)
  have hX : OKc w X RX4 cX4_bestFrom 11 := hX
  have hR : RT w X (some .int) 0 0 Pst 133 false (some (.int r)) u' := hR
  refine G_eql (lv' := [some (.ref 103), some (.ref p0), some (.int p1), some (.int p2), none, none, none, none]) rfl ?_
  refine G_iload_n hX dX4_bestFrom_0 rfl ?_
  refine G_iconst (v := 1) hX dX4_bestFrom_1 rfl ?_
  refine G_icmp_lt (tgt := 14) hX dX4_bestFrom_2 rfl hf (fun hf => ?_) (fun hf => ?_)
  · refine G_iconst (v := 0) hX dX4_bestFrom_14 rfl ?_
    obtain ⟨rfl, rfl⟩ := ret2 hf
    exact G_iret hX hR dX4_bestFrom_15
  · refine G_iload_n hX dX4_bestFrom_5 rfl ?_
    refine G_if_lt (tgt := 14) hX dX4_bestFrom_6 rfl hf (fun hf => ?_) (fun hf => ?_)
    · refine G_iconst (v := 0) hX dX4_bestFrom_14 rfl ?_
      obtain ⟨rfl, rfl⟩ := ret2 hf
      exact G_iret hX hR dX4_bestFrom_15
    · refine G_iload_n hX dX4_bestFrom_9 rfl ?_
      refine G_iconst (v := 3) hX dX4_bestFrom_10 rfl ?_
      refine G_icmp_lt (tgt := 16) hX dX4_bestFrom_11 rfl hf (fun hf => ?_) (fun hf => ?_)
      · refine G_iconst (v := (-1)) hX dX4_bestFrom_16 rfl ?_
        refine G_istore (lv' := [some (.ref 103), some (.ref p0), some (.int p1), some (.int p2), some (.int (-1)), none, none, none]) hX dX4_bestFrom_17 rfl (Nat.le_of_ble_eq_true rfl) rfl ?_
        refine G_iconst (v := 0) hX dX4_bestFrom_19 rfl ?_
        refine G_istore (lv' := [some (.ref 103), some (.ref p0), some (.int p1), some (.int p2), some (.int (-1)), some (.int 0), none, none]) hX dX4_bestFrom_20 rfl (Nat.le_of_ble_eq_true rfl) rfl ?_
        obtain ⟨e13, v10, v11, u12, h14, hf⟩ := bd4_some hf
        refine G_mask (lv' := [some (.ref 103), some (.ref p0), some (.int p1), some (.int p2), some (.int (-1)), some (.int 0), none, none]) [true, true, true, true, true, true, false, false] rfl rfl ?_
        refine lp_G (body := (fun s => fX4_bestFrom_L2_b22 p0 p1 p2 s.1 s.2.1 s.2.2)) (Gh := fun s => G w X Zm 22 [some (.ref 103), some (.ref p0), some (.int p1), some (.int p2), some (.int s.1), some (.int s.2.1), none, none] [] s.2.2) (Gx := fun e s => G w X Zm 100 [none, none, none, none, some (.int s.1), none, none, none] [] s.2.2) (fun s e s' hb K0 K1 => tX4_bestFrom_L2_b22 (s := s) (e := e) (s' := s') hX hp0  hb K0 K1) fuel (((-1) : Int32), (0 : Int32), u) (e13, v10, v11, u12) h14 ?_
        refine G_iload hX dX4_bestFrom_100 rfl ?_
        obtain ⟨rfl, rfl⟩ := ret2 hf
        exact G_iret hX hR dX4_bestFrom_102
      · refine G_iconst (v := 0) hX dX4_bestFrom_14 rfl ?_
        obtain ⟨rfl, rfl⟩ := ret2 hf
        exact G_iret hX hR dX4_bestFrom_15
noncomputable def fX4_step (p0 : Int32) (u : Um) : Option Int32 :=
  if p0 < 0 then
    some (-4)
  else
    if p0 < 3 then
      if inb p0 12 = true then
      some (u.1 114 p0.toNatClampNeg)
      else none
    else
      some (-4)
set_option maxHeartbeats 4000000 in
set_option maxRecDepth 100000 in
theorem mX4_step (w : Wc) {p0 : Int32}  {u : Um} {r : Int32} (hf : fX4_step p0 u = some r) : MC w 1 qX4_step [.ref 103, .int p0] u (some (.int r)) u := by
  unfold fX4_step at hf
  refine MC_intro pnX4 (Nat.le_of_ble_eq_true rfl) (fun X hX hR _ _ => ?_)
  have hX : OKc w X RX4 cX4_step 1 := hX
  have hR : RT w X (some .int) 0 0 Pst 133 false (some (.int r)) u := hR
  refine G_eql (lv' := [some (.ref 103), some (.int p0)]) rfl ?_
  refine G_iload_n hX dX4_step_0 rfl ?_
  refine G_if_lt (tgt := 9) hX dX4_step_1 rfl hf (fun hf => ?_) (fun hf => ?_)
  · refine G_bipush (v := (-4)) hX dX4_step_9 rfl ?_
    refine G_goto (tgt := 20) hX dX4_step_11 rfl ?_
    obtain rfl := Option.some.inj hf
    exact G_iret hX hR dX4_step_20
  · refine G_iload_n hX dX4_step_4 rfl ?_
    refine G_iconst (v := 3) hX dX4_step_5 rfl ?_
    refine G_icmp_lt (tgt := 14) hX dX4_step_6 rfl hf (fun hf => ?_) (fun hf => ?_)
    · refine G_aload_n hX dX4_step_14 rfl ?_
      refine G_getR (i := 1) (t := 114) hX kK103 (Nat.le_of_ble_eq_true rfl) (Nat.le_of_ble_eq_true rfl) rfl pK103_1 flX4_18 dX4_step_15 ?_
      refine G_iload_n hX dX4_step_18 rfl ?_
      refine G_iald (n := 12) hX kK114 lK114 (Nat.le_of_ble_eq_true rfl) dX4_step_19 hf (fun hf => ?_)
      obtain rfl := Option.some.inj hf
      exact G_iret hX hR dX4_step_20
    · refine G_bipush (v := (-4)) hX dX4_step_9 rfl ?_
      refine G_goto (tgt := 20) hX dX4_step_11 rfl ?_
      obtain rfl := Option.some.inj hf
      exact G_iret hX hR dX4_step_20
noncomputable def fX7_plan (p0 : Int32) (p1 : Int32) (u : Um) : Option (Int32 × Um) :=
  if p0 < 0 then
    some ((-1), u)
  else
    if 3 < p0 then
      some ((-1), u)
    else
      if (-1) ≤ p1 then
        bd1 (fX0_stands 3 u) fun v2 =>
        if v2 = 0 then
          some ((-2), u)
        else
          if p1 < p0 then
            bd2 (fX4_bestFrom_L2 3 0 p0 u) fun v4 u5 =>
            if p1 = (-1) then
              some (v4, u5)
            else
              bd1 (fX4_step p1 u5) fun v7 =>
              some (v7, u5)
          else
            some ((-4), u)
      else
        some ((-1), u)
set_option maxHeartbeats 4000000 in
set_option maxRecDepth 100000 in
theorem mX7_plan (w : Wc) {p0 : Int32} {p1 : Int32}  {u : Um} {r : Int32} {u' : Um} (hf : fX7_plan p0 p1 u = some (r, u')) : MC w 12 qX7_plan [.ref 0, .int p0, .int p1] u (some (.int r)) u' := by
  unfold fX7_plan at hf
  refine MC_intro pnX7 (Nat.le_of_ble_eq_true rfl) (fun X hX hR _ _ => ?_)
  have hX : OKc w X RX7 cX7_plan 12 := hX
  have hR : RT w X (some .int) 0 0 Pst 133 false (some (.int r)) u' := hR
  refine G_eql (lv' := [some (.ref 0), some (.int p0), some (.int p1), none]) rfl ?_
  refine G_iload_n hX dX7_plan_0 rfl ?_
  refine G_if_lt (tgt := 14) hX dX7_plan_1 rfl hf (fun hf => ?_) (fun hf => ?_)
  · refine G_iconst (v := (-1)) hX dX7_plan_14 rfl ?_
    obtain ⟨rfl, rfl⟩ := ret2 hf
    exact G_iret hX hR dX7_plan_15
  · refine G_iload_n hX dX7_plan_4 rfl ?_
    refine G_iconst (v := 3) hX dX7_plan_5 rfl ?_
    refine G_icmp_gt (tgt := 14) hX dX7_plan_6 rfl hf (fun hf => ?_) (fun hf => ?_)
    · refine G_iconst (v := (-1)) hX dX7_plan_14 rfl ?_
      obtain ⟨rfl, rfl⟩ := ret2 hf
      exact G_iret hX hR dX7_plan_15
    · refine G_iload_n hX dX7_plan_9 rfl ?_
      refine G_iconst (v := (-1)) hX dX7_plan_10 rfl ?_
      refine G_icmp_ge (tgt := 16) hX dX7_plan_11 rfl hf (fun hf => ?_) (fun hf => ?_)
      · refine G_aload_n hX dX7_plan_16 rfl ?_
        refine G_getR (i := 1) (t := 3) hX kK0 (Nat.le_of_ble_eq_true rfl) (Nat.le_of_ble_eq_true rfl) rfl pK0_1 flX7_19 dX7_plan_17 ?_
        obtain ⟨v2, h1, hf⟩ := bd1_some hf
        refine G_cV (as := []) (rest := []) hX cvX7_135 (mX0_stands w kK3 h1) (Nat.le_of_ble_eq_true rfl) kK3 (Nat.le_of_ble_eq_true rfl) (Nat.le_of_ble_eq_true rfl) rfl rfl (Nat.le_of_ble_eq_true rfl) dX7_plan_20 (st' := [.int v2]) rfl ?_
        refine G_if_ne (tgt := 29) hX dX7_plan_23 rfl hf (fun hf => ?_) (fun hf => ?_)
        · refine G_iload_n hX dX7_plan_29 rfl ?_
          refine G_iload_n hX dX7_plan_30 rfl ?_
          refine G_icmp_lt (tgt := 37) hX dX7_plan_31 rfl hf (fun hf => ?_) (fun hf => ?_)
          · refine G_aload_n hX dX7_plan_37 rfl ?_
            refine G_getR (i := 7) (t := 103) hX kK0 (Nat.le_of_ble_eq_true rfl) (Nat.le_of_ble_eq_true rfl) rfl pK0_7 flX7_54 dX7_plan_38 ?_
            refine G_aload_n hX dX7_plan_41 rfl ?_
            refine G_getR (i := 1) (t := 3) hX kK0 (Nat.le_of_ble_eq_true rfl) (Nat.le_of_ble_eq_true rfl) rfl pK0_1 flX7_19 dX7_plan_42 ?_
            refine G_iconst (v := 0) hX dX7_plan_45 rfl ?_
            refine G_iload_n hX dX7_plan_46 rfl ?_
            obtain ⟨v4, u5, h3, hf⟩ := bd2_some hf
            refine G_cV (as := [.ref 3, .int 0, .int p0]) (rest := []) hX cvX7_180 (mX4_bestFrom_L2 w kK3 h3) (Nat.le_of_ble_eq_true rfl) kK103 (Nat.le_of_ble_eq_true rfl) (Nat.le_of_ble_eq_true rfl) rfl rfl (Nat.le_of_ble_eq_true rfl) dX7_plan_47 (st' := [.int v4]) rfl ?_
            refine G_istore_n (lv' := [some (.ref 0), some (.int p0), some (.int p1), some (.int v4)]) hX dX7_plan_50 rfl (Nat.le_of_ble_eq_true rfl) rfl ?_
            refine G_iload_n hX dX7_plan_51 rfl ?_
            refine G_iconst (v := (-1)) hX dX7_plan_52 rfl ?_
            refine G_icmp_ne (tgt := 60) hX dX7_plan_53 rfl hf (fun hf => ?_) (fun hf => ?_)
            · refine G_aload_n hX dX7_plan_60 rfl ?_
              refine G_getR (i := 7) (t := 103) hX kK0 (Nat.le_of_ble_eq_true rfl) (Nat.le_of_ble_eq_true rfl) rfl pK0_7 flX7_54 dX7_plan_61 ?_
              refine G_iload_n hX dX7_plan_64 rfl ?_
              obtain ⟨v7, h6, hf⟩ := bd1_some hf
              refine G_cV (as := [.int p1]) (rest := []) hX cvX7_184 (mX4_step w h6) (Nat.le_of_ble_eq_true rfl) kK103 (Nat.le_of_ble_eq_true rfl) (Nat.le_of_ble_eq_true rfl) rfl rfl (Nat.le_of_ble_eq_true rfl) dX7_plan_65 (st' := [.int v7]) rfl ?_
              obtain ⟨rfl, rfl⟩ := ret2 hf
              exact G_iret hX hR dX7_plan_68
            · refine G_iload_n hX dX7_plan_56 rfl ?_
              refine G_goto (tgt := 68) hX dX7_plan_57 rfl ?_
              obtain ⟨rfl, rfl⟩ := ret2 hf
              exact G_iret hX hR dX7_plan_68
          · refine G_bipush (v := (-4)) hX dX7_plan_34 rfl ?_
            obtain ⟨rfl, rfl⟩ := ret2 hf
            exact G_iret hX hR dX7_plan_36
        · refine G_bipush (v := (-2)) hX dX7_plan_26 rfl ?_
          obtain ⟨rfl, rfl⟩ := ret2 hf
          exact G_iret hX hR dX7_plan_28
      · refine G_iconst (v := (-1)) hX dX7_plan_14 rfl ?_
        obtain ⟨rfl, rfl⟩ := ret2 hf
        exact G_iret hX hR dX7_plan_15
noncomputable def fX7_waysOfGusts_j49 (p0 : Int32) (p1 : Int32) (j3 : Int32) (u : Um) : Option Int32 :=
  if p1 < 3 then
    some j3
  else
    nm (j3 + ((p0 * p0) * p0)) fun v2 =>
    some v2
set_option maxHeartbeats 4000000 in
set_option maxRecDepth 100000 in
theorem tX7_waysOfGusts_j49 {w : Wc} {X : MX} (hX : OKc w X RX7 cX7_waysOfGusts 1) {p0 : Int32} {p1 : Int32} {j3 : Int32} {u : Um} {r : Int32} (hR : RT w X (some .int) 0 0 Pst 133 false (some (.int r)) u) (hf : fX7_waysOfGusts_j49 p0 p1 j3 u = some r) : G w X Zm 49 [some (.int p0), some (.int p1), none, some (.int j3)] [] u := by
  unfold fX7_waysOfGusts_j49 at hf
  refine G_iload_n hX dX7_waysOfGusts_49 rfl ?_
  refine G_iconst (v := 3) hX dX7_waysOfGusts_50 rfl ?_
  refine G_icmp_lt (tgt := 62) hX dX7_waysOfGusts_51 rfl hf (fun hf => ?_) (fun hf => ?_)
  · refine G_iload_n hX dX7_waysOfGusts_62 rfl ?_
    obtain rfl := Option.some.inj hf
    exact G_iret hX hR dX7_waysOfGusts_63
  · refine G_iload_n hX dX7_waysOfGusts_54 rfl ?_
    refine G_iload_n hX dX7_waysOfGusts_55 rfl ?_
    refine G_iload_n hX dX7_waysOfGusts_56 rfl ?_
    refine G_imul hX dX7_waysOfGusts_57 ?_
    refine G_iload_n hX dX7_waysOfGusts_58 rfl ?_
    refine G_imul hX dX7_waysOfGusts_59 ?_
    refine G_iadd hX dX7_waysOfGusts_60 ?_
    refine G_istore_nF (lvf := fun v2 => [some (.int p0), some (.int p1), none, some (.int v2)]) hX dX7_waysOfGusts_61 rfl (Nat.le_of_ble_eq_true rfl) (fun _ => rfl) hf (fun v2 hf => ?_)
    refine G_iload_n hX dX7_waysOfGusts_62 rfl ?_
    obtain rfl := Option.some.inj hf
    exact G_iret hX hR dX7_waysOfGusts_63
noncomputable def fX7_waysOfGusts_j34 (p0 : Int32) (p1 : Int32) (j2 : Int32) (j3 : Int32) (u : Um) : Option Int32 :=
  if p1 < 2 then
    fX7_waysOfGusts_j49 p0 p1 j3 u
  else
    nm (j3 + (((3 * p0) * p0) * j2)) fun v3 =>
    fX7_waysOfGusts_j49 p0 p1 v3 u
set_option maxHeartbeats 4000000 in
set_option maxRecDepth 100000 in
theorem tX7_waysOfGusts_j34 {w : Wc} {X : MX} (hX : OKc w X RX7 cX7_waysOfGusts 1) {p0 : Int32} {p1 : Int32} {j2 : Int32} {j3 : Int32} {u : Um} {r : Int32} (hR : RT w X (some .int) 0 0 Pst 133 false (some (.int r)) u) (hf : fX7_waysOfGusts_j34 p0 p1 j2 j3 u = some r) : G w X Zm 34 [some (.int p0), some (.int p1), some (.int j2), some (.int j3)] [] u := by
  unfold fX7_waysOfGusts_j34 at hf
  refine G_iload_n hX dX7_waysOfGusts_34 rfl ?_
  refine G_iconst (v := 2) hX dX7_waysOfGusts_35 rfl ?_
  refine G_icmp_lt (tgt := 49) hX dX7_waysOfGusts_36 rfl hf (fun hf => ?_) (fun hf => ?_)
  · refine G_mask (lv' := [some (.int p0), some (.int p1), none, some (.int j3)]) [true, true, false, true] rfl rfl ?_
    exact tX7_waysOfGusts_j49 hX  hR hf
  · refine G_iload_n hX dX7_waysOfGusts_39 rfl ?_
    refine G_iconst (v := 3) hX dX7_waysOfGusts_40 rfl ?_
    refine G_iload_n hX dX7_waysOfGusts_41 rfl ?_
    refine G_imul hX dX7_waysOfGusts_42 ?_
    refine G_iload_n hX dX7_waysOfGusts_43 rfl ?_
    refine G_imul hX dX7_waysOfGusts_44 ?_
    refine G_iload_n hX dX7_waysOfGusts_45 rfl ?_
    refine G_imul hX dX7_waysOfGusts_46 ?_
    refine G_iadd hX dX7_waysOfGusts_47 ?_
    refine G_istore_nF (lvf := fun v3 => [some (.int p0), some (.int p1), some (.int j2), some (.int v3)]) hX dX7_waysOfGusts_48 rfl (Nat.le_of_ble_eq_true rfl) (fun _ => rfl) hf (fun v3 hf => ?_)
    refine G_mask (lv' := [some (.int p0), some (.int p1), none, some (.int v3)]) [true, true, false, true] rfl rfl ?_
    exact tX7_waysOfGusts_j49 hX  hR hf
noncomputable def fX7_waysOfGusts_j19 (p0 : Int32) (p1 : Int32) (j2 : Int32) (j3 : Int32) (u : Um) : Option Int32 :=
  if p1 < 1 then
    fX7_waysOfGusts_j34 p0 p1 j2 j3 u
  else
    nm (j3 + (((3 * p0) * j2) * j2)) fun v4 =>
    fX7_waysOfGusts_j34 p0 p1 j2 v4 u
set_option maxHeartbeats 4000000 in
set_option maxRecDepth 100000 in
theorem tX7_waysOfGusts_j19 {w : Wc} {X : MX} (hX : OKc w X RX7 cX7_waysOfGusts 1) {p0 : Int32} {p1 : Int32} {j2 : Int32} {j3 : Int32} {u : Um} {r : Int32} (hR : RT w X (some .int) 0 0 Pst 133 false (some (.int r)) u) (hf : fX7_waysOfGusts_j19 p0 p1 j2 j3 u = some r) : G w X Zm 19 [some (.int p0), some (.int p1), some (.int j2), some (.int j3)] [] u := by
  unfold fX7_waysOfGusts_j19 at hf
  refine G_iload_n hX dX7_waysOfGusts_19 rfl ?_
  refine G_iconst (v := 1) hX dX7_waysOfGusts_20 rfl ?_
  refine G_icmp_lt (tgt := 34) hX dX7_waysOfGusts_21 rfl hf (fun hf => ?_) (fun hf => ?_)
  · refine G_mask (lv' := [some (.int p0), some (.int p1), some (.int j2), some (.int j3)]) [true, true, true, true] rfl rfl ?_
    exact tX7_waysOfGusts_j34 hX  hR hf
  · refine G_iload_n hX dX7_waysOfGusts_24 rfl ?_
    refine G_iconst (v := 3) hX dX7_waysOfGusts_25 rfl ?_
    refine G_iload_n hX dX7_waysOfGusts_26 rfl ?_
    refine G_imul hX dX7_waysOfGusts_27 ?_
    refine G_iload_n hX dX7_waysOfGusts_28 rfl ?_
    refine G_imul hX dX7_waysOfGusts_29 ?_
    refine G_iload_n hX dX7_waysOfGusts_30 rfl ?_
    refine G_imul hX dX7_waysOfGusts_31 ?_
    refine G_iadd hX dX7_waysOfGusts_32 ?_
    refine G_istore_nF (lvf := fun v4 => [some (.int p0), some (.int p1), some (.int j2), some (.int v4)]) hX dX7_waysOfGusts_33 rfl (Nat.le_of_ble_eq_true rfl) (fun _ => rfl) hf (fun v4 hf => ?_)
    refine G_mask (lv' := [some (.int p0), some (.int p1), some (.int j2), some (.int v4)]) [true, true, true, true] rfl rfl ?_
    exact tX7_waysOfGusts_j34 hX  hR hf
noncomputable def fX7_waysOfGusts (p0 : Int32) (p1 : Int32) (u : Um) : Option Int32 :=
  nm (10 - p0) fun v1 =>
  if p1 < 0 then
    fX7_waysOfGusts_j19 p0 p1 v1 0 u
  else
    nm (0 + ((v1 * v1) * v1)) fun v5 =>
    fX7_waysOfGusts_j19 p0 p1 v1 v5 u
set_option maxHeartbeats 4000000 in
set_option maxRecDepth 100000 in
theorem mX7_waysOfGusts (w : Wc) {p0 : Int32} {p1 : Int32}  {u : Um} {r : Int32} (hf : fX7_waysOfGusts p0 p1 u = some r) : MC w 1 qX7_waysOfGusts [.int p0, .int p1] u (some (.int r)) u := by
  unfold fX7_waysOfGusts at hf
  refine MC_intro pnX7 (Nat.le_of_ble_eq_true rfl) (fun X hX hR _ _ => ?_)
  have hX : OKc w X RX7 cX7_waysOfGusts 1 := hX
  have hR : RT w X (some .int) 0 0 Pst 133 false (some (.int r)) u := hR
  refine G_eql (lv' := [some (.int p0), some (.int p1), none, none]) rfl ?_
  refine G_bipush (v := 10) hX dX7_waysOfGusts_0 rfl ?_
  refine G_iload_n hX dX7_waysOfGusts_2 rfl ?_
  refine G_isub hX dX7_waysOfGusts_3 ?_
  refine G_istore_nF (lvf := fun v1 => [some (.int p0), some (.int p1), some (.int v1), none]) hX dX7_waysOfGusts_4 rfl (Nat.le_of_ble_eq_true rfl) (fun _ => rfl) hf (fun v1 hf => ?_)
  refine G_iconst (v := 0) hX dX7_waysOfGusts_5 rfl ?_
  refine G_istore_n (lv' := [some (.int p0), some (.int p1), some (.int v1), some (.int 0)]) hX dX7_waysOfGusts_6 rfl (Nat.le_of_ble_eq_true rfl) rfl ?_
  refine G_iload_n hX dX7_waysOfGusts_7 rfl ?_
  refine G_if_lt (tgt := 19) hX dX7_waysOfGusts_8 rfl hf (fun hf => ?_) (fun hf => ?_)
  · refine G_mask (lv' := [some (.int p0), some (.int p1), some (.int v1), some (.int 0)]) [true, true, true, true] rfl rfl ?_
    exact tX7_waysOfGusts_j19 hX  hR hf
  · refine G_iload_n hX dX7_waysOfGusts_11 rfl ?_
    refine G_iload_n hX dX7_waysOfGusts_12 rfl ?_
    refine G_iload_n hX dX7_waysOfGusts_13 rfl ?_
    refine G_imul hX dX7_waysOfGusts_14 ?_
    refine G_iload_n hX dX7_waysOfGusts_15 rfl ?_
    refine G_imul hX dX7_waysOfGusts_16 ?_
    refine G_iadd hX dX7_waysOfGusts_17 ?_
    refine G_istore_nF (lvf := fun v5 => [some (.int p0), some (.int p1), some (.int v1), some (.int v5)]) hX dX7_waysOfGusts_18 rfl (Nat.le_of_ble_eq_true rfl) (fun _ => rfl) hf (fun v5 hf => ?_)
    refine G_mask (lv' := [some (.int p0), some (.int p1), some (.int v1), some (.int v5)]) [true, true, true, true] rfl rfl ?_
    exact tX7_waysOfGusts_j19 hX  hR hf
noncomputable def fX7_commonDivisor_b7 (p0 : Int32) (p1 : Int32) (s2 : Int32) (s3 : Int32) (s4 : Int32) (u : Um) : Option (Nat × Int32 × Int32 × Int32) :=
  if 64 ≤ s4 then
    some (1, s2, s3, s4)
  else
    if s3 = 0 then
      some (1, s2, s3, s4)
    else
      if s3 = 0 then none else
      nm (irm s2 s3) fun v1 =>
      nm (s4 + 1) fun v2 =>
      some (0, s3, v1, v2)
set_option maxHeartbeats 4000000 in
set_option maxRecDepth 100000 in
theorem tX7_commonDivisor_b7 {w : Wc} {X : MX} (hX : OKc w X RX7 cX7_commonDivisor 1) {p0 : Int32} {p1 : Int32} {s : Int32 × Int32 × Int32} {e : Nat} {s' : Int32 × Int32 × Int32} {u : Um} (hf : fX7_commonDivisor_b7 p0 p1 s.1 s.2.1 s.2.2 u = some (e, s')) (K0 : e = 0 → G w X Zm 7 [none, none, some (.int s'.1), some (.int s'.2.1), some (.int s'.2.2), none] [] u) (K1 : e ≠ 0 → G w X Zm 34 [none, none, some (.int s'.1), none, none, none] [] u) : G w X Zm 7 [none, none, some (.int s.1), some (.int s.2.1), some (.int s.2.2), none] [] u := by
  obtain ⟨s2, s3, s4⟩ := s
  unfold fX7_commonDivisor_b7 at hf
  try dsimp only at hf ⊢
  refine G_iload hX dX7_commonDivisor_7 rfl ?_
  refine G_bipush (v := 64) hX dX7_commonDivisor_9 rfl ?_
  refine G_icmp_ge (tgt := 34) hX dX7_commonDivisor_11 rfl hf (fun hf => ?_) (fun hf => ?_)
  · obtain ⟨rfl, rfl⟩ := ret2 hf
    refine G_mask (lv' := [none, none, some (.int s2), none, none, none]) [false, false, true, false, false, false] rfl rfl ?_
    exact K1 (by decide)
  · refine G_iload_n hX dX7_commonDivisor_14 rfl ?_
    refine G_if_eq (tgt := 34) hX dX7_commonDivisor_15 rfl hf (fun hf => ?_) (fun hf => ?_)
    · obtain ⟨rfl, rfl⟩ := ret2 hf
      refine G_mask (lv' := [none, none, some (.int s2), none, none, none]) [false, false, true, false, false, false] rfl rfl ?_
      exact K1 (by decide)
    · refine G_iload_n hX dX7_commonDivisor_18 rfl ?_
      refine G_iload_n hX dX7_commonDivisor_19 rfl ?_
      refine G_iremF hX dX7_commonDivisor_20 hf (fun hf => ?_)
      refine G_istoreF (lvf := fun v1 => [none, none, some (.int s2), some (.int s3), some (.int s4), some (.int v1)]) hX dX7_commonDivisor_21 rfl (Nat.le_of_ble_eq_true rfl) (fun _ => rfl) hf (fun v1 hf => ?_)
      refine G_iload_n hX dX7_commonDivisor_23 rfl ?_
      refine G_istore_n (lv' := [none, none, some (.int s3), some (.int s3), some (.int s4), some (.int v1)]) hX dX7_commonDivisor_24 rfl (Nat.le_of_ble_eq_true rfl) rfl ?_
      refine G_iload hX dX7_commonDivisor_25 rfl ?_
      refine G_istore_n (lv' := [none, none, some (.int s3), some (.int v1), some (.int s4), some (.int v1)]) hX dX7_commonDivisor_27 rfl (Nat.le_of_ble_eq_true rfl) rfl ?_
      refine G_iincF (lvf := fun v2 => [none, none, some (.int s3), some (.int v1), some (.int v2), some (.int v1)]) hX dX7_commonDivisor_28 rfl rfl rfl (Nat.le_of_ble_eq_true rfl) (fun _ => rfl) hf (fun v2 hf => ?_)
      refine G_goto (tgt := 7) hX dX7_commonDivisor_31 rfl ?_
      obtain ⟨rfl, rfl⟩ := ret2 hf
      refine G_mask (lv' := [none, none, some (.int s3), some (.int v1), some (.int v2), none]) [false, false, true, true, true, false] rfl rfl ?_
      exact K0 rfl
noncomputable def fX7_commonDivisor (p0 : Int32) (p1 : Int32) (u : Um) : Option Int32 :=
  bd4 (lp (fun s => fX7_commonDivisor_b7 p0 p1 s.1 s.2.1 s.2.2 u) fuel (p0, p1, (0 : Int32))) fun e6 v3 v4 v5 =>
  some (mxI 1 v3)
set_option maxHeartbeats 4000000 in
set_option maxRecDepth 100000 in
theorem mX7_commonDivisor (w : Wc) {p0 : Int32} {p1 : Int32}  {u : Um} {r : Int32} (hf : fX7_commonDivisor p0 p1 u = some r) : MC w 1 qX7_commonDivisor [.int p0, .int p1] u (some (.int r)) u := by
  unfold fX7_commonDivisor at hf
  refine MC_intro pnX7 (Nat.le_of_ble_eq_true rfl) (fun X hX hR _ _ => ?_)
  have hX : OKc w X RX7 cX7_commonDivisor 1 := hX
  have hR : RT w X (some .int) 0 0 Pst 133 false (some (.int r)) u := hR
  refine G_eql (lv' := [some (.int p0), some (.int p1), none, none, none, none]) rfl ?_
  refine G_iload_n hX dX7_commonDivisor_0 rfl ?_
  refine G_istore_n (lv' := [some (.int p0), some (.int p1), some (.int p0), none, none, none]) hX dX7_commonDivisor_1 rfl (Nat.le_of_ble_eq_true rfl) rfl ?_
  refine G_iload_n hX dX7_commonDivisor_2 rfl ?_
  refine G_istore_n (lv' := [some (.int p0), some (.int p1), some (.int p0), some (.int p1), none, none]) hX dX7_commonDivisor_3 rfl (Nat.le_of_ble_eq_true rfl) rfl ?_
  refine G_iconst (v := 0) hX dX7_commonDivisor_4 rfl ?_
  refine G_istore (lv' := [some (.int p0), some (.int p1), some (.int p0), some (.int p1), some (.int 0), none]) hX dX7_commonDivisor_5 rfl (Nat.le_of_ble_eq_true rfl) rfl ?_
  obtain ⟨e6, v3, v4, v5, h7, hf⟩ := bd4_some hf
  refine G_mask (lv' := [none, none, some (.int p0), some (.int p1), some (.int 0), none]) [false, false, true, true, true, false] rfl rfl ?_
  refine lp_G (body := (fun s => fX7_commonDivisor_b7 p0 p1 s.1 s.2.1 s.2.2 u)) (Gh := fun s => G w X Zm 7 [none, none, some (.int s.1), some (.int s.2.1), some (.int s.2.2), none] [] u) (Gx := fun e s => G w X Zm 34 [none, none, some (.int s.1), none, none, none] [] u) (fun s e s' hb K0 K1 => tX7_commonDivisor_b7 (s := s) (e := e) (s' := s') hX   hb K0 K1) fuel (p0, p1, (0 : Int32)) (e6, v3, v4, v5) h7 ?_
  refine G_iconst (v := 1) hX dX7_commonDivisor_34 rfl ?_
  refine G_iload_n hX dX7_commonDivisor_35 rfl ?_
  refine G_max hX cmX7_285 (Nat.le_of_ble_eq_true rfl) (Nat.le_of_ble_eq_true rfl) dX7_commonDivisor_36 ?_
  obtain rfl := Option.some.inj hf
  exact G_iret hX hR dX7_commonDivisor_39
noncomputable def fX7_gusts_j90 (p0 : Int32) (p1 : Int32) (p2 : Int32) (p3 : Int32) (j8 : Int32) (z0 : Int32) (u : Um) : Option Int32 :=
  if j8 = 0 then none else
  some (z0 / j8)
set_option maxHeartbeats 4000000 in
set_option maxRecDepth 100000 in
theorem tX7_gusts_j90 {w : Wc} {X : MX} (hX : OKc w X RX7 cX7_gusts 5) {p0 : Int32} {p1 : Int32} {p2 : Int32} {p3 : Int32} {j8 : Int32} {z0 : Int32} {u : Um} {r : Int32} (hR : RT w X (some .int) 0 0 Pst 133 false (some (.int r)) u) (hf : fX7_gusts_j90 p0 p1 p2 p3 j8 z0 u = some r) : G w X Zm 90 [none, none, none, none, none, none, none, none, some (.int j8)] [.int z0] u := by
  unfold fX7_gusts_j90 at hf
  refine G_iload hX dX7_gusts_90 rfl ?_
  refine G_idivF hX dX7_gusts_92 hf (fun hf => ?_)
  obtain rfl := Option.some.inj hf
  exact G_iret hX hR dX7_gusts_93
noncomputable def fX7_gusts (p0 : Int32) (p1 : Int32) (p2 : Int32) (p3 : Int32) (u : Um) : Option Int32 :=
  if p2 < 0 then
    some (-1)
  else
    if 10 < p2 then
      some (-1)
    else
      if p3 < 0 then
        some (-1)
      else
        if p3 ≤ 1 then
          bd1 (fX7_refuseCarrying p0 p1 u) fun v2 =>
          if v2 = 0 then
            bd1 (fX0_saying 3 p0 p1 u) fun v4 =>
            bd1 (fX0_need 3 p0 u) fun v6 =>
            nm (v4 - v6) fun v7 =>
            bd1 (fX7_waysOfGusts p2 v7 u) fun v9 =>
            bd1 (fX7_commonDivisor 1000 v9 u) fun v11 =>
            if p3 = 0 then
              fX7_gusts_j90 p0 p1 p2 p3 v11 v9 u
            else
              fX7_gusts_j90 p0 p1 p2 p3 v11 1000 u
          else
            some v2
        else
          some (-1)
set_option maxHeartbeats 4000000 in
set_option maxRecDepth 100000 in
theorem mX7_gusts (w : Wc) {p0 : Int32} {p1 : Int32} {p2 : Int32} {p3 : Int32}  {u : Um} {r : Int32} (hf : fX7_gusts p0 p1 p2 p3 u = some r) : MC w 5 qX7_gusts [.ref 0, .int p0, .int p1, .int p2, .int p3] u (some (.int r)) u := by
  unfold fX7_gusts at hf
  refine MC_intro pnX7 (Nat.le_of_ble_eq_true rfl) (fun X hX hR _ _ => ?_)
  have hX : OKc w X RX7 cX7_gusts 5 := hX
  have hR : RT w X (some .int) 0 0 Pst 133 false (some (.int r)) u := hR
  refine G_eql (lv' := [some (.ref 0), some (.int p0), some (.int p1), some (.int p2), some (.int p3), none, none, none, none]) rfl ?_
  refine G_iload_n hX dX7_gusts_0 rfl ?_
  refine G_if_lt (tgt := 21) hX dX7_gusts_1 rfl hf (fun hf => ?_) (fun hf => ?_)
  · refine G_iconst (v := (-1)) hX dX7_gusts_21 rfl ?_
    obtain rfl := Option.some.inj hf
    exact G_iret hX hR dX7_gusts_22
  · refine G_iload_n hX dX7_gusts_4 rfl ?_
    refine G_bipush (v := 10) hX dX7_gusts_5 rfl ?_
    refine G_icmp_gt (tgt := 21) hX dX7_gusts_7 rfl hf (fun hf => ?_) (fun hf => ?_)
    · refine G_iconst (v := (-1)) hX dX7_gusts_21 rfl ?_
      obtain rfl := Option.some.inj hf
      exact G_iret hX hR dX7_gusts_22
    · refine G_iload hX dX7_gusts_10 rfl ?_
      refine G_if_lt (tgt := 21) hX dX7_gusts_12 rfl hf (fun hf => ?_) (fun hf => ?_)
      · refine G_iconst (v := (-1)) hX dX7_gusts_21 rfl ?_
        obtain rfl := Option.some.inj hf
        exact G_iret hX hR dX7_gusts_22
      · refine G_iload hX dX7_gusts_15 rfl ?_
        refine G_iconst (v := 1) hX dX7_gusts_17 rfl ?_
        refine G_icmp_le (tgt := 23) hX dX7_gusts_18 rfl hf (fun hf => ?_) (fun hf => ?_)
        · refine G_aload_n hX dX7_gusts_23 rfl ?_
          refine G_iload_n hX dX7_gusts_24 rfl ?_
          refine G_iload_n hX dX7_gusts_25 rfl ?_
          obtain ⟨v2, h1, hf⟩ := bd1_some hf
          refine G_cV (as := [.int p0, .int p1]) (rest := []) hX cvX7_115 (mX7_refuseCarrying w h1) (Nat.le_of_ble_eq_true rfl) kK0 (Nat.le_of_ble_eq_true rfl) (Nat.le_of_ble_eq_true rfl) rfl rfl (Nat.le_of_ble_eq_true rfl) dX7_gusts_26 (st' := [.int v2]) rfl ?_
          refine G_istore (lv' := [some (.ref 0), some (.int p0), some (.int p1), some (.int p2), some (.int p3), some (.int v2), none, none, none]) hX dX7_gusts_29 rfl (Nat.le_of_ble_eq_true rfl) rfl ?_
          refine G_iload hX dX7_gusts_31 rfl ?_
          refine G_if_eq (tgt := 39) hX dX7_gusts_33 rfl hf (fun hf => ?_) (fun hf => ?_)
          · refine G_aload_n hX dX7_gusts_39 rfl ?_
            refine G_getR (i := 1) (t := 3) hX kK0 (Nat.le_of_ble_eq_true rfl) (Nat.le_of_ble_eq_true rfl) rfl pK0_1 flX7_19 dX7_gusts_40 ?_
            refine G_iload_n hX dX7_gusts_43 rfl ?_
            refine G_iload_n hX dX7_gusts_44 rfl ?_
            obtain ⟨v4, h3, hf⟩ := bd1_some hf
            refine G_cV (as := [.int p0, .int p1]) (rest := []) hX cvX7_153 (mX0_saying w kK3 h3) (Nat.le_of_ble_eq_true rfl) kK3 (Nat.le_of_ble_eq_true rfl) (Nat.le_of_ble_eq_true rfl) rfl rfl (Nat.le_of_ble_eq_true rfl) dX7_gusts_45 (st' := [.int v4]) rfl ?_
            refine G_aload_n hX dX7_gusts_48 rfl ?_
            refine G_getR (i := 1) (t := 3) hX kK0 (Nat.le_of_ble_eq_true rfl) (Nat.le_of_ble_eq_true rfl) rfl pK0_1 flX7_19 dX7_gusts_49 ?_
            refine G_iload_n hX dX7_gusts_52 rfl ?_
            obtain ⟨v6, h5, hf⟩ := bd1_some hf
            refine G_cV (as := [.int p0]) (rest := [.int v4]) hX cvX7_108 (mX0_need w kK3 h5) (Nat.le_of_ble_eq_true rfl) kK3 (Nat.le_of_ble_eq_true rfl) (Nat.le_of_ble_eq_true rfl) rfl rfl (Nat.le_of_ble_eq_true rfl) dX7_gusts_53 (st' := [.int v6, .int v4]) rfl ?_
            refine G_isub hX dX7_gusts_56 ?_
            refine G_istoreF (lvf := fun v7 => [some (.ref 0), some (.int p0), some (.int p1), some (.int p2), some (.int p3), some (.int v2), some (.int v7), none, none]) hX dX7_gusts_57 rfl (Nat.le_of_ble_eq_true rfl) (fun _ => rfl) hf (fun v7 hf => ?_)
            refine G_iload_n hX dX7_gusts_59 rfl ?_
            refine G_iload hX dX7_gusts_60 rfl ?_
            obtain ⟨v9, h8, hf⟩ := bd1_some hf
            refine G_cS (as := [.int p2, .int v7]) (rest := []) hX csX7_187 (mX7_waysOfGusts w h8) (Nat.le_of_ble_eq_true rfl) rfl rfl (Nat.le_of_ble_eq_true rfl) dX7_gusts_62 (st' := [.int v9]) rfl ?_
            refine G_istore (lv' := [some (.ref 0), some (.int p0), some (.int p1), some (.int p2), some (.int p3), some (.int v2), some (.int v7), some (.int v9), none]) hX dX7_gusts_65 rfl (Nat.le_of_ble_eq_true rfl) rfl ?_
            refine G_sipush (v := 1000) hX dX7_gusts_67 rfl ?_
            refine G_iload hX dX7_gusts_70 rfl ?_
            obtain ⟨v11, h10, hf⟩ := bd1_some hf
            refine G_cS (as := [.int 1000, .int v9]) (rest := []) hX csX7_190 (mX7_commonDivisor w h10) (Nat.le_of_ble_eq_true rfl) rfl rfl (Nat.le_of_ble_eq_true rfl) dX7_gusts_72 (st' := [.int v11]) rfl ?_
            refine G_istore (lv' := [some (.ref 0), some (.int p0), some (.int p1), some (.int p2), some (.int p3), some (.int v2), some (.int v7), some (.int v9), some (.int v11)]) hX dX7_gusts_75 rfl (Nat.le_of_ble_eq_true rfl) rfl ?_
            refine G_iload hX dX7_gusts_77 rfl ?_
            refine G_if_ne (tgt := 87) hX dX7_gusts_79 rfl hf (fun hf => ?_) (fun hf => ?_)
            · refine G_sipush (v := 1000) hX dX7_gusts_87 rfl ?_
              refine G_mask (lv' := [none, none, none, none, none, none, none, none, some (.int v11)]) [false, false, false, false, false, false, false, false, true] rfl rfl ?_
              exact tX7_gusts_j90 hX  hR hf
            · refine G_iload hX dX7_gusts_82 rfl ?_
              refine G_goto (tgt := 90) hX dX7_gusts_84 rfl ?_
              refine G_mask (lv' := [none, none, none, none, none, none, none, none, some (.int v11)]) [false, false, false, false, false, false, false, false, true] rfl rfl ?_
              exact tX7_gusts_j90 hX  hR hf
          · refine G_iload hX dX7_gusts_36 rfl ?_
            obtain rfl := Option.some.inj hf
            exact G_iret hX hR dX7_gusts_38
        · refine G_iconst (v := (-1)) hX dX7_gusts_21 rfl ?_
          obtain rfl := Option.some.inj hf
          exact G_iret hX hR dX7_gusts_22
noncomputable def fX7_drawDays_j96 (p0 : Nat) (p1 : Int32) (p2 : Int32) (i3 : Int32) (i4 : Int32) (j5 : Int64) (j7 : Int32) (u : Um) : Option (Nat × Int64 × Int32 × Um) :=
  nm (j7 + 1) fun v13 =>
  some (0, j5, v13, u)
set_option maxHeartbeats 4000000 in
set_option maxRecDepth 100000 in
theorem tX7_drawDays_j96 {w : Wc} {X : MX} (hX : OKc w X RX7 cX7_drawDays 6) {p0 : Nat} {p1 : Int32} {p2 : Int32} {i3 : Int32} {i4 : Int32} {j5 : Int64} {j7 : Int32} (hp0 : kd p0 = 0)  {u : Um} {e : Nat} {s' : Int64 × Int32 × Um} (K0 : e = 0 → G w X Zm 30 [some (.ref p0), some (.int p1), none, some (.int i3), some (.int i4), some (.long s'.1), none, some (.int s'.2.1), none, none] [] s'.2.2) (K1 : e ≠ 0 → G w X Zm 102 [none, none, none, none, none, none, none, none, none, none] [] s'.2.2) (hf : fX7_drawDays_j96 p0 p1 p2 i3 i4 j5 j7 u = some (e, s')) : G w X Zm 96 [some (.ref p0), some (.int p1), none, some (.int i3), some (.int i4), some (.long j5), none, some (.int j7), none, none] [] u := by
  unfold fX7_drawDays_j96 at hf
  refine G_iincF (lvf := fun v13 => [some (.ref p0), some (.int p1), none, some (.int i3), some (.int i4), some (.long j5), none, some (.int v13), none, none]) hX dX7_drawDays_96 rfl rfl rfl (Nat.le_of_ble_eq_true rfl) (fun _ => rfl) hf (fun v13 hf => ?_)
  refine G_goto (tgt := 30) hX dX7_drawDays_99 rfl ?_
  obtain ⟨rfl, rfl⟩ := ret2 hf
  refine G_mask (lv' := [some (.ref p0), some (.int p1), none, some (.int i3), some (.int i4), some (.long j5), none, some (.int v13), none, none]) [true, true, false, true, true, true, false, true, false, false] rfl rfl ?_
  exact K0 rfl
noncomputable def fX7_drawDays_b30 (p0 : Nat) (p1 : Int32) (p2 : Int32) (i3 : Int32) (i4 : Int32) (s5 : Int64) (s7 : Int32) (u : Um) : Option (Nat × Int64 × Int32 × Um) :=
  if p1 ≤ s7 then
    some (1, s5, s7, u)
  else
    nm (lrm (16807 * s5) 2147483647) fun v6 =>
    if ((i4 : Int32).toInt64) = 0 then none else
    nm (((lrm v6 ((i4 : Int32).toInt64)) : Int64).toInt32) fun v7 =>
    if ((i3 : Int32).toInt64) = 0 then none else
    nm (((lrm (v6 / 16) ((i3 : Int32).toInt64)) : Int64).toInt32) fun v8 =>
    bd1 (fX0_mayCarry p0 v7 v8 u) fun v10 =>
    if v10 = 0 then
      bd1 (fX0_nextDay p0 u) fun u12 =>
      fX7_drawDays_j96 p0 p1 p2 i3 i4 v6 s7 u12
    else
      bd2 (fX0_deliver p0 v7 v8 u) fun v15 u16 =>
      fX7_drawDays_j96 p0 p1 p2 i3 i4 v6 s7 u16
set_option maxHeartbeats 4000000 in
set_option maxRecDepth 100000 in
theorem tX7_drawDays_b30 {w : Wc} {X : MX} (hX : OKc w X RX7 cX7_drawDays 6) {p0 : Nat} {p1 : Int32} {p2 : Int32} {i3 : Int32} {i4 : Int32} (hp0 : kd p0 = 0) {s : Int64 × Int32 × Um} {e : Nat} {s' : Int64 × Int32 × Um} (hf : fX7_drawDays_b30 p0 p1 p2 i3 i4 s.1 s.2.1 s.2.2 = some (e, s')) (K0 : e = 0 → G w X Zm 30 [some (.ref p0), some (.int p1), none, some (.int i3), some (.int i4), some (.long s'.1), none, some (.int s'.2.1), none, none] [] s'.2.2) (K1 : e ≠ 0 → G w X Zm 102 [none, none, none, none, none, none, none, none, none, none] [] s'.2.2) : G w X Zm 30 [some (.ref p0), some (.int p1), none, some (.int i3), some (.int i4), some (.long s.1), none, some (.int s.2.1), none, none] [] s.2.2 := by
  obtain ⟨s5, s7, u⟩ := s
  unfold fX7_drawDays_b30 at hf
  try dsimp only at hf ⊢
  refine G_iload hX dX7_drawDays_30 rfl ?_
  refine G_iload_n hX dX7_drawDays_32 rfl ?_
  refine G_icmp_ge (tgt := 102) hX dX7_drawDays_33 rfl hf (fun hf => ?_) (fun hf => ?_)
  · obtain ⟨rfl, rfl⟩ := ret2 hf
    refine G_mask (lv' := [none, none, none, none, none, none, none, none, none, none]) [false, false, false, false, false, false, false, false, false, false] rfl rfl ?_
    exact K1 (by decide)
  · refine G_ldc2 (v := 16807) hX dX7_drawDays_36 wJ_X7_292 ?_
    refine G_lload hX dX7_drawDays_39 rfl ?_
    refine G_lmul hX dX7_drawDays_41 ?_
    refine G_ldc2 (v := 2147483647) hX dX7_drawDays_42 wJ_X7_294 ?_
    refine G_lrem hX dX7_drawDays_45 (by decide) ?_
    refine G_lstoreF (lvf := fun v6 => [some (.ref p0), some (.int p1), none, some (.int i3), some (.int i4), some (.long v6), none, some (.int s7), none, none]) hX dX7_drawDays_46 rfl (Nat.le_of_ble_eq_true rfl) (fun _ => rfl) hf (fun v6 hf => ?_)
    refine G_lload hX dX7_drawDays_48 rfl ?_
    refine G_iload hX dX7_drawDays_50 rfl ?_
    refine G_i2l hX dX7_drawDays_52 ?_
    refine G_lremF hX dX7_drawDays_53 hf (fun hf => ?_)
    refine G_l2i hX dX7_drawDays_54 ?_
    refine G_istoreF (lvf := fun v7 => [some (.ref p0), some (.int p1), none, some (.int i3), some (.int i4), some (.long v6), none, some (.int s7), some (.int v7), none]) hX dX7_drawDays_55 rfl (Nat.le_of_ble_eq_true rfl) (fun _ => rfl) hf (fun v7 hf => ?_)
    refine G_lload hX dX7_drawDays_57 rfl ?_
    refine G_ldc2 (v := 16) hX dX7_drawDays_59 wJ_X7_296 ?_
    refine G_ldiv hX dX7_drawDays_62 (by decide) ?_
    refine G_iload_n hX dX7_drawDays_63 rfl ?_
    refine G_i2l hX dX7_drawDays_64 ?_
    refine G_lremF hX dX7_drawDays_65 hf (fun hf => ?_)
    refine G_l2i hX dX7_drawDays_66 ?_
    refine G_istoreF (lvf := fun v8 => [some (.ref p0), some (.int p1), none, some (.int i3), some (.int i4), some (.long v6), none, some (.int s7), some (.int v7), some (.int v8)]) hX dX7_drawDays_67 rfl (Nat.le_of_ble_eq_true rfl) (fun _ => rfl) hf (fun v8 hf => ?_)
    refine G_aload_n hX dX7_drawDays_69 rfl ?_
    refine G_iload hX dX7_drawDays_70 rfl ?_
    refine G_iload hX dX7_drawDays_72 rfl ?_
    obtain ⟨v10, h9, hf⟩ := bd1_some hf
    refine G_cV (as := [.int v7, .int v8]) (rest := []) hX cvX7_269 (mX0_mayCarry w hp0 h9) (Nat.le_of_ble_eq_true rfl) hp0 (Nat.le_of_ble_eq_true rfl) (kd_lt hp0 (Nat.le_of_ble_eq_true rfl)) rfl rfl (Nat.le_of_ble_eq_true rfl) dX7_drawDays_74 (st' := [.int v10]) rfl ?_
    refine G_if_eq (tgt := 92) hX dX7_drawDays_77 rfl hf (fun hf => ?_) (fun hf => ?_)
    · refine G_aload_n hX dX7_drawDays_92 rfl ?_
      obtain ⟨u12, h11, hf⟩ := bd1_some hf
      refine G_cV (as := []) (rest := []) hX cvX7_139 (mX0_nextDay w hp0 h11) (Nat.le_of_ble_eq_true rfl) hp0 (Nat.le_of_ble_eq_true rfl) (kd_lt hp0 (Nat.le_of_ble_eq_true rfl)) rfl rfl (Nat.le_of_ble_eq_true rfl) dX7_drawDays_93 (st' := []) rfl ?_
      refine G_mask (lv' := [some (.ref p0), some (.int p1), none, some (.int i3), some (.int i4), some (.long v6), none, some (.int s7), none, none]) [true, true, false, true, true, true, false, true, false, false] rfl rfl ?_
      exact tX7_drawDays_j96 hX hp0 K0 K1 hf
    · refine G_aload_n hX dX7_drawDays_80 rfl ?_
      refine G_iload hX dX7_drawDays_81 rfl ?_
      refine G_iload hX dX7_drawDays_83 rfl ?_
      obtain ⟨v15, u16, h14, hf⟩ := bd2_some hf
      refine G_cV (as := [.int v7, .int v8]) (rest := []) hX cvX7_124 (mX0_deliver w hp0 h14) (Nat.le_of_ble_eq_true rfl) hp0 (Nat.le_of_ble_eq_true rfl) (kd_lt hp0 (Nat.le_of_ble_eq_true rfl)) rfl rfl (Nat.le_of_ble_eq_true rfl) dX7_drawDays_85 (st' := [.int v15]) rfl ?_
      refine G_pop hX dX7_drawDays_88 rfl ?_
      refine G_goto (tgt := 96) hX dX7_drawDays_89 rfl ?_
      refine G_mask (lv' := [some (.ref p0), some (.int p1), none, some (.int i3), some (.int i4), some (.long v6), none, some (.int s7), none, none]) [true, true, false, true, true, true, false, true, false, false] rfl rfl ?_
      exact tX7_drawDays_j96 hX hp0 K0 K1 hf
noncomputable def fX7_drawDays (p0 : Nat) (p1 : Int32) (p2 : Int32) (u : Um) : Option Um :=
  bd1 (fX0_people p0 u) fun v2 =>
  bd1 (fX0_wrongs p0 u) fun v4 =>
  if v2 < 1 then
    some u
  else
    if 1 ≤ v4 then
      nm ((p2 : Int32).toInt64) fun v5 =>
      bd4 (lp (fun s => fX7_drawDays_b30 p0 p1 p2 v2 v4 s.1 s.2.1 s.2.2) fuel (v5, (0 : Int32), u)) fun e20 v17 v18 u19 =>
      some u19
    else
      some u
set_option maxHeartbeats 4000000 in
set_option maxRecDepth 100000 in
theorem mX7_drawDays (w : Wc) {p0 : Nat} {p1 : Int32} {p2 : Int32} (hp0 : kd p0 = 0) {u : Um} {u' : Um} (hf : fX7_drawDays p0 p1 p2 u = some u') : MC w 6 qX7_drawDays [.ref p0, .int p1, .int p2] u none u' := by
  unfold fX7_drawDays at hf
  refine MC_intro pnX7 (Nat.le_of_ble_eq_true rfl) (fun X hX hR _ _ => ?_)
  have hX : OKc w X RX7 cX7_drawDays 6 := hX
  have hR : RT w X none 0 0 Pst 133 false none u' := hR
  refine G_eql (lv' := [some (.ref p0), some (.int p1), some (.int p2), none, none, none, none, none, none, none]) rfl ?_
  refine G_aload_n hX dX7_drawDays_0 rfl ?_
  obtain ⟨v2, h1, hf⟩ := bd1_some hf
  refine G_cV (as := []) (rest := []) hX cvX7_257 (mX0_people w hp0 h1) (Nat.le_of_ble_eq_true rfl) hp0 (Nat.le_of_ble_eq_true rfl) (kd_lt hp0 (Nat.le_of_ble_eq_true rfl)) rfl rfl (Nat.le_of_ble_eq_true rfl) dX7_drawDays_1 (st' := [.int v2]) rfl ?_
  refine G_istore_n (lv' := [some (.ref p0), some (.int p1), some (.int p2), some (.int v2), none, none, none, none, none, none]) hX dX7_drawDays_4 rfl (Nat.le_of_ble_eq_true rfl) rfl ?_
  refine G_aload_n hX dX7_drawDays_5 rfl ?_
  obtain ⟨v4, h3, hf⟩ := bd1_some hf
  refine G_cV (as := []) (rest := []) hX cvX7_87 (mX0_wrongs w hp0 h3) (Nat.le_of_ble_eq_true rfl) hp0 (Nat.le_of_ble_eq_true rfl) (kd_lt hp0 (Nat.le_of_ble_eq_true rfl)) rfl rfl (Nat.le_of_ble_eq_true rfl) dX7_drawDays_6 (st' := [.int v4]) rfl ?_
  refine G_istore (lv' := [some (.ref p0), some (.int p1), some (.int p2), some (.int v2), some (.int v4), none, none, none, none, none]) hX dX7_drawDays_9 rfl (Nat.le_of_ble_eq_true rfl) rfl ?_
  refine G_iload_n hX dX7_drawDays_11 rfl ?_
  refine G_iconst (v := 1) hX dX7_drawDays_12 rfl ?_
  refine G_icmp_lt (tgt := 22) hX dX7_drawDays_13 rfl hf (fun hf => ?_) (fun hf => ?_)
  · obtain rfl := Option.some.inj hf
    exact G_vret hX hR dX7_drawDays_22
  · refine G_iload hX dX7_drawDays_16 rfl ?_
    refine G_iconst (v := 1) hX dX7_drawDays_18 rfl ?_
    refine G_icmp_ge (tgt := 23) hX dX7_drawDays_19 rfl hf (fun hf => ?_) (fun hf => ?_)
    · refine G_iload_n hX dX7_drawDays_23 rfl ?_
      refine G_i2l hX dX7_drawDays_24 ?_
      refine G_lstoreF (lvf := fun v5 => [some (.ref p0), some (.int p1), some (.int p2), some (.int v2), some (.int v4), some (.long v5), none, none, none, none]) hX dX7_drawDays_25 rfl (Nat.le_of_ble_eq_true rfl) (fun _ => rfl) hf (fun v5 hf => ?_)
      refine G_iconst (v := 0) hX dX7_drawDays_27 rfl ?_
      refine G_istore (lv' := [some (.ref p0), some (.int p1), some (.int p2), some (.int v2), some (.int v4), some (.long v5), none, some (.int 0), none, none]) hX dX7_drawDays_28 rfl (Nat.le_of_ble_eq_true rfl) rfl ?_
      obtain ⟨e20, v17, v18, u19, h21, hf⟩ := bd4_some hf
      refine G_mask (lv' := [some (.ref p0), some (.int p1), none, some (.int v2), some (.int v4), some (.long v5), none, some (.int 0), none, none]) [true, true, false, true, true, true, false, true, false, false] rfl rfl ?_
      refine lp_G (body := (fun s => fX7_drawDays_b30 p0 p1 p2 v2 v4 s.1 s.2.1 s.2.2)) (Gh := fun s => G w X Zm 30 [some (.ref p0), some (.int p1), none, some (.int v2), some (.int v4), some (.long s.1), none, some (.int s.2.1), none, none] [] s.2.2) (Gx := fun e s => G w X Zm 102 [none, none, none, none, none, none, none, none, none, none] [] s.2.2) (fun s e s' hb K0 K1 => tX7_drawDays_b30 (s := s) (e := e) (s' := s') hX hp0  hb K0 K1) fuel (v5, (0 : Int32), u) (e20, v17, v18, u19) h21 ?_
      obtain rfl := Option.some.inj hf
      exact G_vret hX hR dX7_drawDays_102
    · obtain rfl := Option.some.inj hf
      exact G_vret hX hR dX7_drawDays_22
noncomputable def fX0_openSet_j26 (a : Nat) (j1 : Int32) (j2 : Int32) (u : Um) : Option (Nat × Int32 × Int32) :=
  nm (j2 + 1) fun v3 =>
  some (0, j1, v3)
set_option maxHeartbeats 4000000 in
set_option maxRecDepth 100000 in
theorem tX0_openSet_j26 {w : Wc} {X : MX} (hX : OKc w X RX0 cX0_openSet 3) {a : Nat} {j1 : Int32} {j2 : Int32} (ha : kd a = 0)  {u : Um} {e : Nat} {s' : Int32 × Int32} (K0 : e = 0 → G w X Zm 4 [some (.ref a), some (.int s'.1), some (.int s'.2)] [] u) (K1 : e ≠ 0 → G w X Zm 32 [none, some (.int s'.1), none] [] u) (hf : fX0_openSet_j26 a j1 j2 u = some (e, s')) : G w X Zm 26 [some (.ref a), some (.int j1), some (.int j2)] [] u := by
  unfold fX0_openSet_j26 at hf
  refine G_iincF (lvf := fun v3 => [some (.ref a), some (.int j1), some (.int v3)]) hX dX0_openSet_26 rfl rfl rfl (Nat.le_of_ble_eq_true rfl) (fun _ => rfl) hf (fun v3 hf => ?_)
  refine G_goto (tgt := 4) hX dX0_openSet_29 rfl ?_
  obtain ⟨rfl, rfl⟩ := ret2 hf
  refine G_mask (lv' := [some (.ref a), some (.int j1), some (.int v3)]) [true, true, true] rfl rfl ?_
  exact K0 rfl
noncomputable def fX0_openSet_b4 (a : Nat) (s1 : Int32) (s2 : Int32) (u : Um) : Option (Nat × Int32 × Int32) :=
  if (u.1 a 3) ≤ s2 then
    some (1, s1, s2)
  else
    bd1 (fX0_isOpen a s2 u) fun v2 =>
    if v2 = 0 then
      fX0_openSet_j26 a s1 s2 u
    else
      nm (s1 ||| ((1 : Int32) <<< (s2 &&& 31))) fun v4 =>
      fX0_openSet_j26 a v4 s2 u
set_option maxHeartbeats 4000000 in
set_option maxRecDepth 100000 in
theorem tX0_openSet_b4 {w : Wc} {X : MX} (hX : OKc w X RX0 cX0_openSet 3) {a : Nat} (ha : kd a = 0) {s : Int32 × Int32} {e : Nat} {s' : Int32 × Int32} {u : Um} (hf : fX0_openSet_b4 a s.1 s.2 u = some (e, s')) (K0 : e = 0 → G w X Zm 4 [some (.ref a), some (.int s'.1), some (.int s'.2)] [] u) (K1 : e ≠ 0 → G w X Zm 32 [none, some (.int s'.1), none] [] u) : G w X Zm 4 [some (.ref a), some (.int s.1), some (.int s.2)] [] u := by
  obtain ⟨s1, s2⟩ := s
  unfold fX0_openSet_b4 at hf
  try dsimp only at hf ⊢
  refine G_iload_n hX dX0_openSet_4 rfl ?_
  refine G_aload_n hX dX0_openSet_5 rfl ?_
  refine G_getI (i := 3) hX ha (Nat.le_of_ble_eq_true rfl) (kd_lt ha (Nat.le_of_ble_eq_true rfl)) rfl flX0_22 dX0_openSet_6 ?_
  refine G_icmp_ge (tgt := 32) hX dX0_openSet_9 rfl hf (fun hf => ?_) (fun hf => ?_)
  · obtain ⟨rfl, rfl⟩ := ret2 hf
    refine G_mask (lv' := [none, some (.int s1), none]) [false, true, false] rfl rfl ?_
    exact K1 (by decide)
  · refine G_aload_n hX dX0_openSet_12 rfl ?_
    refine G_iload_n hX dX0_openSet_13 rfl ?_
    obtain ⟨v2, h1, hf⟩ := bd1_some hf
    refine G_cV (as := [.int s2]) (rest := []) hX cvX0_68 (mX0_isOpen w ha h1) (Nat.le_of_ble_eq_true rfl) ha (Nat.le_of_ble_eq_true rfl) (kd_lt ha (Nat.le_of_ble_eq_true rfl)) rfl rfl (Nat.le_of_ble_eq_true rfl) dX0_openSet_14 (st' := [.int v2]) rfl ?_
    refine G_if_eq (tgt := 26) hX dX0_openSet_17 rfl hf (fun hf => ?_) (fun hf => ?_)
    · refine G_mask (lv' := [some (.ref a), some (.int s1), some (.int s2)]) [true, true, true] rfl rfl ?_
      exact tX0_openSet_j26 hX ha K0 K1 hf
    · refine G_iload_n hX dX0_openSet_20 rfl ?_
      refine G_iconst (v := 1) hX dX0_openSet_21 rfl ?_
      refine G_iload_n hX dX0_openSet_22 rfl ?_
      refine G_ishl hX dX0_openSet_23 ?_
      refine G_ior hX dX0_openSet_24 ?_
      refine G_istore_nF (lvf := fun v4 => [some (.ref a), some (.int v4), some (.int s2)]) hX dX0_openSet_25 rfl (Nat.le_of_ble_eq_true rfl) (fun _ => rfl) hf (fun v4 hf => ?_)
      refine G_mask (lv' := [some (.ref a), some (.int v4), some (.int s2)]) [true, true, true] rfl rfl ?_
      exact tX0_openSet_j26 hX ha K0 K1 hf
noncomputable def fX0_openSet (a : Nat) (u : Um) : Option Int32 :=
  bd3 (lp (fun s => fX0_openSet_b4 a s.1 s.2 u) fuel ((0 : Int32), (0 : Int32))) fun e7 v5 v6 =>
  some v5
set_option maxHeartbeats 4000000 in
set_option maxRecDepth 100000 in
theorem mX0_openSet (w : Wc) {a : Nat} (ha : kd a = 0) {u : Um} {r : Int32} (hf : fX0_openSet a u = some r) : MC w 3 qX0_openSet [.ref a] u (some (.int r)) u := by
  unfold fX0_openSet at hf
  refine MC_intro pnX0 (Nat.le_of_ble_eq_true rfl) (fun X hX hR _ _ => ?_)
  have hX : OKc w X RX0 cX0_openSet 3 := hX
  have hR : RT w X (some .int) 0 0 Pst 133 false (some (.int r)) u := hR
  refine G_eql (lv' := [some (.ref a), none, none]) rfl ?_
  refine G_iconst (v := 0) hX dX0_openSet_0 rfl ?_
  refine G_istore_n (lv' := [some (.ref a), some (.int 0), none]) hX dX0_openSet_1 rfl (Nat.le_of_ble_eq_true rfl) rfl ?_
  refine G_iconst (v := 0) hX dX0_openSet_2 rfl ?_
  refine G_istore_n (lv' := [some (.ref a), some (.int 0), some (.int 0)]) hX dX0_openSet_3 rfl (Nat.le_of_ble_eq_true rfl) rfl ?_
  obtain ⟨e7, v5, v6, h8, hf⟩ := bd3_some hf
  refine G_mask (lv' := [some (.ref a), some (.int 0), some (.int 0)]) [true, true, true] rfl rfl ?_
  refine lp_G (body := (fun s => fX0_openSet_b4 a s.1 s.2 u)) (Gh := fun s => G w X Zm 4 [some (.ref a), some (.int s.1), some (.int s.2)] [] u) (Gx := fun e s => G w X Zm 32 [none, some (.int s.1), none] [] u) (fun s e s' hb K0 K1 => tX0_openSet_b4 (s := s) (e := e) (s' := s') hX ha  hb K0 K1) fuel ((0 : Int32), (0 : Int32)) (e7, v5, v6) h8 ?_
  refine G_iload_n hX dX0_openSet_32 rfl ?_
  obtain rfl := Option.some.inj hf
  exact G_iret hX hR dX0_openSet_33
noncomputable def fJ6_bitCount_0f7a4 (p0 : Int32) (u : Um) : Option Int32 :=
  nm (p0 - (((p0.toUInt32 >>> ((1 : Int32).toUInt32 &&& Int32.toUInt32 31)).toInt32) &&& 1431655765)) fun v1 =>
  nm ((v1 &&& 858993459) + (((v1.toUInt32 >>> ((2 : Int32).toUInt32 &&& Int32.toUInt32 31)).toInt32) &&& 858993459)) fun v2 =>
  nm ((v2 + ((v2.toUInt32 >>> ((4 : Int32).toUInt32 &&& Int32.toUInt32 31)).toInt32)) &&& 252645135) fun v3 =>
  nm (v3 + ((v3.toUInt32 >>> ((8 : Int32).toUInt32 &&& Int32.toUInt32 31)).toInt32)) fun v4 =>
  nm (v4 + ((v4.toUInt32 >>> ((16 : Int32).toUInt32 &&& Int32.toUInt32 31)).toInt32)) fun v5 =>
  some (v5 &&& 63)
set_option maxHeartbeats 4000000 in
set_option maxRecDepth 100000 in
theorem mJ6_bitCount_0f7a4 (w : Wc) {p0 : Int32}  {u : Um} {r : Int32} (hf : fJ6_bitCount_0f7a4 p0 u = some r) : MC w 1 qJ6_bitCount_0f7a4 [.int p0] u (some (.int r)) u := by
  unfold fJ6_bitCount_0f7a4 at hf
  refine MC_intro pnJ6 (Nat.le_of_ble_eq_true rfl) (fun X hX hR _ _ => ?_)
  have hX : OKc w X RJ6 cJ6_bitCount_0f7a4 1 := hX
  have hR : RT w X (some .int) 0 0 Pst 133 false (some (.int r)) u := hR
  refine G_eql (lv' := [some (.int p0)]) rfl ?_
  refine G_iload_n hX dJ6_bitCount_0f7a4_0 rfl ?_
  refine G_iload_n hX dJ6_bitCount_0f7a4_1 rfl ?_
  refine G_iconst (v := 1) hX dJ6_bitCount_0f7a4_2 rfl ?_
  refine G_iushr hX dJ6_bitCount_0f7a4_3 ?_
  refine G_ldcw (v := 1431655765) hX dJ6_bitCount_0f7a4_4 wC_J6_265 ?_
  refine G_iand hX dJ6_bitCount_0f7a4_7 ?_
  refine G_isub hX dJ6_bitCount_0f7a4_8 ?_
  refine G_istore_nF (lvf := fun v1 => [some (.int v1)]) hX dJ6_bitCount_0f7a4_9 rfl (Nat.le_of_ble_eq_true rfl) (fun _ => rfl) hf (fun v1 hf => ?_)
  refine G_iload_n hX dJ6_bitCount_0f7a4_10 rfl ?_
  refine G_ldcw (v := 858993459) hX dJ6_bitCount_0f7a4_11 wC_J6_266 ?_
  refine G_iand hX dJ6_bitCount_0f7a4_14 ?_
  refine G_iload_n hX dJ6_bitCount_0f7a4_15 rfl ?_
  refine G_iconst (v := 2) hX dJ6_bitCount_0f7a4_16 rfl ?_
  refine G_iushr hX dJ6_bitCount_0f7a4_17 ?_
  refine G_ldcw (v := 858993459) hX dJ6_bitCount_0f7a4_18 wC_J6_266 ?_
  refine G_iand hX dJ6_bitCount_0f7a4_21 ?_
  refine G_iadd hX dJ6_bitCount_0f7a4_22 ?_
  refine G_istore_nF (lvf := fun v2 => [some (.int v2)]) hX dJ6_bitCount_0f7a4_23 rfl (Nat.le_of_ble_eq_true rfl) (fun _ => rfl) hf (fun v2 hf => ?_)
  refine G_iload_n hX dJ6_bitCount_0f7a4_24 rfl ?_
  refine G_iload_n hX dJ6_bitCount_0f7a4_25 rfl ?_
  refine G_iconst (v := 4) hX dJ6_bitCount_0f7a4_26 rfl ?_
  refine G_iushr hX dJ6_bitCount_0f7a4_27 ?_
  refine G_iadd hX dJ6_bitCount_0f7a4_28 ?_
  refine G_ldcw (v := 252645135) hX dJ6_bitCount_0f7a4_29 wC_J6_267 ?_
  refine G_iand hX dJ6_bitCount_0f7a4_32 ?_
  refine G_istore_nF (lvf := fun v3 => [some (.int v3)]) hX dJ6_bitCount_0f7a4_33 rfl (Nat.le_of_ble_eq_true rfl) (fun _ => rfl) hf (fun v3 hf => ?_)
  refine G_iload_n hX dJ6_bitCount_0f7a4_34 rfl ?_
  refine G_iload_n hX dJ6_bitCount_0f7a4_35 rfl ?_
  refine G_bipush (v := 8) hX dJ6_bitCount_0f7a4_36 rfl ?_
  refine G_iushr hX dJ6_bitCount_0f7a4_38 ?_
  refine G_iadd hX dJ6_bitCount_0f7a4_39 ?_
  refine G_istore_nF (lvf := fun v4 => [some (.int v4)]) hX dJ6_bitCount_0f7a4_40 rfl (Nat.le_of_ble_eq_true rfl) (fun _ => rfl) hf (fun v4 hf => ?_)
  refine G_iload_n hX dJ6_bitCount_0f7a4_41 rfl ?_
  refine G_iload_n hX dJ6_bitCount_0f7a4_42 rfl ?_
  refine G_bipush (v := 16) hX dJ6_bitCount_0f7a4_43 rfl ?_
  refine G_iushr hX dJ6_bitCount_0f7a4_45 ?_
  refine G_iadd hX dJ6_bitCount_0f7a4_46 ?_
  refine G_istore_nF (lvf := fun v5 => [some (.int v5)]) hX dJ6_bitCount_0f7a4_47 rfl (Nat.le_of_ble_eq_true rfl) (fun _ => rfl) hf (fun v5 hf => ?_)
  refine G_iload_n hX dJ6_bitCount_0f7a4_48 rfl ?_
  refine G_bipush (v := 63) hX dJ6_bitCount_0f7a4_49 rfl ?_
  refine G_iand hX dJ6_bitCount_0f7a4_51 ?_
  obtain rfl := Option.some.inj hf
  exact G_iret hX hR dJ6_bitCount_0f7a4_52
noncomputable def fX0_forgiven (a : Nat) (u : Um) : Option Int32 :=
  bd1 (fX0_openSet a u) fun v2 =>
  bd1 (fJ6_bitCount_0f7a4 v2 u) fun v4 =>
  some ((u.1 a 3) - v4)
set_option maxHeartbeats 4000000 in
set_option maxRecDepth 100000 in
theorem mX0_forgiven (w : Wc) {a : Nat} (ha : kd a = 0) {u : Um} {r : Int32} (hf : fX0_forgiven a u = some r) : MC w 4 qX0_forgiven [.ref a] u (some (.int r)) u := by
  unfold fX0_forgiven at hf
  refine MC_intro pnX0 (Nat.le_of_ble_eq_true rfl) (fun X hX hR _ _ => ?_)
  have hX : OKc w X RX0 cX0_forgiven 4 := hX
  have hR : RT w X (some .int) 0 0 Pst 133 false (some (.int r)) u := hR
  refine G_eql (lv' := [some (.ref a)]) rfl ?_
  refine G_aload_n hX dX0_forgiven_0 rfl ?_
  refine G_getI (i := 3) hX ha (Nat.le_of_ble_eq_true rfl) (kd_lt ha (Nat.le_of_ble_eq_true rfl)) rfl flX0_22 dX0_forgiven_1 ?_
  refine G_aload_n hX dX0_forgiven_4 rfl ?_
  obtain ⟨v2, h1, hf⟩ := bd1_some hf
  refine G_cV (as := []) (rest := [.int (u.1 a 3)]) hX cvX0_99 (mX0_openSet w ha h1) (Nat.le_of_ble_eq_true rfl) ha (Nat.le_of_ble_eq_true rfl) (kd_lt ha (Nat.le_of_ble_eq_true rfl)) rfl rfl (Nat.le_of_ble_eq_true rfl) dX0_forgiven_5 (st' := [.int v2, .int (u.1 a 3)]) rfl ?_
  obtain ⟨v4, h3, hf⟩ := bd1_some hf
  refine G_cS (as := [.int v2]) (rest := [.int (u.1 a 3)]) hX csX0_103 (mJ6_bitCount_0f7a4 w h3) (Nat.le_of_ble_eq_true rfl) rfl rfl (Nat.le_of_ble_eq_true rfl) dX0_forgiven_8 (st' := [.int v4, .int (u.1 a 3)]) rfl ?_
  refine G_isub hX dX0_forgiven_11 ?_
  obtain rfl := Option.some.inj hf
  exact G_iret hX hR dX0_forgiven_12
noncomputable def fX0_wonSet_j30 (a : Nat) (j1 : Int32) (j2 : Int32) (u : Um) : Option (Nat × Int32 × Int32) :=
  nm (j2 + 1) fun v3 =>
  some (0, j1, v3)
set_option maxHeartbeats 4000000 in
set_option maxRecDepth 100000 in
theorem tX0_wonSet_j30 {w : Wc} {X : MX} (hX : OKc w X RX0 cX0_wonSet 2) {a : Nat} {j1 : Int32} {j2 : Int32} (ha : kd a = 0)  {u : Um} {e : Nat} {s' : Int32 × Int32} (K0 : e = 0 → G w X Zm 4 [some (.ref a), some (.int s'.1), some (.int s'.2)] [] u) (K1 : e ≠ 0 → G w X Zm 36 [none, some (.int s'.1), none] [] u) (hf : fX0_wonSet_j30 a j1 j2 u = some (e, s')) : G w X Zm 30 [some (.ref a), some (.int j1), some (.int j2)] [] u := by
  unfold fX0_wonSet_j30 at hf
  refine G_iincF (lvf := fun v3 => [some (.ref a), some (.int j1), some (.int v3)]) hX dX0_wonSet_30 rfl rfl rfl (Nat.le_of_ble_eq_true rfl) (fun _ => rfl) hf (fun v3 hf => ?_)
  refine G_goto (tgt := 4) hX dX0_wonSet_33 rfl ?_
  obtain ⟨rfl, rfl⟩ := ret2 hf
  refine G_mask (lv' := [some (.ref a), some (.int j1), some (.int v3)]) [true, true, true] rfl rfl ?_
  exact K0 rfl
noncomputable def fX0_wonSet_b4 (a : Nat) (s1 : Int32) (s2 : Int32) (u : Um) : Option (Nat × Int32 × Int32) :=
  if (u.1 a 2) ≤ s2 then
    some (1, s1, s2)
  else
    bd1 (fX0_trait a s2 7 u) fun v2 =>
    if v2 = (-4) then
      fX0_wonSet_j30 a s1 s2 u
    else
      nm (s1 ||| ((1 : Int32) <<< (s2 &&& 31))) fun v4 =>
      fX0_wonSet_j30 a v4 s2 u
set_option maxHeartbeats 4000000 in
set_option maxRecDepth 100000 in
theorem tX0_wonSet_b4 {w : Wc} {X : MX} (hX : OKc w X RX0 cX0_wonSet 2) {a : Nat} (ha : kd a = 0) {s : Int32 × Int32} {e : Nat} {s' : Int32 × Int32} {u : Um} (hf : fX0_wonSet_b4 a s.1 s.2 u = some (e, s')) (K0 : e = 0 → G w X Zm 4 [some (.ref a), some (.int s'.1), some (.int s'.2)] [] u) (K1 : e ≠ 0 → G w X Zm 36 [none, some (.int s'.1), none] [] u) : G w X Zm 4 [some (.ref a), some (.int s.1), some (.int s.2)] [] u := by
  obtain ⟨s1, s2⟩ := s
  unfold fX0_wonSet_b4 at hf
  try dsimp only at hf ⊢
  refine G_iload_n hX dX0_wonSet_4 rfl ?_
  refine G_aload_n hX dX0_wonSet_5 rfl ?_
  refine G_getI (i := 2) hX ha (Nat.le_of_ble_eq_true rfl) (kd_lt ha (Nat.le_of_ble_eq_true rfl)) rfl flX0_18 dX0_wonSet_6 ?_
  refine G_icmp_ge (tgt := 36) hX dX0_wonSet_9 rfl hf (fun hf => ?_) (fun hf => ?_)
  · obtain ⟨rfl, rfl⟩ := ret2 hf
    refine G_mask (lv' := [none, some (.int s1), none]) [false, true, false] rfl rfl ?_
    exact K1 (by decide)
  · refine G_aload_n hX dX0_wonSet_12 rfl ?_
    refine G_iload_n hX dX0_wonSet_13 rfl ?_
    refine G_bipush (v := 7) hX dX0_wonSet_14 rfl ?_
    obtain ⟨v2, h1, hf⟩ := bd1_some hf
    refine G_cV (as := [.int s2, .int 7]) (rest := []) hX cvX0_45 (mX0_trait w ha h1) (Nat.le_of_ble_eq_true rfl) ha (Nat.le_of_ble_eq_true rfl) (kd_lt ha (Nat.le_of_ble_eq_true rfl)) rfl rfl (Nat.le_of_ble_eq_true rfl) dX0_wonSet_16 (st' := [.int v2]) rfl ?_
    refine G_bipush (v := (-4)) hX dX0_wonSet_19 rfl ?_
    refine G_icmp_eq (tgt := 30) hX dX0_wonSet_21 rfl hf (fun hf => ?_) (fun hf => ?_)
    · refine G_mask (lv' := [some (.ref a), some (.int s1), some (.int s2)]) [true, true, true] rfl rfl ?_
      exact tX0_wonSet_j30 hX ha K0 K1 hf
    · refine G_iload_n hX dX0_wonSet_24 rfl ?_
      refine G_iconst (v := 1) hX dX0_wonSet_25 rfl ?_
      refine G_iload_n hX dX0_wonSet_26 rfl ?_
      refine G_ishl hX dX0_wonSet_27 ?_
      refine G_ior hX dX0_wonSet_28 ?_
      refine G_istore_nF (lvf := fun v4 => [some (.ref a), some (.int v4), some (.int s2)]) hX dX0_wonSet_29 rfl (Nat.le_of_ble_eq_true rfl) (fun _ => rfl) hf (fun v4 hf => ?_)
      refine G_mask (lv' := [some (.ref a), some (.int v4), some (.int s2)]) [true, true, true] rfl rfl ?_
      exact tX0_wonSet_j30 hX ha K0 K1 hf
noncomputable def fX0_wonSet (a : Nat) (u : Um) : Option Int32 :=
  bd3 (lp (fun s => fX0_wonSet_b4 a s.1 s.2 u) fuel ((0 : Int32), (0 : Int32))) fun e7 v5 v6 =>
  some v5
set_option maxHeartbeats 4000000 in
set_option maxRecDepth 100000 in
theorem mX0_wonSet (w : Wc) {a : Nat} (ha : kd a = 0) {u : Um} {r : Int32} (hf : fX0_wonSet a u = some r) : MC w 2 qX0_wonSet [.ref a] u (some (.int r)) u := by
  unfold fX0_wonSet at hf
  refine MC_intro pnX0 (Nat.le_of_ble_eq_true rfl) (fun X hX hR _ _ => ?_)
  have hX : OKc w X RX0 cX0_wonSet 2 := hX
  have hR : RT w X (some .int) 0 0 Pst 133 false (some (.int r)) u := hR
  refine G_eql (lv' := [some (.ref a), none, none]) rfl ?_
  refine G_iconst (v := 0) hX dX0_wonSet_0 rfl ?_
  refine G_istore_n (lv' := [some (.ref a), some (.int 0), none]) hX dX0_wonSet_1 rfl (Nat.le_of_ble_eq_true rfl) rfl ?_
  refine G_iconst (v := 0) hX dX0_wonSet_2 rfl ?_
  refine G_istore_n (lv' := [some (.ref a), some (.int 0), some (.int 0)]) hX dX0_wonSet_3 rfl (Nat.le_of_ble_eq_true rfl) rfl ?_
  obtain ⟨e7, v5, v6, h8, hf⟩ := bd3_some hf
  refine G_mask (lv' := [some (.ref a), some (.int 0), some (.int 0)]) [true, true, true] rfl rfl ?_
  refine lp_G (body := (fun s => fX0_wonSet_b4 a s.1 s.2 u)) (Gh := fun s => G w X Zm 4 [some (.ref a), some (.int s.1), some (.int s.2)] [] u) (Gx := fun e s => G w X Zm 36 [none, some (.int s.1), none] [] u) (fun s e s' hb K0 K1 => tX0_wonSet_b4 (s := s) (e := e) (s' := s') hX ha  hb K0 K1) fuel ((0 : Int32), (0 : Int32)) (e7, v5, v6) h8 ?_
  refine G_iload_n hX dX0_wonSet_36 rfl ?_
  obtain rfl := Option.some.inj hf
  exact G_iret hX hR dX0_wonSet_37
noncomputable def fX7_decades (p0 : Int32) (p1 : Int32) (p2 : Int32) (u : Um) : Option (Int32 × Um) :=
  if p0 < 0 then
    some ((-1), u)
  else
    if 60 < p0 then
      some ((-1), u)
    else
      if p1 < 1 then
        some ((-1), u)
      else
        if 999999 < p1 then
          some ((-1), u)
        else
          if p2 < 0 then
            some ((-1), u)
          else
            if p2 ≤ 1 then
              bd1 (fX0_stands 3 u) fun v2 =>
              if v2 = 0 then
                some ((-2), u)
              else
                bd1 (fX0_copyFrom 6 3 u) fun u4 =>
                bd1 (fX7_drawDays 6 p0 p1 u4) fun u6 =>
                if p2 = 0 then
                  bd1 (fX0_forgiven 6 u6) fun v10 =>
                  some (v10, u6)
                else
                  bd1 (fX0_wonSet 6 u6) fun v8 =>
                  some (v8, u6)
            else
              some ((-1), u)
set_option maxHeartbeats 4000000 in
set_option maxRecDepth 100000 in
theorem mX7_decades (w : Wc) {p0 : Int32} {p1 : Int32} {p2 : Int32}  {u : Um} {r : Int32} {u' : Um} (hf : fX7_decades p0 p1 p2 u = some (r, u')) : MC w 7 qX7_decades [.ref 0, .int p0, .int p1, .int p2] u (some (.int r)) u' := by
  unfold fX7_decades at hf
  refine MC_intro pnX7 (Nat.le_of_ble_eq_true rfl) (fun X hX hR _ _ => ?_)
  have hX : OKc w X RX7 cX7_decades 7 := hX
  have hR : RT w X (some .int) 0 0 Pst 133 false (some (.int r)) u' := hR
  refine G_eql (lv' := [some (.ref 0), some (.int p0), some (.int p1), some (.int p2)]) rfl ?_
  refine G_iload_n hX dX7_decades_0 rfl ?_
  refine G_if_lt (tgt := 30) hX dX7_decades_1 rfl hf (fun hf => ?_) (fun hf => ?_)
  · refine G_iconst (v := (-1)) hX dX7_decades_30 rfl ?_
    obtain ⟨rfl, rfl⟩ := ret2 hf
    exact G_iret hX hR dX7_decades_31
  · refine G_iload_n hX dX7_decades_4 rfl ?_
    refine G_bipush (v := 60) hX dX7_decades_5 rfl ?_
    refine G_icmp_gt (tgt := 30) hX dX7_decades_7 rfl hf (fun hf => ?_) (fun hf => ?_)
    · refine G_iconst (v := (-1)) hX dX7_decades_30 rfl ?_
      obtain ⟨rfl, rfl⟩ := ret2 hf
      exact G_iret hX hR dX7_decades_31
    · refine G_iload_n hX dX7_decades_10 rfl ?_
      refine G_iconst (v := 1) hX dX7_decades_11 rfl ?_
      refine G_icmp_lt (tgt := 30) hX dX7_decades_12 rfl hf (fun hf => ?_) (fun hf => ?_)
      · refine G_iconst (v := (-1)) hX dX7_decades_30 rfl ?_
        obtain ⟨rfl, rfl⟩ := ret2 hf
        exact G_iret hX hR dX7_decades_31
      · refine G_iload_n hX dX7_decades_15 rfl ?_
        refine G_ldc (v := 999999) hX dX7_decades_16 wC_X7_193 ?_
        refine G_icmp_gt (tgt := 30) hX dX7_decades_18 rfl hf (fun hf => ?_) (fun hf => ?_)
        · refine G_iconst (v := (-1)) hX dX7_decades_30 rfl ?_
          obtain ⟨rfl, rfl⟩ := ret2 hf
          exact G_iret hX hR dX7_decades_31
        · refine G_iload_n hX dX7_decades_21 rfl ?_
          refine G_if_lt (tgt := 30) hX dX7_decades_22 rfl hf (fun hf => ?_) (fun hf => ?_)
          · refine G_iconst (v := (-1)) hX dX7_decades_30 rfl ?_
            obtain ⟨rfl, rfl⟩ := ret2 hf
            exact G_iret hX hR dX7_decades_31
          · refine G_iload_n hX dX7_decades_25 rfl ?_
            refine G_iconst (v := 1) hX dX7_decades_26 rfl ?_
            refine G_icmp_le (tgt := 32) hX dX7_decades_27 rfl hf (fun hf => ?_) (fun hf => ?_)
            · refine G_aload_n hX dX7_decades_32 rfl ?_
              refine G_getR (i := 1) (t := 3) hX kK0 (Nat.le_of_ble_eq_true rfl) (Nat.le_of_ble_eq_true rfl) rfl pK0_1 flX7_19 dX7_decades_33 ?_
              obtain ⟨v2, h1, hf⟩ := bd1_some hf
              refine G_cV (as := []) (rest := []) hX cvX7_135 (mX0_stands w kK3 h1) (Nat.le_of_ble_eq_true rfl) kK3 (Nat.le_of_ble_eq_true rfl) (Nat.le_of_ble_eq_true rfl) rfl rfl (Nat.le_of_ble_eq_true rfl) dX7_decades_36 (st' := [.int v2]) rfl ?_
              refine G_if_ne (tgt := 45) hX dX7_decades_39 rfl hf (fun hf => ?_) (fun hf => ?_)
              · refine G_aload_n hX dX7_decades_45 rfl ?_
                refine G_getR (i := 2) (t := 6) hX kK0 (Nat.le_of_ble_eq_true rfl) (Nat.le_of_ble_eq_true rfl) rfl pK0_2 flX7_23 dX7_decades_46 ?_
                refine G_aload_n hX dX7_decades_49 rfl ?_
                refine G_getR (i := 1) (t := 3) hX kK0 (Nat.le_of_ble_eq_true rfl) (Nat.le_of_ble_eq_true rfl) rfl pK0_1 flX7_19 dX7_decades_50 ?_
                obtain ⟨u4, h3, hf⟩ := bd1_some hf
                refine G_cV (as := [.ref 3]) (rest := []) hX cvX7_80 (mX0_copyFrom w kK6 kK3 h3) (Nat.le_of_ble_eq_true rfl) kK6 (Nat.le_of_ble_eq_true rfl) (Nat.le_of_ble_eq_true rfl) rfl rfl (Nat.le_of_ble_eq_true rfl) dX7_decades_53 (st' := []) rfl ?_
                refine G_aload_n hX dX7_decades_56 rfl ?_
                refine G_getR (i := 2) (t := 6) hX kK0 (Nat.le_of_ble_eq_true rfl) (Nat.le_of_ble_eq_true rfl) rfl pK0_2 flX7_23 dX7_decades_57 ?_
                refine G_iload_n hX dX7_decades_60 rfl ?_
                refine G_iload_n hX dX7_decades_61 rfl ?_
                obtain ⟨u6, h5, hf⟩ := bd1_some hf
                refine G_cS (as := [.ref 6, .int p0, .int p1]) (rest := []) hX csX7_194 (mX7_drawDays w kK6 h5) (Nat.le_of_ble_eq_true rfl) rfl rfl (Nat.le_of_ble_eq_true rfl) dX7_decades_62 (st' := []) rfl ?_
                refine G_iload_n hX dX7_decades_65 rfl ?_
                refine G_if_ne (tgt := 79) hX dX7_decades_66 rfl hf (fun hf => ?_) (fun hf => ?_)
                · refine G_aload_n hX dX7_decades_79 rfl ?_
                  refine G_getR (i := 2) (t := 6) hX kK0 (Nat.le_of_ble_eq_true rfl) (Nat.le_of_ble_eq_true rfl) rfl pK0_2 flX7_23 dX7_decades_80 ?_
                  obtain ⟨v8, h7, hf⟩ := bd1_some hf
                  refine G_cV (as := []) (rest := []) hX cvX7_199 (mX0_wonSet w kK6 h7) (Nat.le_of_ble_eq_true rfl) kK6 (Nat.le_of_ble_eq_true rfl) (Nat.le_of_ble_eq_true rfl) rfl rfl (Nat.le_of_ble_eq_true rfl) dX7_decades_83 (st' := [.int v8]) rfl ?_
                  obtain ⟨rfl, rfl⟩ := ret2 hf
                  exact G_iret hX hR dX7_decades_86
                · refine G_aload_n hX dX7_decades_69 rfl ?_
                  refine G_getR (i := 2) (t := 6) hX kK0 (Nat.le_of_ble_eq_true rfl) (Nat.le_of_ble_eq_true rfl) rfl pK0_2 flX7_23 dX7_decades_70 ?_
                  obtain ⟨v10, h9, hf⟩ := bd1_some hf
                  refine G_cV (as := []) (rest := []) hX cvX7_198 (mX0_forgiven w kK6 h9) (Nat.le_of_ble_eq_true rfl) kK6 (Nat.le_of_ble_eq_true rfl) (Nat.le_of_ble_eq_true rfl) rfl rfl (Nat.le_of_ble_eq_true rfl) dX7_decades_73 (st' := [.int v10]) rfl ?_
                  refine G_goto (tgt := 86) hX dX7_decades_76 rfl ?_
                  obtain ⟨rfl, rfl⟩ := ret2 hf
                  exact G_iret hX hR dX7_decades_86
              · refine G_bipush (v := (-2)) hX dX7_decades_42 rfl ?_
                obtain ⟨rfl, rfl⟩ := ret2 hf
                exact G_iret hX hR dX7_decades_44
            · refine G_iconst (v := (-1)) hX dX7_decades_30 rfl ?_
              obtain ⟨rfl, rfl⟩ := ret2 hf
              exact G_iret hX hR dX7_decades_31
noncomputable def fX7_sheetAt (p0 : Int32) (u : Um) : Option (Option Nat) :=
  if p0 < 0 then
    some none
  else
    if p0 < 4 then
      if inb p0 4 = true then
      some (some (91 + 2 * p0.toNatClampNeg))
      else none
    else
      some none
set_option maxHeartbeats 4000000 in
set_option maxRecDepth 100000 in
theorem mX7_sheetAt (w : Wc) {p0 : Int32}  {u : Um} {r : Option Nat} (hf : fX7_sheetAt p0 u = some r) : MC w 1 qX7_sheetAt [.ref 0, .int p0] u (some (va_rf r)) u := by
  unfold fX7_sheetAt at hf
  refine MC_intro pnX7 (Nat.le_of_ble_eq_true rfl) (fun X hX hR _ _ => ?_)
  have hX : OKc w X RX7 cX7_sheetAt 1 := hX
  have hR : RT w X (some (.object "RivalSorry$Sheet")) 0 0 Pst 133 false (some (va_rf r)) u := hR
  refine G_eql (lv' := [some (.ref 0), some (.int p0)]) rfl ?_
  refine G_iload_n hX dX7_sheetAt_0 rfl ?_
  refine G_if_lt (tgt := 13) hX dX7_sheetAt_1 rfl hf (fun hf => ?_) (fun hf => ?_)
  · refine G_null hX dX7_sheetAt_13 ?_
    refine G_goto (tgt := 23) hX dX7_sheetAt_14 rfl ?_
    obtain rfl := Option.some.inj hf
    exact G_aretN hX hR dX7_sheetAt_23
  · refine G_iload_n hX dX7_sheetAt_4 rfl ?_
    refine G_aload_n hX dX7_sheetAt_5 rfl ?_
    refine G_getR (i := 5) (t := 90) hX kK0 (Nat.le_of_ble_eq_true rfl) (Nat.le_of_ble_eq_true rfl) rfl pK0_5 flX7_40 dX7_sheetAt_6 ?_
    refine G_alenS (n := 4) (v := 4) hX kK90 lK90 (Nat.le_of_ble_eq_true rfl) dX7_sheetAt_9 rfl ?_
    refine G_icmp_lt (tgt := 17) hX dX7_sheetAt_10 rfl hf (fun hf => ?_) (fun hf => ?_)
    · refine G_aload_n hX dX7_sheetAt_17 rfl ?_
      refine G_getR (i := 5) (t := 90) hX kK0 (Nat.le_of_ble_eq_true rfl) (Nat.le_of_ble_eq_true rfl) rfl pK0_5 flX7_40 dX7_sheetAt_18 ?_
      refine G_iload_n hX dX7_sheetAt_21 rfl ?_
      refine G_aaldS (n := 4) (t := (91 + 2 * p0.toNatClampNeg)) hX kK90 lK90 (Nat.le_of_ble_eq_true rfl) (PaS kK90 lK90) dX7_sheetAt_22 hf (fun hf => ?_)
      obtain rfl := Option.some.inj hf
      exact G_aret hX hR dX7_sheetAt_23
    · refine G_null hX dX7_sheetAt_13 ?_
      refine G_goto (tgt := 23) hX dX7_sheetAt_14 rfl ?_
      obtain rfl := Option.some.inj hf
      exact G_aretN hX hR dX7_sheetAt_23
noncomputable def fX7_isLane (p0 : Int32) (u : Um) : Option Int32 :=
  if p0 < 0 then
    some 0
  else
    if 4 ≤ p0 then
      some 0
    else
      some 1
set_option maxHeartbeats 4000000 in
set_option maxRecDepth 100000 in
theorem mX7_isLane (w : Wc) {p0 : Int32}  {u : Um} {r : Int32} (hf : fX7_isLane p0 u = some r) : MC w 1 qX7_isLane [.int p0] u (some (.int r)) u := by
  unfold fX7_isLane at hf
  refine MC_intro pnX7 (Nat.le_of_ble_eq_true rfl) (fun X hX hR _ _ => ?_)
  have hX : OKc w X RX7 cX7_isLane 1 := hX
  have hR : RT w X (some .boolean) 0 0 Pst 133 false (some (.int r)) u := hR
  refine G_eql (lv' := [some (.int p0)]) rfl ?_
  refine G_iload_n hX dX7_isLane_0 rfl ?_
  refine G_if_lt (tgt := 13) hX dX7_isLane_1 rfl hf (fun hf => ?_) (fun hf => ?_)
  · refine G_iconst (v := 0) hX dX7_isLane_13 rfl ?_
    obtain rfl := Option.some.inj hf
    exact G_zret hX hR (by decide) dX7_isLane_14
  · refine G_iload_n hX dX7_isLane_4 rfl ?_
    refine G_iconst (v := 4) hX dX7_isLane_5 rfl ?_
    refine G_icmp_ge (tgt := 13) hX dX7_isLane_6 rfl hf (fun hf => ?_) (fun hf => ?_)
    · refine G_iconst (v := 0) hX dX7_isLane_13 rfl ?_
      obtain rfl := Option.some.inj hf
      exact G_zret hX hR (by decide) dX7_isLane_14
    · refine G_iconst (v := 1) hX dX7_isLane_9 rfl ?_
      refine G_goto (tgt := 14) hX dX7_isLane_10 rfl ?_
      obtain rfl := Option.some.inj hf
      exact G_zret hX hR (by decide) dX7_isLane_14
noncomputable def fJ7_fill_d0a16_b6 (p0 : Nat) (p1 : Int64) (i4 : Int32) (s3 : Int32) (u : Um) : Option (Nat × Int32 × Um) :=
  if i4 ≤ s3 then
    some (1, s3, u)
  else
    if inb s3 (ln p0) = true then
    nm (sJ u p0 s3.toNatClampNeg p1) fun u2 =>
    nm (s3 + 1) fun v3 =>
    some (0, v3, u2)
    else none
set_option maxHeartbeats 4000000 in
set_option maxRecDepth 100000 in
theorem tJ7_fill_d0a16_b6 {w : Wc} {X : MX} (hX : OKc w X RJ7 cJ7_fill_d0a16 1) {p0 : Nat} {p1 : Int64} {i4 : Int32} (hp0 : kd p0 = 10) {s : Int32 × Um} {e : Nat} {s' : Int32 × Um} (hf : fJ7_fill_d0a16_b6 p0 p1 i4 s.1 s.2 = some (e, s')) (K0 : e = 0 → G w X Zm 6 [some (.ref p0), some (.long p1), none, some (.int s'.1), some (.int i4)] [] s'.2) (K1 : e ≠ 0 → G w X Zm 22 [none, none, none, none, none] [] s'.2) : G w X Zm 6 [some (.ref p0), some (.long p1), none, some (.int s.1), some (.int i4)] [] s.2 := by
  obtain ⟨s3, u⟩ := s
  unfold fJ7_fill_d0a16_b6 at hf
  try dsimp only at hf ⊢
  refine G_iload_n hX dJ7_fill_d0a16_6 rfl ?_
  refine G_iload hX dJ7_fill_d0a16_7 rfl ?_
  refine G_icmp_ge (tgt := 22) hX dJ7_fill_d0a16_9 rfl hf (fun hf => ?_) (fun hf => ?_)
  · obtain ⟨rfl, rfl⟩ := ret2 hf
    refine G_mask (lv' := [none, none, none, none, none]) [false, false, false, false, false] rfl rfl ?_
    exact K1 (by decide)
  · refine G_aload_n hX dJ7_fill_d0a16_12 rfl ?_
    refine G_iload_n hX dJ7_fill_d0a16_13 rfl ?_
    refine G_lload_n hX dJ7_fill_d0a16_14 rfl ?_
    refine G_last (n := (ln p0)) hX hp0 rfl (kd_lt hp0 (Nat.le_of_ble_eq_true rfl)) rfl dJ7_fill_d0a16_15 hf (fun u2 hf => ?_)
    refine G_iincF (lvf := fun v3 => [some (.ref p0), some (.long p1), none, some (.int v3), some (.int i4)]) hX dJ7_fill_d0a16_16 rfl rfl rfl (Nat.le_of_ble_eq_true rfl) (fun _ => rfl) hf (fun v3 hf => ?_)
    refine G_goto (tgt := 6) hX dJ7_fill_d0a16_19 rfl ?_
    obtain ⟨rfl, rfl⟩ := ret2 hf
    refine G_mask (lv' := [some (.ref p0), some (.long p1), none, some (.int v3), some (.int i4)]) [true, true, false, true, true] rfl rfl ?_
    exact K0 rfl
noncomputable def fJ7_fill_d0a16 (p0 : Nat) (p1 : Int64) (u : Um) : Option Um :=
  nm (Int32.ofNat (ln p0)) fun v1 =>
  bd3 (lp (fun s => fJ7_fill_d0a16_b6 p0 p1 v1 s.1 s.2) fuel ((0 : Int32), u)) fun e6 v4 u5 =>
  some u5
set_option maxHeartbeats 4000000 in
set_option maxRecDepth 100000 in
theorem mJ7_fill_d0a16 (w : Wc) {p0 : Nat} {p1 : Int64} (hp0 : kd p0 = 10) {u : Um} {u' : Um} (hf : fJ7_fill_d0a16 p0 p1 u = some u') : MC w 1 qJ7_fill_d0a16 [.ref p0, .long p1] u none u' := by
  unfold fJ7_fill_d0a16 at hf
  refine MC_intro pnJ7 (Nat.le_of_ble_eq_true rfl) (fun X hX hR _ _ => ?_)
  have hX : OKc w X RJ7 cJ7_fill_d0a16 1 := hX
  have hR : RT w X none 0 0 Pst 133 false none u' := hR
  refine G_eql (lv' := [some (.ref p0), some (.long p1), none, none, none]) rfl ?_
  refine G_iconst (v := 0) hX dJ7_fill_d0a16_0 rfl ?_
  refine G_istore_n (lv' := [some (.ref p0), some (.long p1), none, some (.int 0), none]) hX dJ7_fill_d0a16_1 rfl (Nat.le_of_ble_eq_true rfl) rfl ?_
  refine G_aload_n hX dJ7_fill_d0a16_2 rfl ?_
  refine G_alenJ (n := (ln p0)) (v := (Int32.ofNat (ln p0))) hX hp0 rfl (kd_lt hp0 (Nat.le_of_ble_eq_true rfl)) dJ7_fill_d0a16_3 rfl ?_
  refine G_istoreF (lvf := fun v1 => [some (.ref p0), some (.long p1), none, some (.int 0), some (.int v1)]) hX dJ7_fill_d0a16_4 rfl (Nat.le_of_ble_eq_true rfl) (fun _ => rfl) hf (fun v1 hf => ?_)
  obtain ⟨e6, v4, u5, h7, hf⟩ := bd3_some hf
  refine G_mask (lv' := [some (.ref p0), some (.long p1), none, some (.int 0), some (.int v1)]) [true, true, false, true, true] rfl rfl ?_
  refine lp_G (body := (fun s => fJ7_fill_d0a16_b6 p0 p1 v1 s.1 s.2)) (Gh := fun s => G w X Zm 6 [some (.ref p0), some (.long p1), none, some (.int s.1), some (.int v1)] [] s.2) (Gx := fun e s => G w X Zm 22 [none, none, none, none, none] [] s.2) (fun s e s' hb K0 K1 => tJ7_fill_d0a16_b6 (s := s) (e := e) (s' := s') hX hp0  hb K0 K1) fuel ((0 : Int32), u) (e6, v4, u5) h7 ?_
  obtain rfl := Option.some.inj hf
  exact G_vret hX hR dJ7_fill_d0a16_22
noncomputable def fX5_lay (a : Nat) (p0 : Int32) (p1 : Int32) (u : Um) : Option Um :=
  bd1 (fJ7_fill_d0a16 (a + 1) 0 u) fun u2 =>
  nm (sI u2 a 1 p0) fun u3 =>
  nm (sI u3 a 2 p1) fun u4 =>
  some u4
set_option maxHeartbeats 4000000 in
set_option maxRecDepth 100000 in
theorem mX5_lay (w : Wc) {a : Nat} {p0 : Int32} {p1 : Int32} (ha : kd a = 5) {u : Um} {u' : Um} (hf : fX5_lay a p0 p1 u = some u') : MC w 2 qX5_lay [.ref a, .int p0, .int p1] u none u' := by
  unfold fX5_lay at hf
  refine MC_intro pnX5 (Nat.le_of_ble_eq_true rfl) (fun X hX hR _ _ => ?_)
  have hX : OKc w X RX5 cX5_lay 2 := hX
  have hR : RT w X none 0 0 Pst 133 false none u' := hR
  refine G_eql (lv' := [some (.ref a), some (.int p0), some (.int p1)]) rfl ?_
  refine G_aload_n hX dX5_lay_0 rfl ?_
  refine G_getR (i := 0) (t := (a + 1)) hX ha (Nat.le_of_ble_eq_true rfl) (kd_lt ha (Nat.le_of_ble_eq_true rfl)) rfl (PS1 ha) flX5_9 dX5_lay_1 ?_
  refine G_lconst (v := 0) hX dX5_lay_4 rfl ?_
  obtain ⟨u2, h1, hf⟩ := bd1_some hf
  refine G_cS (as := [.ref (a + 1), .long 0]) (rest := []) hX csX5_19 (mJ7_fill_d0a16 w (kS1 ha) h1) (Nat.le_of_ble_eq_true rfl) rfl rfl (Nat.le_of_ble_eq_true rfl) dX5_lay_5 (st' := []) rfl ?_
  refine G_aload_n hX dX5_lay_8 rfl ?_
  refine G_iload_n hX dX5_lay_9 rfl ?_
  refine G_putI (i := 1) hX ha (Nat.le_of_ble_eq_true rfl) (kd_lt ha (Nat.le_of_ble_eq_true rfl)) rfl rfl flX5_15 fwX5_1 dX5_lay_10 hf (fun u3 hf => ?_)
  refine G_aload_n hX dX5_lay_13 rfl ?_
  refine G_iload_n hX dX5_lay_14 rfl ?_
  refine G_putI (i := 2) hX ha (Nat.le_of_ble_eq_true rfl) (kd_lt ha (Nat.le_of_ble_eq_true rfl)) rfl rfl flX5_25 fwX5_2 dX5_lay_15 hf (fun u4 hf => ?_)
  obtain rfl := Option.some.inj hf
  exact G_vret hX hR dX5_lay_18
