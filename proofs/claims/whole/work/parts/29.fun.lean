noncomputable def fX8_worth_j25 (p0 : Int32) (p1 : Int32) (z0 : Int32) (u : Um) : Option Int32 :=
  if z0 = 0 then
    some 0
  else
    if z0 = 1 then
      some 100
    else
      some 99
set_option maxHeartbeats 4000000 in
set_option maxRecDepth 100000 in
theorem tX8_worth_j25 {w : Wc} {X : MX} (hX : OKc w X RX8 cX8_worth 4) {p0 : Int32} {p1 : Int32} {z0 : Int32} {u : Um} {r : Int32} (hR : RT w X (some .int) 0 0 Pst 133 false (some (.int r)) u) (hf : fX8_worth_j25 p0 p1 z0 u = some r) : G w X Zm 25 [none, none, none, none] [.int z0] u := by
  unfold fX8_worth_j25 at hf
  refine G_istore_n (lv' := [none, none, none, some (.int z0)]) hX dX8_worth_25 rfl (Nat.le_of_ble_eq_true rfl) rfl ?_
  refine G_iload_n hX dX8_worth_26 rfl ?_
  refine G_if_ne (tgt := 34) hX dX8_worth_27 rfl hf (fun hf => ?_) (fun hf => ?_)
  · refine G_iload_n hX dX8_worth_34 rfl ?_
    refine G_iconst (v := 1) hX dX8_worth_35 rfl ?_
    refine G_icmp_ne (tgt := 44) hX dX8_worth_36 rfl hf (fun hf => ?_) (fun hf => ?_)
    · refine G_bipush (v := 99) hX dX8_worth_44 rfl ?_
      obtain rfl := Option.some.inj hf
      exact G_iret hX hR dX8_worth_46
    · refine G_bipush (v := 100) hX dX8_worth_39 rfl ?_
      refine G_goto (tgt := 46) hX dX8_worth_41 rfl ?_
      obtain rfl := Option.some.inj hf
      exact G_iret hX hR dX8_worth_46
  · refine G_iconst (v := 0) hX dX8_worth_30 rfl ?_
    refine G_goto (tgt := 46) hX dX8_worth_31 rfl ?_
    obtain rfl := Option.some.inj hf
    exact G_iret hX hR dX8_worth_46
noncomputable def fX8_worth (p0 : Int32) (p1 : Int32) (u : Um) : Option Int32 :=
  bd1 (fX8_isMay 122 p0 p1 u) fun v2 =>
  if v2 = 0 then
    fX8_worth_j25 p0 p1 0 u
  else
    bd1 (fX8_comesOf 122 p0 p1 u) fun v4 =>
    fX8_worth_j25 p0 p1 v4 u
set_option maxHeartbeats 4000000 in
set_option maxRecDepth 100000 in
theorem mX8_worth (w : Wc) {p0 : Int32} {p1 : Int32}  {u : Um} {r : Int32} (hf : fX8_worth p0 p1 u = some r) : MC w 4 qX8_worth [.ref 117, .int p0, .int p1] u (some (.int r)) u := by
  unfold fX8_worth at hf
  refine MC_intro pnX8 (Nat.le_of_ble_eq_true rfl) (fun X hX hR _ _ => ?_)
  have hX : OKc w X RX8 cX8_worth 4 := hX
  have hR : RT w X (some .int) 0 0 Pst 133 false (some (.int r)) u := hR
  refine G_eql (lv' := [some (.ref 117), some (.int p0), some (.int p1), none]) rfl ?_
  refine G_aload_n hX dX8_worth_0 rfl ?_
  refine G_getR (i := 6) (t := 122) hX kK117 (Nat.le_of_ble_eq_true rfl) (Nat.le_of_ble_eq_true rfl) rfl pK117_6 flX8_23 dX8_worth_1 ?_
  refine G_iload_n hX dX8_worth_4 rfl ?_
  refine G_iload_n hX dX8_worth_5 rfl ?_
  obtain ⟨v2, h1, hf⟩ := bd1_some hf
  refine G_cS (as := [.ref 122, .int p0, .int p1]) (rest := []) hX csX8_137 (mX8_isMay w kK122 h1) (Nat.le_of_ble_eq_true rfl) rfl rfl (Nat.le_of_ble_eq_true rfl) dX8_worth_6 (st' := [.int v2]) rfl ?_
  refine G_if_eq (tgt := 24) hX dX8_worth_9 rfl hf (fun hf => ?_) (fun hf => ?_)
  · refine G_iconst (v := 0) hX dX8_worth_24 rfl ?_
    refine G_mask (lv' := [none, none, none, none]) [false, false, false, false] rfl rfl ?_
    exact tX8_worth_j25 hX  hR hf
  · refine G_aload_n hX dX8_worth_12 rfl ?_
    refine G_getR (i := 6) (t := 122) hX kK117 (Nat.le_of_ble_eq_true rfl) (Nat.le_of_ble_eq_true rfl) rfl pK117_6 flX8_23 dX8_worth_13 ?_
    refine G_iload_n hX dX8_worth_16 rfl ?_
    refine G_iload_n hX dX8_worth_17 rfl ?_
    obtain ⟨v4, h3, hf⟩ := bd1_some hf
    refine G_cS (as := [.ref 122, .int p0, .int p1]) (rest := []) hX csX8_131 (mX8_comesOf w kK122 h3) (Nat.le_of_ble_eq_true rfl) rfl rfl (Nat.le_of_ble_eq_true rfl) dX8_worth_18 (st' := [.int v4]) rfl ?_
    refine G_goto (tgt := 25) hX dX8_worth_21 rfl ?_
    refine G_mask (lv' := [none, none, none, none]) [false, false, false, false] rfl rfl ?_
    exact tX8_worth_j25 hX  hR hf
noncomputable def fX8_layMatch_b9 (i1 : Int32) (s2 : Int32) (u : Um) : Option (Nat × Int32 × Um) :=
  if 64 ≤ s2 then
    some (1, s2, u)
  else
    if inb ((64 * i1) + s2) 576 = true then
    nm (sI u 128 ((64 * i1) + s2).toNatClampNeg 0) fun u2 =>
    nm (s2 + 1) fun v3 =>
    some (0, v3, u2)
    else none
set_option maxHeartbeats 4000000 in
set_option maxRecDepth 100000 in
theorem tX8_layMatch_b9 {w : Wc} {X : MX} (hX : OKc w X RX8 cX8_layMatch 5) {i1 : Int32} {s : Int32 × Um} {e : Nat} {s' : Int32 × Um} (hf : fX8_layMatch_b9 i1 s.1 s.2 = some (e, s')) (K0 : e = 0 → G w X Zm 9 [some (.ref 117), some (.int i1), some (.int s'.1), none, none, none, none, none] [] s'.2) (K1 : e ≠ 0 → G w X Zm 33 [some (.ref 117), some (.int i1), none, none, none, none, none, none] [] s'.2) : G w X Zm 9 [some (.ref 117), some (.int i1), some (.int s.1), none, none, none, none, none] [] s.2 := by
  obtain ⟨s2, u⟩ := s
  unfold fX8_layMatch_b9 at hf
  try dsimp only at hf ⊢
  refine G_iload_n hX dX8_layMatch_9 rfl ?_
  refine G_bipush (v := 64) hX dX8_layMatch_10 rfl ?_
  refine G_icmp_ge (tgt := 33) hX dX8_layMatch_12 rfl hf (fun hf => ?_) (fun hf => ?_)
  · obtain ⟨rfl, rfl⟩ := ret2 hf
    refine G_mask (lv' := [some (.ref 117), some (.int i1), none, none, none, none, none, none]) [true, true, false, false, false, false, false, false] rfl rfl ?_
    exact K1 (by decide)
  · refine G_aload_n hX dX8_layMatch_15 rfl ?_
    refine G_getR (i := 13) (t := 128) hX kK117 (Nat.le_of_ble_eq_true rfl) (Nat.le_of_ble_eq_true rfl) rfl pK117_13 flX8_42 dX8_layMatch_16 ?_
    refine G_bipush (v := 64) hX dX8_layMatch_19 rfl ?_
    refine G_iload_n hX dX8_layMatch_21 rfl ?_
    refine G_imul hX dX8_layMatch_22 ?_
    refine G_iload_n hX dX8_layMatch_23 rfl ?_
    refine G_iadd hX dX8_layMatch_24 ?_
    refine G_iconst (v := 0) hX dX8_layMatch_25 rfl ?_
    refine G_iast (n := 576) hX kK128 lK128 (Nat.le_of_ble_eq_true rfl) rfl dX8_layMatch_26 hf (fun u2 hf => ?_)
    refine G_iincF (lvf := fun v3 => [some (.ref 117), some (.int i1), some (.int v3), none, none, none, none, none]) hX dX8_layMatch_27 rfl rfl rfl (Nat.le_of_ble_eq_true rfl) (fun _ => rfl) hf (fun v3 hf => ?_)
    refine G_goto (tgt := 9) hX dX8_layMatch_30 rfl ?_
    obtain ⟨rfl, rfl⟩ := ret2 hf
    refine G_mask (lv' := [some (.ref 117), some (.int i1), some (.int v3), none, none, none, none, none]) [true, true, true, false, false, false, false, false] rfl rfl ?_
    exact K0 rfl
noncomputable def fX8_layMatch_j146 (i2 : Int32) (i3 : Int32) (j5 : Int32) (z0 : Int32) (u : Um) : Option (Nat × Int32 × Int32 × Um) :=
  nm (j5 + 1) fun v14 =>
  some (0, z0, v14, u)
set_option maxHeartbeats 4000000 in
set_option maxRecDepth 100000 in
theorem tX8_layMatch_j146 {w : Wc} {X : MX} (hX : OKc w X RX8 cX8_layMatch 5) {i2 : Int32} {i3 : Int32} {j5 : Int32} {z0 : Int32}  {u : Um} {e : Nat} {s' : Int32 × Int32 × Um} (K0 : e = 0 → G w X Zm 67 [some (.ref 117), none, some (.int i2), some (.int i3), some (.int s'.1), some (.int s'.2.1), none, none] [] s'.2.2) (K1 : e ≠ 0 → G w X Zm 154 [some (.ref 117), none, some (.int i2), some (.int i3), some (.int s'.1), none, none, none] [] s'.2.2) (hf : fX8_layMatch_j146 i2 i3 j5 z0 u = some (e, s')) : G w X Zm 146 [some (.ref 117), none, some (.int i2), some (.int i3), none, some (.int j5), none, none] [.int z0] u := by
  unfold fX8_layMatch_j146 at hf
  refine G_istore (lv' := [some (.ref 117), none, some (.int i2), some (.int i3), some (.int z0), some (.int j5), none, none]) hX dX8_layMatch_146 rfl (Nat.le_of_ble_eq_true rfl) rfl ?_
  refine G_iincF (lvf := fun v14 => [some (.ref 117), none, some (.int i2), some (.int i3), some (.int z0), some (.int v14), none, none]) hX dX8_layMatch_148 rfl rfl rfl (Nat.le_of_ble_eq_true rfl) (fun _ => rfl) hf (fun v14 hf => ?_)
  refine G_goto (tgt := 67) hX dX8_layMatch_151 rfl ?_
  obtain ⟨rfl, rfl⟩ := ret2 hf
  refine G_mask (lv' := [some (.ref 117), none, some (.int i2), some (.int i3), some (.int z0), some (.int v14), none, none]) [true, false, true, true, true, true, false, false] rfl rfl ?_
  exact K0 rfl
noncomputable def fX8_layMatch_j130 (i2 : Int32) (i3 : Int32) (j4 : Int32) (j5 : Int32) (z0 : Int32) (u : Um) : Option (Nat × Int32 × Int32 × Um) :=
  if z0 ≤ j4 then
    fX8_layMatch_j146 i2 i3 j5 j4 u
  else
    fX8_layMatch_j146 i2 i3 j5 z0 u
set_option maxHeartbeats 4000000 in
set_option maxRecDepth 100000 in
theorem tX8_layMatch_j130 {w : Wc} {X : MX} (hX : OKc w X RX8 cX8_layMatch 5) {i2 : Int32} {i3 : Int32} {j4 : Int32} {j5 : Int32} {z0 : Int32}  {u : Um} {e : Nat} {s' : Int32 × Int32 × Um} (K0 : e = 0 → G w X Zm 67 [some (.ref 117), none, some (.int i2), some (.int i3), some (.int s'.1), some (.int s'.2.1), none, none] [] s'.2.2) (K1 : e ≠ 0 → G w X Zm 154 [some (.ref 117), none, some (.int i2), some (.int i3), some (.int s'.1), none, none, none] [] s'.2.2) (hf : fX8_layMatch_j130 i2 i3 j4 j5 z0 u = some (e, s')) : G w X Zm 130 [some (.ref 117), none, some (.int i2), some (.int i3), some (.int j4), some (.int j5), none, none] [.int z0] u := by
  unfold fX8_layMatch_j130 at hf
  refine G_istore (lv' := [some (.ref 117), none, some (.int i2), some (.int i3), some (.int j4), some (.int j5), none, some (.int z0)]) hX dX8_layMatch_130 rfl (Nat.le_of_ble_eq_true rfl) rfl ?_
  refine G_iload hX dX8_layMatch_132 rfl ?_
  refine G_iload hX dX8_layMatch_134 rfl ?_
  refine G_icmp_le (tgt := 144) hX dX8_layMatch_136 rfl hf (fun hf => ?_) (fun hf => ?_)
  · refine G_iload hX dX8_layMatch_144 rfl ?_
    refine G_mask (lv' := [some (.ref 117), none, some (.int i2), some (.int i3), none, some (.int j5), none, none]) [true, false, true, true, false, true, false, false] rfl rfl ?_
    exact tX8_layMatch_j146 hX  K0 K1 hf
  · refine G_iload hX dX8_layMatch_139 rfl ?_
    refine G_goto (tgt := 146) hX dX8_layMatch_141 rfl ?_
    refine G_mask (lv' := [some (.ref 117), none, some (.int i2), some (.int i3), none, some (.int j5), none, none]) [true, false, true, true, false, true, false, false] rfl rfl ?_
    exact tX8_layMatch_j146 hX  K0 K1 hf
noncomputable def fX8_layMatch_j98 (i2 : Int32) (i3 : Int32) (j4 : Int32) (j5 : Int32) (z0 : Int32) (u : Um) : Option (Nat × Int32 × Int32 × Um) :=
  if z0 = 0 then
    fX8_layMatch_j130 i2 i3 j4 j5 0 u
  else
    if inb ((64 * (i2 + 1)) + (i3 ||| ((1 : Int32) <<< (j5 &&& 31)))) 576 = true then
    fX8_layMatch_j130 i2 i3 j4 j5 (z0 + (u.1 128 (((64 * (i2 + 1)) + (i3 ||| ((1 : Int32) <<< (j5 &&& 31))))).toNatClampNeg)) u
    else none
set_option maxHeartbeats 4000000 in
set_option maxRecDepth 100000 in
theorem tX8_layMatch_j98 {w : Wc} {X : MX} (hX : OKc w X RX8 cX8_layMatch 5) {i2 : Int32} {i3 : Int32} {j4 : Int32} {j5 : Int32} {z0 : Int32}  {u : Um} {e : Nat} {s' : Int32 × Int32 × Um} (K0 : e = 0 → G w X Zm 67 [some (.ref 117), none, some (.int i2), some (.int i3), some (.int s'.1), some (.int s'.2.1), none, none] [] s'.2.2) (K1 : e ≠ 0 → G w X Zm 154 [some (.ref 117), none, some (.int i2), some (.int i3), some (.int s'.1), none, none, none] [] s'.2.2) (hf : fX8_layMatch_j98 i2 i3 j4 j5 z0 u = some (e, s')) : G w X Zm 98 [some (.ref 117), none, some (.int i2), some (.int i3), some (.int j4), some (.int j5), none, none] [.int z0] u := by
  unfold fX8_layMatch_j98 at hf
  refine G_istore (lv' := [some (.ref 117), none, some (.int i2), some (.int i3), some (.int j4), some (.int j5), some (.int z0), none]) hX dX8_layMatch_98 rfl (Nat.le_of_ble_eq_true rfl) rfl ?_
  refine G_iload hX dX8_layMatch_100 rfl ?_
  refine G_if_ne (tgt := 109) hX dX8_layMatch_102 rfl hf (fun hf => ?_) (fun hf => ?_)
  · refine G_iload hX dX8_layMatch_109 rfl ?_
    refine G_aload_n hX dX8_layMatch_111 rfl ?_
    refine G_getR (i := 13) (t := 128) hX kK117 (Nat.le_of_ble_eq_true rfl) (Nat.le_of_ble_eq_true rfl) rfl pK117_13 flX8_42 dX8_layMatch_112 ?_
    refine G_bipush (v := 64) hX dX8_layMatch_115 rfl ?_
    refine G_iload_n hX dX8_layMatch_117 rfl ?_
    refine G_iconst (v := 1) hX dX8_layMatch_118 rfl ?_
    refine G_iadd hX dX8_layMatch_119 ?_
    refine G_imul hX dX8_layMatch_120 ?_
    refine G_iload_n hX dX8_layMatch_121 rfl ?_
    refine G_iconst (v := 1) hX dX8_layMatch_122 rfl ?_
    refine G_iload hX dX8_layMatch_123 rfl ?_
    refine G_ishl hX dX8_layMatch_125 ?_
    refine G_ior hX dX8_layMatch_126 ?_
    refine G_iadd hX dX8_layMatch_127 ?_
    refine G_iald (n := 576) hX kK128 lK128 (Nat.le_of_ble_eq_true rfl) dX8_layMatch_128 hf (fun hf => ?_)
    refine G_iadd hX dX8_layMatch_129 ?_
    refine G_mask (lv' := [some (.ref 117), none, some (.int i2), some (.int i3), some (.int j4), some (.int j5), none, none]) [true, false, true, true, true, true, false, false] rfl rfl ?_
    exact tX8_layMatch_j130 hX  K0 K1 hf
  · refine G_iconst (v := 0) hX dX8_layMatch_105 rfl ?_
    refine G_goto (tgt := 130) hX dX8_layMatch_106 rfl ?_
    refine G_mask (lv' := [some (.ref 117), none, some (.int i2), some (.int i3), some (.int j4), some (.int j5), none, none]) [true, false, true, true, true, true, false, false] rfl rfl ?_
    exact tX8_layMatch_j130 hX  K0 K1 hf
noncomputable def fX8_layMatch_b67 (i2 : Int32) (i3 : Int32) (s4 : Int32) (s5 : Int32) (u : Um) : Option (Nat × Int32 × Int32 × Um) :=
  if inb 1 83 = true then
  if (u.1 122 (1 : Int32).toNatClampNeg) ≤ s5 then
    some (1, s4, s5, u)
  else
    bd1 (fX8_has i3 s5 u) fun v11 =>
    if v11 = 0 then
      bd1 (fX8_worth i2 s5 u) fun v13 =>
      fX8_layMatch_j98 i2 i3 s4 s5 v13 u
    else
      fX8_layMatch_j98 i2 i3 s4 s5 0 u
  else none
set_option maxHeartbeats 4000000 in
set_option maxRecDepth 100000 in
theorem tX8_layMatch_b67 {w : Wc} {X : MX} (hX : OKc w X RX8 cX8_layMatch 5) {i2 : Int32} {i3 : Int32} {s : Int32 × Int32 × Um} {e : Nat} {s' : Int32 × Int32 × Um} (hf : fX8_layMatch_b67 i2 i3 s.1 s.2.1 s.2.2 = some (e, s')) (K0 : e = 0 → G w X Zm 67 [some (.ref 117), none, some (.int i2), some (.int i3), some (.int s'.1), some (.int s'.2.1), none, none] [] s'.2.2) (K1 : e ≠ 0 → G w X Zm 154 [some (.ref 117), none, some (.int i2), some (.int i3), some (.int s'.1), none, none, none] [] s'.2.2) : G w X Zm 67 [some (.ref 117), none, some (.int i2), some (.int i3), some (.int s.1), some (.int s.2.1), none, none] [] s.2.2 := by
  obtain ⟨s4, s5, u⟩ := s
  unfold fX8_layMatch_b67 at hf
  try dsimp only at hf ⊢
  refine G_iload hX dX8_layMatch_67 rfl ?_
  refine G_aload_n hX dX8_layMatch_69 rfl ?_
  refine G_getR (i := 6) (t := 122) hX kK117 (Nat.le_of_ble_eq_true rfl) (Nat.le_of_ble_eq_true rfl) rfl pK117_6 flX8_23 dX8_layMatch_70 ?_
  refine G_iconst (v := 1) hX dX8_layMatch_73 rfl ?_
  refine G_iald (n := 83) hX kK122 lK122 (Nat.le_of_ble_eq_true rfl) dX8_layMatch_74 hf (fun hf => ?_)
  refine G_icmp_ge (tgt := 154) hX dX8_layMatch_75 rfl hf (fun hf => ?_) (fun hf => ?_)
  · obtain ⟨rfl, rfl⟩ := ret2 hf
    refine G_mask (lv' := [some (.ref 117), none, some (.int i2), some (.int i3), some (.int s4), none, none, none]) [true, false, true, true, true, false, false, false] rfl rfl ?_
    exact K1 (by decide)
  · refine G_iload_n hX dX8_layMatch_78 rfl ?_
    refine G_iload hX dX8_layMatch_79 rfl ?_
    obtain ⟨v11, h10, hf⟩ := bd1_some hf
    refine G_cS (as := [.int i3, .int s5]) (rest := []) hX csX8_156 (mX8_has w h10) (Nat.le_of_ble_eq_true rfl) rfl rfl (Nat.le_of_ble_eq_true rfl) dX8_layMatch_81 (st' := [.int v11]) rfl ?_
    refine G_if_eq (tgt := 91) hX dX8_layMatch_84 rfl hf (fun hf => ?_) (fun hf => ?_)
    · refine G_aload_n hX dX8_layMatch_91 rfl ?_
      refine G_iload_n hX dX8_layMatch_92 rfl ?_
      refine G_iload hX dX8_layMatch_93 rfl ?_
      obtain ⟨v13, h12, hf⟩ := bd1_some hf
      refine G_cV (as := [.int i2, .int s5]) (rest := []) hX cvX8_159 (mX8_worth w h12) (Nat.le_of_ble_eq_true rfl) kK117 (Nat.le_of_ble_eq_true rfl) (Nat.le_of_ble_eq_true rfl) rfl rfl (Nat.le_of_ble_eq_true rfl) dX8_layMatch_95 (st' := [.int v13]) rfl ?_
      refine G_mask (lv' := [some (.ref 117), none, some (.int i2), some (.int i3), some (.int s4), some (.int s5), none, none]) [true, false, true, true, true, true, false, false] rfl rfl ?_
      exact tX8_layMatch_j98 hX  K0 K1 hf
    · refine G_iconst (v := 0) hX dX8_layMatch_87 rfl ?_
      refine G_goto (tgt := 98) hX dX8_layMatch_88 rfl ?_
      refine G_mask (lv' := [some (.ref 117), none, some (.int i2), some (.int i3), some (.int s4), some (.int s5), none, none]) [true, false, true, true, true, true, false, false] rfl rfl ?_
      exact tX8_layMatch_j98 hX  K0 K1 hf
noncomputable def fX8_layMatch_b43 (i2 : Int32) (s3 : Int32) (u : Um) : Option (Nat × Int32 × Um) :=
  if 64 ≤ s3 then
    some (1, s3, u)
  else
    if inb ((64 * (i2 + 1)) + s3) 576 = true then
    nm (u.1 128 (((64 * (i2 + 1)) + s3)).toNatClampNeg) fun v9 =>
    bd4 (lp (fun s => fX8_layMatch_b67 i2 s3 s.1 s.2.1 s.2.2) fuel (v9, (0 : Int32), u)) fun e18 v15 v16 u17 =>
    if inb ((64 * i2) + s3) 576 = true then
    nm (sI u17 128 ((64 * i2) + s3).toNatClampNeg v15) fun u20 =>
    nm (s3 + 1) fun v21 =>
    some (0, v21, u20)
    else none
    else none
set_option maxHeartbeats 4000000 in
set_option maxRecDepth 100000 in
theorem tX8_layMatch_b43 {w : Wc} {X : MX} (hX : OKc w X RX8 cX8_layMatch 5) {i2 : Int32} {s : Int32 × Um} {e : Nat} {s' : Int32 × Um} (hf : fX8_layMatch_b43 i2 s.1 s.2 = some (e, s')) (K0 : e = 0 → G w X Zm 43 [some (.ref 117), none, some (.int i2), some (.int s'.1), none, none, none, none] [] s'.2) (K1 : e ≠ 0 → G w X Zm 173 [some (.ref 117), none, some (.int i2), none, none, none, none, none] [] s'.2) : G w X Zm 43 [some (.ref 117), none, some (.int i2), some (.int s.1), none, none, none, none] [] s.2 := by
  obtain ⟨s3, u⟩ := s
  unfold fX8_layMatch_b43 at hf
  try dsimp only at hf ⊢
  refine G_iload_n hX dX8_layMatch_43 rfl ?_
  refine G_bipush (v := 64) hX dX8_layMatch_44 rfl ?_
  refine G_icmp_ge (tgt := 173) hX dX8_layMatch_46 rfl hf (fun hf => ?_) (fun hf => ?_)
  · obtain ⟨rfl, rfl⟩ := ret2 hf
    refine G_mask (lv' := [some (.ref 117), none, some (.int i2), none, none, none, none, none]) [true, false, true, false, false, false, false, false] rfl rfl ?_
    exact K1 (by decide)
  · refine G_aload_n hX dX8_layMatch_49 rfl ?_
    refine G_getR (i := 13) (t := 128) hX kK117 (Nat.le_of_ble_eq_true rfl) (Nat.le_of_ble_eq_true rfl) rfl pK117_13 flX8_42 dX8_layMatch_50 ?_
    refine G_bipush (v := 64) hX dX8_layMatch_53 rfl ?_
    refine G_iload_n hX dX8_layMatch_55 rfl ?_
    refine G_iconst (v := 1) hX dX8_layMatch_56 rfl ?_
    refine G_iadd hX dX8_layMatch_57 ?_
    refine G_imul hX dX8_layMatch_58 ?_
    refine G_iload_n hX dX8_layMatch_59 rfl ?_
    refine G_iadd hX dX8_layMatch_60 ?_
    refine G_iald (n := 576) hX kK128 lK128 (Nat.le_of_ble_eq_true rfl) dX8_layMatch_61 hf (fun hf => ?_)
    refine G_istoreF (lvf := fun v9 => [some (.ref 117), none, some (.int i2), some (.int s3), some (.int v9), none, none, none]) hX dX8_layMatch_62 rfl (Nat.le_of_ble_eq_true rfl) (fun _ => rfl) hf (fun v9 hf => ?_)
    refine G_iconst (v := 0) hX dX8_layMatch_64 rfl ?_
    refine G_istore (lv' := [some (.ref 117), none, some (.int i2), some (.int s3), some (.int v9), some (.int 0), none, none]) hX dX8_layMatch_65 rfl (Nat.le_of_ble_eq_true rfl) rfl ?_
    obtain ⟨e18, v15, v16, u17, h19, hf⟩ := bd4_some hf
    refine G_mask (lv' := [some (.ref 117), none, some (.int i2), some (.int s3), some (.int v9), some (.int 0), none, none]) [true, false, true, true, true, true, false, false] rfl rfl ?_
    refine lp_G (body := (fun s => fX8_layMatch_b67 i2 s3 s.1 s.2.1 s.2.2)) (Gh := fun s => G w X Zm 67 [some (.ref 117), none, some (.int i2), some (.int s3), some (.int s.1), some (.int s.2.1), none, none] [] s.2.2) (Gx := fun e s => G w X Zm 154 [some (.ref 117), none, some (.int i2), some (.int s3), some (.int s.1), none, none, none] [] s.2.2) (fun s e s' hb K0 K1 => tX8_layMatch_b67 (s := s) (e := e) (s' := s') hX   hb K0 K1) fuel (v9, (0 : Int32), u) (e18, v15, v16, u17) h19 ?_
    refine G_aload_n hX dX8_layMatch_154 rfl ?_
    refine G_getR (i := 13) (t := 128) hX kK117 (Nat.le_of_ble_eq_true rfl) (Nat.le_of_ble_eq_true rfl) rfl pK117_13 flX8_42 dX8_layMatch_155 ?_
    refine G_bipush (v := 64) hX dX8_layMatch_158 rfl ?_
    refine G_iload_n hX dX8_layMatch_160 rfl ?_
    refine G_imul hX dX8_layMatch_161 ?_
    refine G_iload_n hX dX8_layMatch_162 rfl ?_
    refine G_iadd hX dX8_layMatch_163 ?_
    refine G_iload hX dX8_layMatch_164 rfl ?_
    refine G_iast (n := 576) hX kK128 lK128 (Nat.le_of_ble_eq_true rfl) rfl dX8_layMatch_166 hf (fun u20 hf => ?_)
    refine G_iincF (lvf := fun v21 => [some (.ref 117), none, some (.int i2), some (.int v21), some (.int v15), none, none, none]) hX dX8_layMatch_167 rfl rfl rfl (Nat.le_of_ble_eq_true rfl) (fun _ => rfl) hf (fun v21 hf => ?_)
    refine G_goto (tgt := 43) hX dX8_layMatch_170 rfl ?_
    obtain ⟨rfl, rfl⟩ := ret2 hf
    refine G_mask (lv' := [some (.ref 117), none, some (.int i2), some (.int v21), none, none, none, none]) [true, false, true, true, false, false, false, false] rfl rfl ?_
    exact K0 rfl
noncomputable def fX8_layMatch_b37 (s2 : Int32) (u : Um) : Option (Nat × Int32 × Um) :=
  if s2 < 0 then
    some (1, s2, u)
  else
    bd3 (lp (fun s => fX8_layMatch_b43 s2 s.1 s.2) fuel ((0 : Int32), u)) fun e24 v22 u23 =>
    nm (s2 + (-1)) fun v26 =>
    some (0, v26, u23)
set_option maxHeartbeats 4000000 in
set_option maxRecDepth 100000 in
theorem tX8_layMatch_b37 {w : Wc} {X : MX} (hX : OKc w X RX8 cX8_layMatch 5)  {s : Int32 × Um} {e : Nat} {s' : Int32 × Um} (hf : fX8_layMatch_b37  s.1 s.2 = some (e, s')) (K0 : e = 0 → G w X Zm 37 [some (.ref 117), none, some (.int s'.1), none, none, none, none, none] [] s'.2) (K1 : e ≠ 0 → G w X Zm 179 [none, none, none, none, none, none, none, none] [] s'.2) : G w X Zm 37 [some (.ref 117), none, some (.int s.1), none, none, none, none, none] [] s.2 := by
  obtain ⟨s2, u⟩ := s
  unfold fX8_layMatch_b37 at hf
  try dsimp only at hf ⊢
  refine G_iload_n hX dX8_layMatch_37 rfl ?_
  refine G_if_lt (tgt := 179) hX dX8_layMatch_38 rfl hf (fun hf => ?_) (fun hf => ?_)
  · obtain ⟨rfl, rfl⟩ := ret2 hf
    refine G_mask (lv' := [none, none, none, none, none, none, none, none]) [false, false, false, false, false, false, false, false] rfl rfl ?_
    exact K1 (by decide)
  · refine G_iconst (v := 0) hX dX8_layMatch_41 rfl ?_
    refine G_istore_n (lv' := [some (.ref 117), none, some (.int s2), some (.int 0), none, none, none, none]) hX dX8_layMatch_42 rfl (Nat.le_of_ble_eq_true rfl) rfl ?_
    obtain ⟨e24, v22, u23, h25, hf⟩ := bd3_some hf
    refine G_mask (lv' := [some (.ref 117), none, some (.int s2), some (.int 0), none, none, none, none]) [true, false, true, true, false, false, false, false] rfl rfl ?_
    refine lp_G (body := (fun s => fX8_layMatch_b43 s2 s.1 s.2)) (Gh := fun s => G w X Zm 43 [some (.ref 117), none, some (.int s2), some (.int s.1), none, none, none, none] [] s.2) (Gx := fun e s => G w X Zm 173 [some (.ref 117), none, some (.int s2), none, none, none, none, none] [] s.2) (fun s e s' hb K0 K1 => tX8_layMatch_b43 (s := s) (e := e) (s' := s') hX   hb K0 K1) fuel ((0 : Int32), u) (e24, v22, u23) h25 ?_
    refine G_iincF (lvf := fun v26 => [some (.ref 117), none, some (.int v26), none, none, none, none, none]) hX dX8_layMatch_173 rfl rfl rfl (Nat.le_of_ble_eq_true rfl) (fun _ => rfl) hf (fun v26 hf => ?_)
    refine G_goto (tgt := 37) hX dX8_layMatch_176 rfl ?_
    obtain ⟨rfl, rfl⟩ := ret2 hf
    refine G_mask (lv' := [some (.ref 117), none, some (.int v26), none, none, none, none, none]) [true, false, true, false, false, false, false, false] rfl rfl ?_
    exact K0 rfl
noncomputable def fX8_layMatch  (u : Um) : Option Um :=
  if inb 2 83 = true then
  nm (u.1 122 (2 : Int32).toNatClampNeg) fun v1 =>
  bd3 (lp (fun s => fX8_layMatch_b9 v1 s.1 s.2) fuel ((0 : Int32), u)) fun e6 v4 u5 =>
  nm (v1 - 1) fun v8 =>
  bd3 (lp (fun s => fX8_layMatch_b37  s.1 s.2) fuel (v8, u5)) fun e29 v27 u28 =>
  some u28
  else none
set_option maxHeartbeats 4000000 in
set_option maxRecDepth 100000 in
theorem mX8_layMatch (w : Wc)   {u : Um} {u' : Um} (hf : fX8_layMatch  u = some u') : MC w 5 qX8_layMatch [.ref 117] u none u' := by
  unfold fX8_layMatch at hf
  refine MC_intro pnX8 (Nat.le_of_ble_eq_true rfl) (fun X hX hR _ _ => ?_)
  have hX : OKc w X RX8 cX8_layMatch 5 := hX
  have hR : RT w X none 0 0 Pst 133 false none u' := hR
  refine G_eql (lv' := [some (.ref 117), none, none, none, none, none, none, none]) rfl ?_
  refine G_aload_n hX dX8_layMatch_0 rfl ?_
  refine G_getR (i := 6) (t := 122) hX kK117 (Nat.le_of_ble_eq_true rfl) (Nat.le_of_ble_eq_true rfl) rfl pK117_6 flX8_23 dX8_layMatch_1 ?_
  refine G_iconst (v := 2) hX dX8_layMatch_4 rfl ?_
  refine G_iald (n := 83) hX kK122 lK122 (Nat.le_of_ble_eq_true rfl) dX8_layMatch_5 hf (fun hf => ?_)
  refine G_istore_nF (lvf := fun v1 => [some (.ref 117), some (.int v1), none, none, none, none, none, none]) hX dX8_layMatch_6 rfl (Nat.le_of_ble_eq_true rfl) (fun _ => rfl) hf (fun v1 hf => ?_)
  refine G_iconst (v := 0) hX dX8_layMatch_7 rfl ?_
  refine G_istore_n (lv' := [some (.ref 117), some (.int v1), some (.int 0), none, none, none, none, none]) hX dX8_layMatch_8 rfl (Nat.le_of_ble_eq_true rfl) rfl ?_
  obtain ⟨e6, v4, u5, h7, hf⟩ := bd3_some hf
  refine G_mask (lv' := [some (.ref 117), some (.int v1), some (.int 0), none, none, none, none, none]) [true, true, true, false, false, false, false, false] rfl rfl ?_
  refine lp_G (body := (fun s => fX8_layMatch_b9 v1 s.1 s.2)) (Gh := fun s => G w X Zm 9 [some (.ref 117), some (.int v1), some (.int s.1), none, none, none, none, none] [] s.2) (Gx := fun e s => G w X Zm 33 [some (.ref 117), some (.int v1), none, none, none, none, none, none] [] s.2) (fun s e s' hb K0 K1 => tX8_layMatch_b9 (s := s) (e := e) (s' := s') hX   hb K0 K1) fuel ((0 : Int32), u) (e6, v4, u5) h7 ?_
  refine G_iload_n hX dX8_layMatch_33 rfl ?_
  refine G_iconst (v := 1) hX dX8_layMatch_34 rfl ?_
  refine G_isub hX dX8_layMatch_35 ?_
  refine G_istore_nF (lvf := fun v8 => [some (.ref 117), some (.int v1), some (.int v8), none, none, none, none, none]) hX dX8_layMatch_36 rfl (Nat.le_of_ble_eq_true rfl) (fun _ => rfl) hf (fun v8 hf => ?_)
  obtain ⟨e29, v27, u28, h30, hf⟩ := bd3_some hf
  refine G_mask (lv' := [some (.ref 117), none, some (.int v8), none, none, none, none, none]) [true, false, true, false, false, false, false, false] rfl rfl ?_
  refine lp_G (body := (fun s => fX8_layMatch_b37  s.1 s.2)) (Gh := fun s => G w X Zm 37 [some (.ref 117), none, some (.int s.1), none, none, none, none, none] [] s.2) (Gx := fun e s => G w X Zm 179 [none, none, none, none, none, none, none, none] [] s.2) (fun s e s' hb K0 K1 => tX8_layMatch_b37 (s := s) (e := e) (s' := s') hX   hb K0 K1) fuel (v8, u5) (e29, v27, u28) h30 ?_
  obtain rfl := Option.some.inj hf
  exact G_vret hX hR dX8_layMatch_179
noncomputable def fX8_matched_j103 (p0 : Int32) (i2 : Int32) (i4 : Int32) (j5 : Int32) (z0 : Int32) (u : Um) : Option (Nat × Int32 × Int32) :=
  nm (j5 + (-1)) fun v6 =>
  some (0, z0, v6)
set_option maxHeartbeats 4000000 in
set_option maxRecDepth 100000 in
theorem tX8_matched_j103 {w : Wc} {X : MX} (hX : OKc w X RX8 cX8_matched 5) {p0 : Int32} {i2 : Int32} {i4 : Int32} {j5 : Int32} {z0 : Int32}  {u : Um} {e : Nat} {s' : Int32 × Int32} (K0 : e = 0 → G w X Zm 27 [some (.ref 117), some (.int p0), some (.int i2), some (.int s'.1), some (.int i4), some (.int s'.2), none] [] u) (K1 : e ≠ 0 → G w X Zm 110 [some (.ref 117), some (.int p0), some (.int i2), some (.int s'.1), some (.int i4), none, none] [] u) (hf : fX8_matched_j103 p0 i2 i4 j5 z0 u = some (e, s')) : G w X Zm 103 [some (.ref 117), some (.int p0), some (.int i2), none, some (.int i4), some (.int j5), none] [.int z0] u := by
  unfold fX8_matched_j103 at hf
  refine G_istore_n (lv' := [some (.ref 117), some (.int p0), some (.int i2), some (.int z0), some (.int i4), some (.int j5), none]) hX dX8_matched_103 rfl (Nat.le_of_ble_eq_true rfl) rfl ?_
  refine G_iincF (lvf := fun v6 => [some (.ref 117), some (.int p0), some (.int i2), some (.int z0), some (.int i4), some (.int v6), none]) hX dX8_matched_104 rfl rfl rfl (Nat.le_of_ble_eq_true rfl) (fun _ => rfl) hf (fun v6 hf => ?_)
  refine G_goto (tgt := 27) hX dX8_matched_107 rfl ?_
  obtain ⟨rfl, rfl⟩ := ret2 hf
  refine G_mask (lv' := [some (.ref 117), some (.int p0), some (.int i2), some (.int z0), some (.int i4), some (.int v6), none]) [true, true, true, true, true, true, false] rfl rfl ?_
  exact K0 rfl
noncomputable def fX8_matched_j102 (p0 : Int32) (i2 : Int32) (j3 : Int32) (i4 : Int32) (j5 : Int32) (u : Um) : Option (Nat × Int32 × Int32) :=
  fX8_matched_j103 p0 i2 i4 j5 j3 u
set_option maxHeartbeats 4000000 in
set_option maxRecDepth 100000 in
theorem tX8_matched_j102 {w : Wc} {X : MX} (hX : OKc w X RX8 cX8_matched 5) {p0 : Int32} {i2 : Int32} {j3 : Int32} {i4 : Int32} {j5 : Int32}  {u : Um} {e : Nat} {s' : Int32 × Int32} (K0 : e = 0 → G w X Zm 27 [some (.ref 117), some (.int p0), some (.int i2), some (.int s'.1), some (.int i4), some (.int s'.2), none] [] u) (K1 : e ≠ 0 → G w X Zm 110 [some (.ref 117), some (.int p0), some (.int i2), some (.int s'.1), some (.int i4), none, none] [] u) (hf : fX8_matched_j102 p0 i2 j3 i4 j5 u = some (e, s')) : G w X Zm 102 [some (.ref 117), some (.int p0), some (.int i2), some (.int j3), some (.int i4), some (.int j5), none] [] u := by
  unfold fX8_matched_j102 at hf
  refine G_iload_n hX dX8_matched_102 rfl ?_
  refine G_mask (lv' := [some (.ref 117), some (.int p0), some (.int i2), none, some (.int i4), some (.int j5), none]) [true, true, true, false, true, true, false] rfl rfl ?_
  exact tX8_matched_j103 hX  K0 K1 hf
noncomputable def fX8_matched_j53 (p0 : Int32) (i2 : Int32) (j3 : Int32) (i4 : Int32) (j5 : Int32) (z0 : Int32) (u : Um) : Option (Nat × Int32 × Int32) :=
  if z0 ≤ 0 then
    fX8_matched_j102 p0 i2 j3 i4 j5 u
  else
    if inb ((64 * (i4 + 1)) + (i2 ||| ((1 : Int32) <<< (j5 &&& 31)))) 576 = true then
    if inb ((64 * i4) + i2) 576 = true then
    if (z0 + (u.1 128 (((64 * (i4 + 1)) + (i2 ||| ((1 : Int32) <<< (j5 &&& 31))))).toNatClampNeg)) = (u.1 128 (((64 * i4) + i2)).toNatClampNeg) then
      fX8_matched_j103 p0 i2 i4 j5 j5 u
    else
      fX8_matched_j102 p0 i2 j3 i4 j5 u
    else none
    else none
set_option maxHeartbeats 4000000 in
set_option maxRecDepth 100000 in
theorem tX8_matched_j53 {w : Wc} {X : MX} (hX : OKc w X RX8 cX8_matched 5) {p0 : Int32} {i2 : Int32} {j3 : Int32} {i4 : Int32} {j5 : Int32} {z0 : Int32}  {u : Um} {e : Nat} {s' : Int32 × Int32} (K0 : e = 0 → G w X Zm 27 [some (.ref 117), some (.int p0), some (.int i2), some (.int s'.1), some (.int i4), some (.int s'.2), none] [] u) (K1 : e ≠ 0 → G w X Zm 110 [some (.ref 117), some (.int p0), some (.int i2), some (.int s'.1), some (.int i4), none, none] [] u) (hf : fX8_matched_j53 p0 i2 j3 i4 j5 z0 u = some (e, s')) : G w X Zm 53 [some (.ref 117), some (.int p0), some (.int i2), some (.int j3), some (.int i4), some (.int j5), none] [.int z0] u := by
  unfold fX8_matched_j53 at hf
  refine G_istore (lv' := [some (.ref 117), some (.int p0), some (.int i2), some (.int j3), some (.int i4), some (.int j5), some (.int z0)]) hX dX8_matched_53 rfl (Nat.le_of_ble_eq_true rfl) rfl ?_
  refine G_iload hX dX8_matched_55 rfl ?_
  refine G_if_le (tgt := 102) hX dX8_matched_57 rfl hf (fun hf => ?_) (fun hf => ?_)
  · refine G_mask (lv' := [some (.ref 117), some (.int p0), some (.int i2), some (.int j3), some (.int i4), some (.int j5), none]) [true, true, true, true, true, true, false] rfl rfl ?_
    exact tX8_matched_j102 hX  K0 K1 hf
  · refine G_iload hX dX8_matched_60 rfl ?_
    refine G_aload_n hX dX8_matched_62 rfl ?_
    refine G_getR (i := 13) (t := 128) hX kK117 (Nat.le_of_ble_eq_true rfl) (Nat.le_of_ble_eq_true rfl) rfl pK117_13 flX8_42 dX8_matched_63 ?_
    refine G_bipush (v := 64) hX dX8_matched_66 rfl ?_
    refine G_iload hX dX8_matched_68 rfl ?_
    refine G_iconst (v := 1) hX dX8_matched_70 rfl ?_
    refine G_iadd hX dX8_matched_71 ?_
    refine G_imul hX dX8_matched_72 ?_
    refine G_iload_n hX dX8_matched_73 rfl ?_
    refine G_iconst (v := 1) hX dX8_matched_74 rfl ?_
    refine G_iload hX dX8_matched_75 rfl ?_
    refine G_ishl hX dX8_matched_77 ?_
    refine G_ior hX dX8_matched_78 ?_
    refine G_iadd hX dX8_matched_79 ?_
    refine G_iald (n := 576) hX kK128 lK128 (Nat.le_of_ble_eq_true rfl) dX8_matched_80 hf (fun hf => ?_)
    refine G_iadd hX dX8_matched_81 ?_
    refine G_aload_n hX dX8_matched_82 rfl ?_
    refine G_getR (i := 13) (t := 128) hX kK117 (Nat.le_of_ble_eq_true rfl) (Nat.le_of_ble_eq_true rfl) rfl pK117_13 flX8_42 dX8_matched_83 ?_
    refine G_bipush (v := 64) hX dX8_matched_86 rfl ?_
    refine G_iload hX dX8_matched_88 rfl ?_
    refine G_imul hX dX8_matched_90 ?_
    refine G_iload_n hX dX8_matched_91 rfl ?_
    refine G_iadd hX dX8_matched_92 ?_
    refine G_iald (n := 576) hX kK128 lK128 (Nat.le_of_ble_eq_true rfl) dX8_matched_93 hf (fun hf => ?_)
    refine G_icmp_ne (tgt := 102) hX dX8_matched_94 rfl hf (fun hf => ?_) (fun hf => ?_)
    · refine G_mask (lv' := [some (.ref 117), some (.int p0), some (.int i2), some (.int j3), some (.int i4), some (.int j5), none]) [true, true, true, true, true, true, false] rfl rfl ?_
      exact tX8_matched_j102 hX  K0 K1 hf
    · refine G_iload hX dX8_matched_97 rfl ?_
      refine G_goto (tgt := 103) hX dX8_matched_99 rfl ?_
      refine G_mask (lv' := [some (.ref 117), some (.int p0), some (.int i2), none, some (.int i4), some (.int j5), none]) [true, true, true, false, true, true, false] rfl rfl ?_
      exact tX8_matched_j103 hX  K0 K1 hf
noncomputable def fX8_matched_b27 (p0 : Int32) (i2 : Int32) (i4 : Int32) (s3 : Int32) (s5 : Int32) (u : Um) : Option (Nat × Int32 × Int32) :=
  if s5 < 0 then
    some (1, s3, s5)
  else
    bd1 (fX8_has i2 s5 u) fun v3 =>
    if v3 = 0 then
      bd1 (fX8_worth i4 s5 u) fun v5 =>
      fX8_matched_j53 p0 i2 s3 i4 s5 v5 u
    else
      fX8_matched_j53 p0 i2 s3 i4 s5 0 u
set_option maxHeartbeats 4000000 in
set_option maxRecDepth 100000 in
theorem tX8_matched_b27 {w : Wc} {X : MX} (hX : OKc w X RX8 cX8_matched 5) {p0 : Int32} {i2 : Int32} {i4 : Int32} {s : Int32 × Int32} {e : Nat} {s' : Int32 × Int32} {u : Um} (hf : fX8_matched_b27 p0 i2 i4 s.1 s.2 u = some (e, s')) (K0 : e = 0 → G w X Zm 27 [some (.ref 117), some (.int p0), some (.int i2), some (.int s'.1), some (.int i4), some (.int s'.2), none] [] u) (K1 : e ≠ 0 → G w X Zm 110 [some (.ref 117), some (.int p0), some (.int i2), some (.int s'.1), some (.int i4), none, none] [] u) : G w X Zm 27 [some (.ref 117), some (.int p0), some (.int i2), some (.int s.1), some (.int i4), some (.int s.2), none] [] u := by
  obtain ⟨s3, s5⟩ := s
  unfold fX8_matched_b27 at hf
  try dsimp only at hf ⊢
  refine G_iload hX dX8_matched_27 rfl ?_
  refine G_if_lt (tgt := 110) hX dX8_matched_29 rfl hf (fun hf => ?_) (fun hf => ?_)
  · obtain ⟨rfl, rfl⟩ := ret2 hf
    refine G_mask (lv' := [some (.ref 117), some (.int p0), some (.int i2), some (.int s3), some (.int i4), none, none]) [true, true, true, true, true, false, false] rfl rfl ?_
    exact K1 (by decide)
  · refine G_iload_n hX dX8_matched_32 rfl ?_
    refine G_iload hX dX8_matched_33 rfl ?_
    obtain ⟨v3, h2, hf⟩ := bd1_some hf
    refine G_cS (as := [.int i2, .int s5]) (rest := []) hX csX8_156 (mX8_has w h2) (Nat.le_of_ble_eq_true rfl) rfl rfl (Nat.le_of_ble_eq_true rfl) dX8_matched_35 (st' := [.int v3]) rfl ?_
    refine G_if_eq (tgt := 45) hX dX8_matched_38 rfl hf (fun hf => ?_) (fun hf => ?_)
    · refine G_aload_n hX dX8_matched_45 rfl ?_
      refine G_iload hX dX8_matched_46 rfl ?_
      refine G_iload hX dX8_matched_48 rfl ?_
      obtain ⟨v5, h4, hf⟩ := bd1_some hf
      refine G_cV (as := [.int i4, .int s5]) (rest := []) hX cvX8_159 (mX8_worth w h4) (Nat.le_of_ble_eq_true rfl) kK117 (Nat.le_of_ble_eq_true rfl) (Nat.le_of_ble_eq_true rfl) rfl rfl (Nat.le_of_ble_eq_true rfl) dX8_matched_50 (st' := [.int v5]) rfl ?_
      refine G_mask (lv' := [some (.ref 117), some (.int p0), some (.int i2), some (.int s3), some (.int i4), some (.int s5), none]) [true, true, true, true, true, true, false] rfl rfl ?_
      exact tX8_matched_j53 hX  K0 K1 hf
    · refine G_iconst (v := 0) hX dX8_matched_41 rfl ?_
      refine G_goto (tgt := 53) hX dX8_matched_42 rfl ?_
      refine G_mask (lv' := [some (.ref 117), some (.int p0), some (.int i2), some (.int s3), some (.int i4), some (.int s5), none]) [true, true, true, true, true, true, false] rfl rfl ?_
      exact tX8_matched_j53 hX  K0 K1 hf
noncomputable def fX8_matched_j125 (p0 : Int32) (j3 : Int32) (j4 : Int32) (z0 : Int32) (u : Um) : Option (Nat × Int32 × Int32 × Int32) :=
  nm (j4 + 1) fun v11 =>
  some (0, z0, j3, v11)
set_option maxHeartbeats 4000000 in
set_option maxRecDepth 100000 in
theorem tX8_matched_j125 {w : Wc} {X : MX} (hX : OKc w X RX8 cX8_matched 5) {p0 : Int32} {j3 : Int32} {j4 : Int32} {z0 : Int32}  {u : Um} {e : Nat} {s' : Int32 × Int32 × Int32} (K0 : e = 0 → G w X Zm 8 [some (.ref 117), some (.int p0), some (.int s'.1), some (.int s'.2.1), some (.int s'.2.2), none, none] [] u) (K1 : e ≠ 0 → G w X Zm 132 [none, none, none, some (.int s'.2.1), none, none, none] [] u) (hf : fX8_matched_j125 p0 j3 j4 z0 u = some (e, s')) : G w X Zm 125 [some (.ref 117), some (.int p0), none, some (.int j3), some (.int j4), none, none] [.int z0] u := by
  unfold fX8_matched_j125 at hf
  refine G_istore_n (lv' := [some (.ref 117), some (.int p0), some (.int z0), some (.int j3), some (.int j4), none, none]) hX dX8_matched_125 rfl (Nat.le_of_ble_eq_true rfl) rfl ?_
  refine G_iincF (lvf := fun v11 => [some (.ref 117), some (.int p0), some (.int z0), some (.int j3), some (.int v11), none, none]) hX dX8_matched_126 rfl rfl rfl (Nat.le_of_ble_eq_true rfl) (fun _ => rfl) hf (fun v11 hf => ?_)
  refine G_goto (tgt := 8) hX dX8_matched_129 rfl ?_
  obtain ⟨rfl, rfl⟩ := ret2 hf
  refine G_mask (lv' := [some (.ref 117), some (.int p0), some (.int z0), some (.int j3), some (.int v11), none, none]) [true, true, true, true, true, false, false] rfl rfl ?_
  exact K0 rfl
noncomputable def fX8_matched_b8 (p0 : Int32) (s2 : Int32) (s3 : Int32) (s4 : Int32) (u : Um) : Option (Nat × Int32 × Int32 × Int32) :=
  if p0 < s4 then
    some (1, s2, s3, s4)
  else
    if inb 1 83 = true then
    nm ((u.1 122 (1 : Int32).toNatClampNeg) - 1) fun v1 =>
    bd3 (lp (fun s => fX8_matched_b27 p0 s2 s4 s.1 s.2 u) fuel (((-4) : Int32), v1)) fun e9 v7 v8 =>
    if v7 = (-4) then
      fX8_matched_j125 p0 v7 s4 s2 u
    else
      fX8_matched_j125 p0 v7 s4 (s2 ||| ((1 : Int32) <<< (v7 &&& 31))) u
    else none
set_option maxHeartbeats 4000000 in
set_option maxRecDepth 100000 in
theorem tX8_matched_b8 {w : Wc} {X : MX} (hX : OKc w X RX8 cX8_matched 5) {p0 : Int32} {s : Int32 × Int32 × Int32} {e : Nat} {s' : Int32 × Int32 × Int32} {u : Um} (hf : fX8_matched_b8 p0 s.1 s.2.1 s.2.2 u = some (e, s')) (K0 : e = 0 → G w X Zm 8 [some (.ref 117), some (.int p0), some (.int s'.1), some (.int s'.2.1), some (.int s'.2.2), none, none] [] u) (K1 : e ≠ 0 → G w X Zm 132 [none, none, none, some (.int s'.2.1), none, none, none] [] u) : G w X Zm 8 [some (.ref 117), some (.int p0), some (.int s.1), some (.int s.2.1), some (.int s.2.2), none, none] [] u := by
  obtain ⟨s2, s3, s4⟩ := s
  unfold fX8_matched_b8 at hf
  try dsimp only at hf ⊢
  refine G_iload hX dX8_matched_8 rfl ?_
  refine G_iload_n hX dX8_matched_10 rfl ?_
  refine G_icmp_gt (tgt := 132) hX dX8_matched_11 rfl hf (fun hf => ?_) (fun hf => ?_)
  · obtain ⟨rfl, rfl⟩ := ret2 hf
    refine G_mask (lv' := [none, none, none, some (.int s3), none, none, none]) [false, false, false, true, false, false, false] rfl rfl ?_
    exact K1 (by decide)
  · refine G_bipush (v := (-4)) hX dX8_matched_14 rfl ?_
    refine G_istore_n (lv' := [some (.ref 117), some (.int p0), some (.int s2), some (.int (-4)), some (.int s4), none, none]) hX dX8_matched_16 rfl (Nat.le_of_ble_eq_true rfl) rfl ?_
    refine G_aload_n hX dX8_matched_17 rfl ?_
    refine G_getR (i := 6) (t := 122) hX kK117 (Nat.le_of_ble_eq_true rfl) (Nat.le_of_ble_eq_true rfl) rfl pK117_6 flX8_23 dX8_matched_18 ?_
    refine G_iconst (v := 1) hX dX8_matched_21 rfl ?_
    refine G_iald (n := 83) hX kK122 lK122 (Nat.le_of_ble_eq_true rfl) dX8_matched_22 hf (fun hf => ?_)
    refine G_iconst (v := 1) hX dX8_matched_23 rfl ?_
    refine G_isub hX dX8_matched_24 ?_
    refine G_istoreF (lvf := fun v1 => [some (.ref 117), some (.int p0), some (.int s2), some (.int (-4)), some (.int s4), some (.int v1), none]) hX dX8_matched_25 rfl (Nat.le_of_ble_eq_true rfl) (fun _ => rfl) hf (fun v1 hf => ?_)
    obtain ⟨e9, v7, v8, h10, hf⟩ := bd3_some hf
    refine G_mask (lv' := [some (.ref 117), some (.int p0), some (.int s2), some (.int (-4)), some (.int s4), some (.int v1), none]) [true, true, true, true, true, true, false] rfl rfl ?_
    refine lp_G (body := (fun s => fX8_matched_b27 p0 s2 s4 s.1 s.2 u)) (Gh := fun s => G w X Zm 27 [some (.ref 117), some (.int p0), some (.int s2), some (.int s.1), some (.int s4), some (.int s.2), none] [] u) (Gx := fun e s => G w X Zm 110 [some (.ref 117), some (.int p0), some (.int s2), some (.int s.1), some (.int s4), none, none] [] u) (fun s e s' hb K0 K1 => tX8_matched_b27 (s := s) (e := e) (s' := s') hX   hb K0 K1) fuel (((-4) : Int32), v1) (e9, v7, v8) h10 ?_
    refine G_iload_n hX dX8_matched_110 rfl ?_
    refine G_bipush (v := (-4)) hX dX8_matched_111 rfl ?_
    refine G_icmp_ne (tgt := 120) hX dX8_matched_113 rfl hf (fun hf => ?_) (fun hf => ?_)
    · refine G_iload_n hX dX8_matched_120 rfl ?_
      refine G_iconst (v := 1) hX dX8_matched_121 rfl ?_
      refine G_iload_n hX dX8_matched_122 rfl ?_
      refine G_ishl hX dX8_matched_123 ?_
      refine G_ior hX dX8_matched_124 ?_
      refine G_mask (lv' := [some (.ref 117), some (.int p0), none, some (.int v7), some (.int s4), none, none]) [true, true, false, true, true, false, false] rfl rfl ?_
      exact tX8_matched_j125 hX  K0 K1 hf
    · refine G_iload_n hX dX8_matched_116 rfl ?_
      refine G_goto (tgt := 125) hX dX8_matched_117 rfl ?_
      refine G_mask (lv' := [some (.ref 117), some (.int p0), none, some (.int v7), some (.int s4), none, none]) [true, true, false, true, true, false, false] rfl rfl ?_
      exact tX8_matched_j125 hX  K0 K1 hf
noncomputable def fX8_matched (p0 : Int32) (u : Um) : Option Int32 :=
  bd4 (lp (fun s => fX8_matched_b8 p0 s.1 s.2.1 s.2.2 u) fuel ((0 : Int32), ((-4) : Int32), (0 : Int32))) fun e15 v12 v13 v14 =>
  some v13
set_option maxHeartbeats 4000000 in
set_option maxRecDepth 100000 in
theorem mX8_matched (w : Wc) {p0 : Int32}  {u : Um} {r : Int32} (hf : fX8_matched p0 u = some r) : MC w 5 qX8_matched [.ref 117, .int p0] u (some (.int r)) u := by
  unfold fX8_matched at hf
  refine MC_intro pnX8 (Nat.le_of_ble_eq_true rfl) (fun X hX hR _ _ => ?_)
  have hX : OKc w X RX8 cX8_matched 5 := hX
  have hR : RT w X (some .int) 0 0 Pst 133 false (some (.int r)) u := hR
  refine G_eql (lv' := [some (.ref 117), some (.int p0), none, none, none, none, none]) rfl ?_
  refine G_iconst (v := 0) hX dX8_matched_0 rfl ?_
  refine G_istore_n (lv' := [some (.ref 117), some (.int p0), some (.int 0), none, none, none, none]) hX dX8_matched_1 rfl (Nat.le_of_ble_eq_true rfl) rfl ?_
  refine G_bipush (v := (-4)) hX dX8_matched_2 rfl ?_
  refine G_istore_n (lv' := [some (.ref 117), some (.int p0), some (.int 0), some (.int (-4)), none, none, none]) hX dX8_matched_4 rfl (Nat.le_of_ble_eq_true rfl) rfl ?_
  refine G_iconst (v := 0) hX dX8_matched_5 rfl ?_
  refine G_istore (lv' := [some (.ref 117), some (.int p0), some (.int 0), some (.int (-4)), some (.int 0), none, none]) hX dX8_matched_6 rfl (Nat.le_of_ble_eq_true rfl) rfl ?_
  obtain ⟨e15, v12, v13, v14, h16, hf⟩ := bd4_some hf
  refine G_mask (lv' := [some (.ref 117), some (.int p0), some (.int 0), some (.int (-4)), some (.int 0), none, none]) [true, true, true, true, true, false, false] rfl rfl ?_
  refine lp_G (body := (fun s => fX8_matched_b8 p0 s.1 s.2.1 s.2.2 u)) (Gh := fun s => G w X Zm 8 [some (.ref 117), some (.int p0), some (.int s.1), some (.int s.2.1), some (.int s.2.2), none, none] [] u) (Gx := fun e s => G w X Zm 132 [none, none, none, some (.int s.2.1), none, none, none] [] u) (fun s e s' hb K0 K1 => tX8_matched_b8 (s := s) (e := e) (s' := s') hX   hb K0 K1) fuel ((0 : Int32), ((-4) : Int32), (0 : Int32)) (e15, v12, v13, v14) h16 ?_
  refine G_iload_n hX dX8_matched_132 rfl ?_
  obtain rfl := Option.some.inj hf
  exact G_iret hX hR dX8_matched_133
noncomputable def fX8_match_j22 (p0 : Int32) (u : Um) : Option (Int32 × Um) :=
  bd1 (fX8_isThere  u) fun v2 =>
  if v2 = 0 then
    if p0 = (-1) then
      some ((-2), u)
    else
      some ((-1), u)
  else
    bd1 (fX8_layMatch  u) fun u4 =>
    if p0 = (-1) then
      if inb 0 576 = true then
      some ((((u4.1 128 (0 : Int32).toNatClampNeg) + 99) / 100), u4)
      else none
    else
      bd1 (fX8_matched p0 u4) fun v6 =>
      some (v6, u4)
set_option maxHeartbeats 4000000 in
set_option maxRecDepth 100000 in
theorem tX8_match_j22 {w : Wc} {X : MX} (hX : OKc w X RX8 cX8_match 6) {p0 : Int32} {u : Um} {r : Int32} {u' : Um} (hR : RT w X (some .int) 0 0 Pst 133 false (some (.int r)) u') (hf : fX8_match_j22 p0 u = some (r, u')) : G w X Zm 22 [some (.ref 117), some (.int p0)] [] u := by
  unfold fX8_match_j22 at hf
  refine G_aload_n hX dX8_match_22 rfl ?_
  obtain ⟨v2, h1, hf⟩ := bd1_some hf
  refine G_cV (as := []) (rest := []) hX cvX8_150 (mX8_isThere w h1) (Nat.le_of_ble_eq_true rfl) kK117 (Nat.le_of_ble_eq_true rfl) (Nat.le_of_ble_eq_true rfl) rfl rfl (Nat.le_of_ble_eq_true rfl) dX8_match_23 (st' := [.int v2]) rfl ?_
  refine G_if_ne (tgt := 41) hX dX8_match_26 rfl hf (fun hf => ?_) (fun hf => ?_)
  · refine G_aload_n hX dX8_match_41 rfl ?_
    obtain ⟨u4, h3, hf⟩ := bd1_some hf
    refine G_cV (as := []) (rest := []) hX cvX8_162 (mX8_layMatch w h3) (Nat.le_of_ble_eq_true rfl) kK117 (Nat.le_of_ble_eq_true rfl) (Nat.le_of_ble_eq_true rfl) rfl rfl (Nat.le_of_ble_eq_true rfl) dX8_match_42 (st' := []) rfl ?_
    refine G_iload_n hX dX8_match_45 rfl ?_
    refine G_iconst (v := (-1)) hX dX8_match_46 rfl ?_
    refine G_icmp_ne (tgt := 65) hX dX8_match_47 rfl hf (fun hf => ?_) (fun hf => ?_)
    · refine G_aload_n hX dX8_match_65 rfl ?_
      refine G_iload_n hX dX8_match_66 rfl ?_
      obtain ⟨v6, h5, hf⟩ := bd1_some hf
      refine G_cV (as := [.int p0]) (rest := []) hX cvX8_165 (mX8_matched w h5) (Nat.le_of_ble_eq_true rfl) kK117 (Nat.le_of_ble_eq_true rfl) (Nat.le_of_ble_eq_true rfl) rfl rfl (Nat.le_of_ble_eq_true rfl) dX8_match_67 (st' := [.int v6]) rfl ?_
      obtain ⟨rfl, rfl⟩ := ret2 hf
      exact G_iret hX hR dX8_match_70
    · refine G_aload_n hX dX8_match_50 rfl ?_
      refine G_getR (i := 13) (t := 128) hX kK117 (Nat.le_of_ble_eq_true rfl) (Nat.le_of_ble_eq_true rfl) rfl pK117_13 flX8_42 dX8_match_51 ?_
      refine G_iconst (v := 0) hX dX8_match_54 rfl ?_
      refine G_iald (n := 576) hX kK128 lK128 (Nat.le_of_ble_eq_true rfl) dX8_match_55 hf (fun hf => ?_)
      refine G_bipush (v := 99) hX dX8_match_56 rfl ?_
      refine G_iadd hX dX8_match_58 ?_
      refine G_bipush (v := 100) hX dX8_match_59 rfl ?_
      refine G_idiv hX dX8_match_61 (by decide) ?_
      refine G_goto (tgt := 70) hX dX8_match_62 rfl ?_
      obtain ⟨rfl, rfl⟩ := ret2 hf
      exact G_iret hX hR dX8_match_70
  · refine G_iload_n hX dX8_match_29 rfl ?_
    refine G_iconst (v := (-1)) hX dX8_match_30 rfl ?_
    refine G_icmp_ne (tgt := 39) hX dX8_match_31 rfl hf (fun hf => ?_) (fun hf => ?_)
    · refine G_iconst (v := (-1)) hX dX8_match_39 rfl ?_
      obtain ⟨rfl, rfl⟩ := ret2 hf
      exact G_iret hX hR dX8_match_40
    · refine G_bipush (v := (-2)) hX dX8_match_34 rfl ?_
      refine G_goto (tgt := 40) hX dX8_match_36 rfl ?_
      obtain ⟨rfl, rfl⟩ := ret2 hf
      exact G_iret hX hR dX8_match_40
noncomputable def fX8_match (p0 : Int32) (u : Um) : Option (Int32 × Um) :=
  if p0 = (-1) then
    fX8_match_j22 p0 u
  else
    bd1 (fX8_isWrong p0 u) fun v8 =>
    if v8 = 0 then
      bd1 (fX8_isThere  u) fun v10 =>
      if v10 = 0 then
        fX8_match_j22 p0 u
      else
        some ((-1), u)
    else
      fX8_match_j22 p0 u
set_option maxHeartbeats 4000000 in
set_option maxRecDepth 100000 in
theorem mX8_match (w : Wc) {p0 : Int32}  {u : Um} {r : Int32} {u' : Um} (hf : fX8_match p0 u = some (r, u')) : MC w 6 qX8_match [.ref 117, .int p0] u (some (.int r)) u' := by
  unfold fX8_match at hf
  refine MC_intro pnX8 (Nat.le_of_ble_eq_true rfl) (fun X hX hR _ _ => ?_)
  have hX : OKc w X RX8 cX8_match 6 := hX
  have hR : RT w X (some .int) 0 0 Pst 133 false (some (.int r)) u' := hR
  refine G_eql (lv' := [some (.ref 117), some (.int p0)]) rfl ?_
  refine G_iload_n hX dX8_match_0 rfl ?_
  refine G_iconst (v := (-1)) hX dX8_match_1 rfl ?_
  refine G_icmp_eq (tgt := 22) hX dX8_match_2 rfl hf (fun hf => ?_) (fun hf => ?_)
  · refine G_mask (lv' := [some (.ref 117), some (.int p0)]) [true, true] rfl rfl ?_
    exact tX8_match_j22 hX  hR hf
  · refine G_aload_n hX dX8_match_5 rfl ?_
    refine G_iload_n hX dX8_match_6 rfl ?_
    obtain ⟨v8, h7, hf⟩ := bd1_some hf
    refine G_cV (as := [.int p0]) (rest := []) hX cvX8_108 (mX8_isWrong w h7) (Nat.le_of_ble_eq_true rfl) kK117 (Nat.le_of_ble_eq_true rfl) (Nat.le_of_ble_eq_true rfl) rfl rfl (Nat.le_of_ble_eq_true rfl) dX8_match_7 (st' := [.int v8]) rfl ?_
    refine G_if_ne (tgt := 22) hX dX8_match_10 rfl hf (fun hf => ?_) (fun hf => ?_)
    · refine G_mask (lv' := [some (.ref 117), some (.int p0)]) [true, true] rfl rfl ?_
      exact tX8_match_j22 hX  hR hf
    · refine G_aload_n hX dX8_match_13 rfl ?_
      obtain ⟨v10, h9, hf⟩ := bd1_some hf
      refine G_cV (as := []) (rest := []) hX cvX8_150 (mX8_isThere w h9) (Nat.le_of_ble_eq_true rfl) kK117 (Nat.le_of_ble_eq_true rfl) (Nat.le_of_ble_eq_true rfl) rfl rfl (Nat.le_of_ble_eq_true rfl) dX8_match_14 (st' := [.int v10]) rfl ?_
      refine G_if_eq (tgt := 22) hX dX8_match_17 rfl hf (fun hf => ?_) (fun hf => ?_)
      · refine G_mask (lv' := [some (.ref 117), some (.int p0)]) [true, true] rfl rfl ?_
        exact tX8_match_j22 hX  hR hf
      · refine G_iconst (v := (-1)) hX dX8_match_20 rfl ?_
        obtain ⟨rfl, rfl⟩ := ret2 hf
        exact G_iret hX hR dX8_match_21
noncomputable def fX8_stepsTo_b5 (p0 : Int32) (p1 : Int32) (s3 : Int32) (s4 : Int32) (u : Um) : Option (Nat × Int32 × Int32) :=
  if 6 < s4 then
    some (1, s3, s4)
  else
    if s3 = (-4) then
      some (1, s3, s4)
    else
      if inb (33 + s3) 83 = true then
      nm (u.1 122 ((33 + s3)).toNatClampNeg) fun v1 =>
      if v1 = p1 then
        some (2, v1, s4)
      else
        nm (s4 + 1) fun v2 =>
        some (0, v1, v2)
      else none
set_option maxHeartbeats 4000000 in
set_option maxRecDepth 100000 in
theorem tX8_stepsTo_b5 {w : Wc} {X : MX} (hX : OKc w X RX8 cX8_stepsTo 1) {p0 : Int32} {p1 : Int32} {s : Int32 × Int32} {e : Nat} {s' : Int32 × Int32} {u : Um} (hf : fX8_stepsTo_b5 p0 p1 s.1 s.2 u = some (e, s')) (K0 : e = 0 → G w X Zm 5 [some (.ref 117), none, some (.int p1), some (.int s'.1), some (.int s'.2)] [] u) (K1 : e ≠ 0 → if e = 1 then G w X Zm 42 [none, none, none, none, none] [] u else G w X Zm 33 [none, none, none, none, some (.int s'.2)] [] u) : G w X Zm 5 [some (.ref 117), none, some (.int p1), some (.int s.1), some (.int s.2)] [] u := by
  obtain ⟨s3, s4⟩ := s
  unfold fX8_stepsTo_b5 at hf
  try dsimp only at hf ⊢
  refine G_iload hX dX8_stepsTo_5 rfl ?_
  refine G_bipush (v := 6) hX dX8_stepsTo_7 rfl ?_
  refine G_icmp_gt (tgt := 42) hX dX8_stepsTo_9 rfl hf (fun hf => ?_) (fun hf => ?_)
  · obtain ⟨rfl, rfl⟩ := ret2 hf
    refine G_mask (lv' := [none, none, none, none, none]) [false, false, false, false, false] rfl rfl ?_
    exact gx_hit (K1 (by decide))
  · refine G_iload_n hX dX8_stepsTo_12 rfl ?_
    refine G_bipush (v := (-4)) hX dX8_stepsTo_13 rfl ?_
    refine G_icmp_eq (tgt := 42) hX dX8_stepsTo_15 rfl hf (fun hf => ?_) (fun hf => ?_)
    · obtain ⟨rfl, rfl⟩ := ret2 hf
      refine G_mask (lv' := [none, none, none, none, none]) [false, false, false, false, false] rfl rfl ?_
      exact gx_hit (K1 (by decide))
    · refine G_aload_n hX dX8_stepsTo_18 rfl ?_
      refine G_getR (i := 6) (t := 122) hX kK117 (Nat.le_of_ble_eq_true rfl) (Nat.le_of_ble_eq_true rfl) rfl pK117_6 flX8_23 dX8_stepsTo_19 ?_
      refine G_bipush (v := 33) hX dX8_stepsTo_22 rfl ?_
      refine G_iload_n hX dX8_stepsTo_24 rfl ?_
      refine G_iadd hX dX8_stepsTo_25 ?_
      refine G_iald (n := 83) hX kK122 lK122 (Nat.le_of_ble_eq_true rfl) dX8_stepsTo_26 hf (fun hf => ?_)
      refine G_istore_nF (lvf := fun v1 => [some (.ref 117), none, some (.int p1), some (.int v1), some (.int s4)]) hX dX8_stepsTo_27 rfl (Nat.le_of_ble_eq_true rfl) (fun _ => rfl) hf (fun v1 hf => ?_)
      refine G_iload_n hX dX8_stepsTo_28 rfl ?_
      refine G_iload_n hX dX8_stepsTo_29 rfl ?_
      refine G_icmp_ne (tgt := 36) hX dX8_stepsTo_30 rfl hf (fun hf => ?_) (fun hf => ?_)
      · refine G_iincF (lvf := fun v2 => [some (.ref 117), none, some (.int p1), some (.int v1), some (.int v2)]) hX dX8_stepsTo_36 rfl rfl rfl (Nat.le_of_ble_eq_true rfl) (fun _ => rfl) hf (fun v2 hf => ?_)
        refine G_goto (tgt := 5) hX dX8_stepsTo_39 rfl ?_
        obtain ⟨rfl, rfl⟩ := ret2 hf
        refine G_mask (lv' := [some (.ref 117), none, some (.int p1), some (.int v1), some (.int v2)]) [true, false, true, true, true] rfl rfl ?_
        exact K0 rfl
      · obtain ⟨rfl, rfl⟩ := ret2 hf
        refine G_mask (lv' := [none, none, none, none, some (.int s4)]) [false, false, false, false, true] rfl rfl ?_
        exact gx_miss (by decide) (K1 (by decide))
noncomputable def fX8_stepsTo (p0 : Int32) (p1 : Int32) (u : Um) : Option Int32 :=
  bd3 (lp (fun s => fX8_stepsTo_b5 p0 p1 s.1 s.2 u) fuel (p0, (1 : Int32))) fun e5 v3 v4 =>
  if e5 = 1 then
    some (-4)
  else
  some v4
set_option maxHeartbeats 4000000 in
set_option maxRecDepth 100000 in
theorem mX8_stepsTo (w : Wc) {p0 : Int32} {p1 : Int32}  {u : Um} {r : Int32} (hf : fX8_stepsTo p0 p1 u = some r) : MC w 1 qX8_stepsTo [.ref 117, .int p0, .int p1] u (some (.int r)) u := by
  unfold fX8_stepsTo at hf
  refine MC_intro pnX8 (Nat.le_of_ble_eq_true rfl) (fun X hX hR _ _ => ?_)
  have hX : OKc w X RX8 cX8_stepsTo 1 := hX
  have hR : RT w X (some .int) 0 0 Pst 133 false (some (.int r)) u := hR
  refine G_eql (lv' := [some (.ref 117), some (.int p0), some (.int p1), none, none]) rfl ?_
  refine G_iload_n hX dX8_stepsTo_0 rfl ?_
  refine G_istore_n (lv' := [some (.ref 117), some (.int p0), some (.int p1), some (.int p0), none]) hX dX8_stepsTo_1 rfl (Nat.le_of_ble_eq_true rfl) rfl ?_
  refine G_iconst (v := 1) hX dX8_stepsTo_2 rfl ?_
  refine G_istore (lv' := [some (.ref 117), some (.int p0), some (.int p1), some (.int p0), some (.int 1)]) hX dX8_stepsTo_3 rfl (Nat.le_of_ble_eq_true rfl) rfl ?_
  obtain ⟨e5, v3, v4, h6, hf⟩ := bd3_some hf
  refine G_mask (lv' := [some (.ref 117), none, some (.int p1), some (.int p0), some (.int 1)]) [true, false, true, true, true] rfl rfl ?_
  refine lp_G (body := (fun s => fX8_stepsTo_b5 p0 p1 s.1 s.2 u)) (Gh := fun s => G w X Zm 5 [some (.ref 117), none, some (.int p1), some (.int s.1), some (.int s.2)] [] u) (Gx := fun e s => if e = 1 then G w X Zm 42 [none, none, none, none, none] [] u else G w X Zm 33 [none, none, none, none, some (.int s.2)] [] u) (fun s e s' hb K0 K1 => tX8_stepsTo_b5 (s := s) (e := e) (s' := s') hX   hb K0 K1) fuel (p0, (1 : Int32)) (e5, v3, v4) h6 ?_
  refine gx2 hf (fun hf => ?_) (fun hf => ?_)
  · refine G_bipush (v := (-4)) hX dX8_stepsTo_42 rfl ?_
    obtain rfl := Option.some.inj hf
    exact G_iret hX hR dX8_stepsTo_44
  refine G_iload hX dX8_stepsTo_33 rfl ?_
  obtain rfl := Option.some.inj hf
  exact G_iret hX hR dX8_stepsTo_35
noncomputable def fX8_chain_b24 (p0 : Int32) (p1 : Int32) (s3 : Int32) (s4 : Int32) (u : Um) : Option (Nat × Int32 × Int32) :=
  if s3 = (-4) then
    some (1, s3, s4)
  else
    bd1 (fX8_stepsTo s3 s3 u) fun v6 =>
    if v6 = (-4) then
      if inb (33 + s3) 83 = true then
      nm (u.1 122 ((33 + s3)).toNatClampNeg) fun v7 =>
      nm (s4 + 1) fun v8 =>
      some (0, v7, v8)
      else none
    else
      some (1, s3, s4)
set_option maxHeartbeats 4000000 in
set_option maxRecDepth 100000 in
theorem tX8_chain_b24 {w : Wc} {X : MX} (hX : OKc w X RX8 cX8_chain 3) {p0 : Int32} {p1 : Int32} {s : Int32 × Int32} {e : Nat} {s' : Int32 × Int32} {u : Um} (hf : fX8_chain_b24 p0 p1 s.1 s.2 u = some (e, s')) (K0 : e = 0 → G w X Zm 24 [some (.ref 117), none, some (.int p1), some (.int s'.1), some (.int s'.2)] [] u) (K1 : e ≠ 0 → G w X Zm 57 [some (.ref 117), none, some (.int p1), some (.int s'.1), some (.int s'.2)] [] u) : G w X Zm 24 [some (.ref 117), none, some (.int p1), some (.int s.1), some (.int s.2)] [] u := by
  obtain ⟨s3, s4⟩ := s
  unfold fX8_chain_b24 at hf
  try dsimp only at hf ⊢
  refine G_iload_n hX dX8_chain_24 rfl ?_
  refine G_bipush (v := (-4)) hX dX8_chain_25 rfl ?_
  refine G_icmp_eq (tgt := 57) hX dX8_chain_27 rfl hf (fun hf => ?_) (fun hf => ?_)
  · obtain ⟨rfl, rfl⟩ := ret2 hf
    refine G_mask (lv' := [some (.ref 117), none, some (.int p1), some (.int s3), some (.int s4)]) [true, false, true, true, true] rfl rfl ?_
    exact K1 (by decide)
  · refine G_aload_n hX dX8_chain_30 rfl ?_
    refine G_iload_n hX dX8_chain_31 rfl ?_
    refine G_iload_n hX dX8_chain_32 rfl ?_
    obtain ⟨v6, h5, hf⟩ := bd1_some hf
    refine G_cV (as := [.int s3, .int s3]) (rest := []) hX cvX8_168 (mX8_stepsTo w h5) (Nat.le_of_ble_eq_true rfl) kK117 (Nat.le_of_ble_eq_true rfl) (Nat.le_of_ble_eq_true rfl) rfl rfl (Nat.le_of_ble_eq_true rfl) dX8_chain_33 (st' := [.int v6]) rfl ?_
    refine G_bipush (v := (-4)) hX dX8_chain_36 rfl ?_
    refine G_icmp_ne (tgt := 57) hX dX8_chain_38 rfl hf (fun hf => ?_) (fun hf => ?_)
    · obtain ⟨rfl, rfl⟩ := ret2 hf
      refine G_mask (lv' := [some (.ref 117), none, some (.int p1), some (.int s3), some (.int s4)]) [true, false, true, true, true] rfl rfl ?_
      exact K1 (by decide)
    · refine G_aload_n hX dX8_chain_41 rfl ?_
      refine G_getR (i := 6) (t := 122) hX kK117 (Nat.le_of_ble_eq_true rfl) (Nat.le_of_ble_eq_true rfl) rfl pK117_6 flX8_23 dX8_chain_42 ?_
      refine G_bipush (v := 33) hX dX8_chain_45 rfl ?_
      refine G_iload_n hX dX8_chain_47 rfl ?_
      refine G_iadd hX dX8_chain_48 ?_
      refine G_iald (n := 83) hX kK122 lK122 (Nat.le_of_ble_eq_true rfl) dX8_chain_49 hf (fun hf => ?_)
      refine G_istore_nF (lvf := fun v7 => [some (.ref 117), none, some (.int p1), some (.int v7), some (.int s4)]) hX dX8_chain_50 rfl (Nat.le_of_ble_eq_true rfl) (fun _ => rfl) hf (fun v7 hf => ?_)
      refine G_iincF (lvf := fun v8 => [some (.ref 117), none, some (.int p1), some (.int v7), some (.int v8)]) hX dX8_chain_51 rfl rfl rfl (Nat.le_of_ble_eq_true rfl) (fun _ => rfl) hf (fun v8 hf => ?_)
      refine G_goto (tgt := 24) hX dX8_chain_54 rfl ?_
      obtain ⟨rfl, rfl⟩ := ret2 hf
      refine G_mask (lv' := [some (.ref 117), none, some (.int p1), some (.int v7), some (.int v8)]) [true, false, true, true, true] rfl rfl ?_
      exact K0 rfl
noncomputable def fX8_chain (p0 : Int32) (p1 : Int32) (u : Um) : Option Int32 :=
  bd1 (fX8_isOne p0 u) fun v2 =>
  if v2 = 0 then
    some (-1)
  else
    bd1 (fX8_in p1 0 1 u) fun v4 =>
    if v4 = 0 then
      some (-1)
    else
      bd3 (lp (fun s => fX8_chain_b24 p0 p1 s.1 s.2 u) fuel (p0, (0 : Int32))) fun e11 v9 v10 =>
      if p1 = 0 then
        some v10
      else
        if v9 = (-4) then
          some 0
        else
          bd1 (fX8_stepsTo v9 v9 u) fun v14 =>
          some v14
set_option maxHeartbeats 4000000 in
set_option maxRecDepth 100000 in
theorem mX8_chain (w : Wc) {p0 : Int32} {p1 : Int32}  {u : Um} {r : Int32} (hf : fX8_chain p0 p1 u = some r) : MC w 3 qX8_chain [.ref 117, .int p0, .int p1] u (some (.int r)) u := by
  unfold fX8_chain at hf
  refine MC_intro pnX8 (Nat.le_of_ble_eq_true rfl) (fun X hX hR _ _ => ?_)
  have hX : OKc w X RX8 cX8_chain 3 := hX
  have hR : RT w X (some .int) 0 0 Pst 133 false (some (.int r)) u := hR
  refine G_eql (lv' := [some (.ref 117), some (.int p0), some (.int p1), none, none]) rfl ?_
  refine G_aload_n hX dX8_chain_0 rfl ?_
  refine G_iload_n hX dX8_chain_1 rfl ?_
  obtain ⟨v2, h1, hf⟩ := bd1_some hf
  refine G_cV (as := [.int p0]) (rest := []) hX cvX8_105 (mX8_isOne w h1) (Nat.le_of_ble_eq_true rfl) kK117 (Nat.le_of_ble_eq_true rfl) (Nat.le_of_ble_eq_true rfl) rfl rfl (Nat.le_of_ble_eq_true rfl) dX8_chain_2 (st' := [.int v2]) rfl ?_
  refine G_if_eq (tgt := 17) hX dX8_chain_5 rfl hf (fun hf => ?_) (fun hf => ?_)
  · refine G_iconst (v := (-1)) hX dX8_chain_17 rfl ?_
    obtain rfl := Option.some.inj hf
    exact G_iret hX hR dX8_chain_18
  · refine G_iload_n hX dX8_chain_8 rfl ?_
    refine G_iconst (v := 0) hX dX8_chain_9 rfl ?_
    refine G_iconst (v := 1) hX dX8_chain_10 rfl ?_
    obtain ⟨v4, h3, hf⟩ := bd1_some hf
    refine G_cS (as := [.int p1, .int 0, .int 1]) (rest := []) hX csX8_57 (mX8_in w h3) (Nat.le_of_ble_eq_true rfl) rfl rfl (Nat.le_of_ble_eq_true rfl) dX8_chain_11 (st' := [.int v4]) rfl ?_
    refine G_if_ne (tgt := 19) hX dX8_chain_14 rfl hf (fun hf => ?_) (fun hf => ?_)
    · refine G_iload_n hX dX8_chain_19 rfl ?_
      refine G_istore_n (lv' := [some (.ref 117), some (.int p0), some (.int p1), some (.int p0), none]) hX dX8_chain_20 rfl (Nat.le_of_ble_eq_true rfl) rfl ?_
      refine G_iconst (v := 0) hX dX8_chain_21 rfl ?_
      refine G_istore (lv' := [some (.ref 117), some (.int p0), some (.int p1), some (.int p0), some (.int 0)]) hX dX8_chain_22 rfl (Nat.le_of_ble_eq_true rfl) rfl ?_
      obtain ⟨e11, v9, v10, h12, hf⟩ := bd3_some hf
      refine G_mask (lv' := [some (.ref 117), none, some (.int p1), some (.int p0), some (.int 0)]) [true, false, true, true, true] rfl rfl ?_
      refine lp_G (body := (fun s => fX8_chain_b24 p0 p1 s.1 s.2 u)) (Gh := fun s => G w X Zm 24 [some (.ref 117), none, some (.int p1), some (.int s.1), some (.int s.2)] [] u) (Gx := fun e s => G w X Zm 57 [some (.ref 117), none, some (.int p1), some (.int s.1), some (.int s.2)] [] u) (fun s e s' hb K0 K1 => tX8_chain_b24 (s := s) (e := e) (s' := s') hX   hb K0 K1) fuel (p0, (0 : Int32)) (e11, v9, v10) h12 ?_
      refine G_iload_n hX dX8_chain_57 rfl ?_
      refine G_if_ne (tgt := 66) hX dX8_chain_58 rfl hf (fun hf => ?_) (fun hf => ?_)
      · refine G_iload_n hX dX8_chain_66 rfl ?_
        refine G_bipush (v := (-4)) hX dX8_chain_67 rfl ?_
        refine G_icmp_ne (tgt := 76) hX dX8_chain_69 rfl hf (fun hf => ?_) (fun hf => ?_)
        · refine G_aload_n hX dX8_chain_76 rfl ?_
          refine G_iload_n hX dX8_chain_77 rfl ?_
          refine G_iload_n hX dX8_chain_78 rfl ?_
          obtain ⟨v14, h13, hf⟩ := bd1_some hf
          refine G_cV (as := [.int v9, .int v9]) (rest := []) hX cvX8_168 (mX8_stepsTo w h13) (Nat.le_of_ble_eq_true rfl) kK117 (Nat.le_of_ble_eq_true rfl) (Nat.le_of_ble_eq_true rfl) rfl rfl (Nat.le_of_ble_eq_true rfl) dX8_chain_79 (st' := [.int v14]) rfl ?_
          obtain rfl := Option.some.inj hf
          exact G_iret hX hR dX8_chain_82
        · refine G_iconst (v := 0) hX dX8_chain_72 rfl ?_
          refine G_goto (tgt := 82) hX dX8_chain_73 rfl ?_
          obtain rfl := Option.some.inj hf
          exact G_iret hX hR dX8_chain_82
      · refine G_iload hX dX8_chain_61 rfl ?_
        refine G_goto (tgt := 82) hX dX8_chain_63 rfl ?_
        obtain rfl := Option.some.inj hf
        exact G_iret hX hR dX8_chain_82
    · refine G_iconst (v := (-1)) hX dX8_chain_17 rfl ?_
      obtain rfl := Option.some.inj hf
      exact G_iret hX hR dX8_chain_18
noncomputable def fX8_reach_j51 (p0 : Int32) (p1 : Int32) (j3 : Int32) (z0 : Int32) (z1 : Int32) (u : Um) : Option (Nat × Int32 × Um) :=
  if inb z1 10 = true then
  nm (sI u 129 z1.toNatClampNeg z0) fun u5 =>
  nm (j3 + 1) fun v6 =>
  some (0, v6, u5)
  else none
set_option maxHeartbeats 4000000 in
set_option maxRecDepth 100000 in
theorem tX8_reach_j51 {w : Wc} {X : MX} (hX : OKc w X RX8 cX8_reach 3) {p0 : Int32} {p1 : Int32} {j3 : Int32} {z0 : Int32} {z1 : Int32}  {u : Um} {e : Nat} {s' : Int32 × Um} (K0 : e = 0 → G w X Zm 22 [some (.ref 117), some (.int p0), some (.int p1), some (.int s'.1), none, none, none, none] [] s'.2) (K1 : e ≠ 0 → G w X Zm 58 [some (.ref 117), none, some (.int p1), none, none, none, none, none] [] s'.2) (hf : fX8_reach_j51 p0 p1 j3 z0 z1 u = some (e, s')) : G w X Zm 51 [some (.ref 117), some (.int p0), some (.int p1), some (.int j3), none, none, none, none] [.int z0, .int z1, .ref 129] u := by
  unfold fX8_reach_j51 at hf
  refine G_iast (n := 10) hX kK129 lK129 (Nat.le_of_ble_eq_true rfl) rfl dX8_reach_51 hf (fun u5 hf => ?_)
  refine G_iincF (lvf := fun v6 => [some (.ref 117), some (.int p0), some (.int p1), some (.int v6), none, none, none, none]) hX dX8_reach_52 rfl rfl rfl (Nat.le_of_ble_eq_true rfl) (fun _ => rfl) hf (fun v6 hf => ?_)
  refine G_goto (tgt := 22) hX dX8_reach_55 rfl ?_
  obtain ⟨rfl, rfl⟩ := ret2 hf
  refine G_mask (lv' := [some (.ref 117), some (.int p0), some (.int p1), some (.int v6), none, none, none, none]) [true, true, true, true, false, false, false, false] rfl rfl ?_
  exact K0 rfl
noncomputable def fX8_reach_b22 (p0 : Int32) (p1 : Int32) (s3 : Int32) (u : Um) : Option (Nat × Int32 × Um) :=
  if 10 ≤ s3 then
    some (1, s3, u)
  else
    if inb (27 + p0) 83 = true then
    if s3 = (u.1 122 ((27 + p0)).toNatClampNeg) then
      fX8_reach_j51 p0 p1 s3 1 s3 u
    else
      fX8_reach_j51 p0 p1 s3 0 s3 u
    else none
set_option maxHeartbeats 4000000 in
set_option maxRecDepth 100000 in
theorem tX8_reach_b22 {w : Wc} {X : MX} (hX : OKc w X RX8 cX8_reach 3) {p0 : Int32} {p1 : Int32} {s : Int32 × Um} {e : Nat} {s' : Int32 × Um} (hf : fX8_reach_b22 p0 p1 s.1 s.2 = some (e, s')) (K0 : e = 0 → G w X Zm 22 [some (.ref 117), some (.int p0), some (.int p1), some (.int s'.1), none, none, none, none] [] s'.2) (K1 : e ≠ 0 → G w X Zm 58 [some (.ref 117), none, some (.int p1), none, none, none, none, none] [] s'.2) : G w X Zm 22 [some (.ref 117), some (.int p0), some (.int p1), some (.int s.1), none, none, none, none] [] s.2 := by
  obtain ⟨s3, u⟩ := s
  unfold fX8_reach_b22 at hf
  try dsimp only at hf ⊢
  refine G_iload_n hX dX8_reach_22 rfl ?_
  refine G_bipush (v := 10) hX dX8_reach_23 rfl ?_
  refine G_icmp_ge (tgt := 58) hX dX8_reach_25 rfl hf (fun hf => ?_) (fun hf => ?_)
  · obtain ⟨rfl, rfl⟩ := ret2 hf
    refine G_mask (lv' := [some (.ref 117), none, some (.int p1), none, none, none, none, none]) [true, false, true, false, false, false, false, false] rfl rfl ?_
    exact K1 (by decide)
  · refine G_aload_n hX dX8_reach_28 rfl ?_
    refine G_getR (i := 14) (t := 129) hX kK117 (Nat.le_of_ble_eq_true rfl) (Nat.le_of_ble_eq_true rfl) rfl pK117_14 flX8_45 dX8_reach_29 ?_
    refine G_iload_n hX dX8_reach_32 rfl ?_
    refine G_iload_n hX dX8_reach_33 rfl ?_
    refine G_aload_n hX dX8_reach_34 rfl ?_
    refine G_getR (i := 6) (t := 122) hX kK117 (Nat.le_of_ble_eq_true rfl) (Nat.le_of_ble_eq_true rfl) rfl pK117_6 flX8_23 dX8_reach_35 ?_
    refine G_bipush (v := 27) hX dX8_reach_38 rfl ?_
    refine G_iload_n hX dX8_reach_40 rfl ?_
    refine G_iadd hX dX8_reach_41 ?_
    refine G_iald (n := 83) hX kK122 lK122 (Nat.le_of_ble_eq_true rfl) dX8_reach_42 hf (fun hf => ?_)
    refine G_icmp_ne (tgt := 50) hX dX8_reach_43 rfl hf (fun hf => ?_) (fun hf => ?_)
    · refine G_iconst (v := 0) hX dX8_reach_50 rfl ?_
      refine G_mask (lv' := [some (.ref 117), some (.int p0), some (.int p1), some (.int s3), none, none, none, none]) [true, true, true, true, false, false, false, false] rfl rfl ?_
      exact tX8_reach_j51 hX  K0 K1 hf
    · refine G_iconst (v := 1) hX dX8_reach_46 rfl ?_
      refine G_goto (tgt := 51) hX dX8_reach_47 rfl ?_
      refine G_mask (lv' := [some (.ref 117), some (.int p0), some (.int p1), some (.int s3), none, none, none, none]) [true, true, true, true, false, false, false, false] rfl rfl ?_
      exact tX8_reach_j51 hX  K0 K1 hf
noncomputable def fX8_reach_j183 (p0 : Int32) (p1 : Int32) (i3 : Int32) (i4 : Int32) (i5 : Int32) (j6 : Int32) (z0 : Int32) (z1 : Int32) (u : Um) : Option (Nat × Int32 × Um) :=
  if inb z1 10 = true then
  nm (sI u 130 z1.toNatClampNeg z0) fun u12 =>
  nm (j6 + 1) fun v13 =>
  some (0, v13, u12)
  else none
set_option maxHeartbeats 4000000 in
set_option maxRecDepth 100000 in
theorem tX8_reach_j183 {w : Wc} {X : MX} (hX : OKc w X RX8 cX8_reach 3) {p0 : Int32} {p1 : Int32} {i3 : Int32} {i4 : Int32} {i5 : Int32} {j6 : Int32} {z0 : Int32} {z1 : Int32}  {u : Um} {e : Nat} {s' : Int32 × Um} (K0 : e = 0 → G w X Zm 110 [some (.ref 117), none, some (.int p1), some (.int i3), some (.int i4), some (.int i5), some (.int s'.1), none] [] s'.2) (K1 : e ≠ 0 → G w X Zm 190 [some (.ref 117), none, some (.int p1), some (.int i3), some (.int i4), some (.int i5), none, none] [] s'.2) (hf : fX8_reach_j183 p0 p1 i3 i4 i5 j6 z0 z1 u = some (e, s')) : G w X Zm 183 [some (.ref 117), none, some (.int p1), some (.int i3), some (.int i4), some (.int i5), some (.int j6), none] [.int z0, .int z1, .ref 130] u := by
  unfold fX8_reach_j183 at hf
  refine G_iast (n := 10) hX kK130 lK130 (Nat.le_of_ble_eq_true rfl) rfl dX8_reach_183 hf (fun u12 hf => ?_)
  refine G_iincF (lvf := fun v13 => [some (.ref 117), none, some (.int p1), some (.int i3), some (.int i4), some (.int i5), some (.int v13), none]) hX dX8_reach_184 rfl rfl rfl (Nat.le_of_ble_eq_true rfl) (fun _ => rfl) hf (fun v13 hf => ?_)
  refine G_goto (tgt := 110) hX dX8_reach_187 rfl ?_
  obtain ⟨rfl, rfl⟩ := ret2 hf
  refine G_mask (lv' := [some (.ref 117), none, some (.int p1), some (.int i3), some (.int i4), some (.int i5), some (.int v13), none]) [true, false, true, true, true, true, true, false] rfl rfl ?_
  exact K0 rfl
noncomputable def fX8_reach_j159 (p0 : Int32) (p1 : Int32) (i3 : Int32) (i4 : Int32) (i5 : Int32) (j6 : Int32) (z0 : Int32) (u : Um) : Option (Nat × Int32 × Um) :=
  if z0 = 0 then
    if inb i5 10 = true then
    fX8_reach_j183 p0 p1 i3 i4 i5 j6 (u.1 130 i5.toNatClampNeg) i5 u
    else none
  else
    fX8_reach_j183 p0 p1 i3 i4 i5 j6 1 i5 u
set_option maxHeartbeats 4000000 in
set_option maxRecDepth 100000 in
theorem tX8_reach_j159 {w : Wc} {X : MX} (hX : OKc w X RX8 cX8_reach 3) {p0 : Int32} {p1 : Int32} {i3 : Int32} {i4 : Int32} {i5 : Int32} {j6 : Int32} {z0 : Int32}  {u : Um} {e : Nat} {s' : Int32 × Um} (K0 : e = 0 → G w X Zm 110 [some (.ref 117), none, some (.int p1), some (.int i3), some (.int i4), some (.int i5), some (.int s'.1), none] [] s'.2) (K1 : e ≠ 0 → G w X Zm 190 [some (.ref 117), none, some (.int p1), some (.int i3), some (.int i4), some (.int i5), none, none] [] s'.2) (hf : fX8_reach_j159 p0 p1 i3 i4 i5 j6 z0 u = some (e, s')) : G w X Zm 159 [some (.ref 117), none, some (.int p1), some (.int i3), some (.int i4), some (.int i5), some (.int j6), none] [.int z0] u := by
  unfold fX8_reach_j159 at hf
  refine G_istore (lv' := [some (.ref 117), none, some (.int p1), some (.int i3), some (.int i4), some (.int i5), some (.int j6), some (.int z0)]) hX dX8_reach_159 rfl (Nat.le_of_ble_eq_true rfl) rfl ?_
  refine G_aload_n hX dX8_reach_161 rfl ?_
  refine G_getR (i := 15) (t := 130) hX kK117 (Nat.le_of_ble_eq_true rfl) (Nat.le_of_ble_eq_true rfl) rfl pK117_15 flX8_48 dX8_reach_162 ?_
  refine G_iload hX dX8_reach_165 rfl ?_
  refine G_iload hX dX8_reach_167 rfl ?_
  refine G_if_eq (tgt := 176) hX dX8_reach_169 rfl hf (fun hf => ?_) (fun hf => ?_)
  · refine G_aload_n hX dX8_reach_176 rfl ?_
    refine G_getR (i := 15) (t := 130) hX kK117 (Nat.le_of_ble_eq_true rfl) (Nat.le_of_ble_eq_true rfl) rfl pK117_15 flX8_48 dX8_reach_177 ?_
    refine G_iload hX dX8_reach_180 rfl ?_
    refine G_iald (n := 10) hX kK130 lK130 (Nat.le_of_ble_eq_true rfl) dX8_reach_182 hf (fun hf => ?_)
    refine G_mask (lv' := [some (.ref 117), none, some (.int p1), some (.int i3), some (.int i4), some (.int i5), some (.int j6), none]) [true, false, true, true, true, true, true, false] rfl rfl ?_
    exact tX8_reach_j183 hX  K0 K1 hf
  · refine G_iconst (v := 1) hX dX8_reach_172 rfl ?_
    refine G_goto (tgt := 183) hX dX8_reach_173 rfl ?_
    refine G_mask (lv' := [some (.ref 117), none, some (.int p1), some (.int i3), some (.int i4), some (.int i5), some (.int j6), none]) [true, false, true, true, true, true, true, false] rfl rfl ?_
    exact tX8_reach_j183 hX  K0 K1 hf
noncomputable def fX8_reach_j158 (p0 : Int32) (p1 : Int32) (i3 : Int32) (i4 : Int32) (i5 : Int32) (j6 : Int32) (u : Um) : Option (Nat × Int32 × Um) :=
  fX8_reach_j159 p0 p1 i3 i4 i5 j6 0 u
set_option maxHeartbeats 4000000 in
set_option maxRecDepth 100000 in
theorem tX8_reach_j158 {w : Wc} {X : MX} (hX : OKc w X RX8 cX8_reach 3) {p0 : Int32} {p1 : Int32} {i3 : Int32} {i4 : Int32} {i5 : Int32} {j6 : Int32}  {u : Um} {e : Nat} {s' : Int32 × Um} (K0 : e = 0 → G w X Zm 110 [some (.ref 117), none, some (.int p1), some (.int i3), some (.int i4), some (.int i5), some (.int s'.1), none] [] s'.2) (K1 : e ≠ 0 → G w X Zm 190 [some (.ref 117), none, some (.int p1), some (.int i3), some (.int i4), some (.int i5), none, none] [] s'.2) (hf : fX8_reach_j158 p0 p1 i3 i4 i5 j6 u = some (e, s')) : G w X Zm 158 [some (.ref 117), none, some (.int p1), some (.int i3), some (.int i4), some (.int i5), some (.int j6), none] [] u := by
  unfold fX8_reach_j158 at hf
  refine G_iconst (v := 0) hX dX8_reach_158 rfl ?_
  refine G_mask (lv' := [some (.ref 117), none, some (.int p1), some (.int i3), some (.int i4), some (.int i5), some (.int j6), none]) [true, false, true, true, true, true, true, false] rfl rfl ?_
  exact tX8_reach_j159 hX  K0 K1 hf
noncomputable def fX8_reach_j154 (p0 : Int32) (p1 : Int32) (i3 : Int32) (i4 : Int32) (i5 : Int32) (j6 : Int32) (u : Um) : Option (Nat × Int32 × Um) :=
  fX8_reach_j159 p0 p1 i3 i4 i5 j6 1 u
set_option maxHeartbeats 4000000 in
set_option maxRecDepth 100000 in
theorem tX8_reach_j154 {w : Wc} {X : MX} (hX : OKc w X RX8 cX8_reach 3) {p0 : Int32} {p1 : Int32} {i3 : Int32} {i4 : Int32} {i5 : Int32} {j6 : Int32}  {u : Um} {e : Nat} {s' : Int32 × Um} (K0 : e = 0 → G w X Zm 110 [some (.ref 117), none, some (.int p1), some (.int i3), some (.int i4), some (.int i5), some (.int s'.1), none] [] s'.2) (K1 : e ≠ 0 → G w X Zm 190 [some (.ref 117), none, some (.int p1), some (.int i3), some (.int i4), some (.int i5), none, none] [] s'.2) (hf : fX8_reach_j154 p0 p1 i3 i4 i5 j6 u = some (e, s')) : G w X Zm 154 [some (.ref 117), none, some (.int p1), some (.int i3), some (.int i4), some (.int i5), some (.int j6), none] [] u := by
  unfold fX8_reach_j154 at hf
  refine G_iconst (v := 1) hX dX8_reach_154 rfl ?_
  refine G_goto (tgt := 159) hX dX8_reach_155 rfl ?_
  refine G_mask (lv' := [some (.ref 117), none, some (.int p1), some (.int i3), some (.int i4), some (.int i5), some (.int j6), none]) [true, false, true, true, true, true, true, false] rfl rfl ?_
  exact tX8_reach_j159 hX  K0 K1 hf
noncomputable def fX8_reach_b110 (p0 : Int32) (p1 : Int32) (i3 : Int32) (i4 : Int32) (i5 : Int32) (s6 : Int32) (u : Um) : Option (Nat × Int32 × Um) :=
  if 10 ≤ s6 then
    some (1, s6, u)
  else
    if inb s6 10 = true then
    if (u.1 129 s6.toNatClampNeg) = 1 then
      bd1 (fX8_milesOf s6 i5 u) fun v15 =>
      if 3 < v15 then
        fX8_reach_j158 p0 p1 i3 i4 i5 s6 u
      else
        if i4 = 0 then
          bd1 (fX8_isOverSands s6 i5 u) fun v17 =>
          if v17 = 0 then
            fX8_reach_j154 p0 p1 i3 i4 i5 s6 u
          else
            fX8_reach_j158 p0 p1 i3 i4 i5 s6 u
        else
          fX8_reach_j154 p0 p1 i3 i4 i5 s6 u
    else
      fX8_reach_j158 p0 p1 i3 i4 i5 s6 u
    else none
set_option maxHeartbeats 4000000 in
set_option maxRecDepth 100000 in
theorem tX8_reach_b110 {w : Wc} {X : MX} (hX : OKc w X RX8 cX8_reach 3) {p0 : Int32} {p1 : Int32} {i3 : Int32} {i4 : Int32} {i5 : Int32} {s : Int32 × Um} {e : Nat} {s' : Int32 × Um} (hf : fX8_reach_b110 p0 p1 i3 i4 i5 s.1 s.2 = some (e, s')) (K0 : e = 0 → G w X Zm 110 [some (.ref 117), none, some (.int p1), some (.int i3), some (.int i4), some (.int i5), some (.int s'.1), none] [] s'.2) (K1 : e ≠ 0 → G w X Zm 190 [some (.ref 117), none, some (.int p1), some (.int i3), some (.int i4), some (.int i5), none, none] [] s'.2) : G w X Zm 110 [some (.ref 117), none, some (.int p1), some (.int i3), some (.int i4), some (.int i5), some (.int s.1), none] [] s.2 := by
  obtain ⟨s6, u⟩ := s
  unfold fX8_reach_b110 at hf
  try dsimp only at hf ⊢
  refine G_iload hX dX8_reach_110 rfl ?_
  refine G_bipush (v := 10) hX dX8_reach_112 rfl ?_
  refine G_icmp_ge (tgt := 190) hX dX8_reach_114 rfl hf (fun hf => ?_) (fun hf => ?_)
  · obtain ⟨rfl, rfl⟩ := ret2 hf
    refine G_mask (lv' := [some (.ref 117), none, some (.int p1), some (.int i3), some (.int i4), some (.int i5), none, none]) [true, false, true, true, true, true, false, false] rfl rfl ?_
    exact K1 (by decide)
  · refine G_aload_n hX dX8_reach_117 rfl ?_
    refine G_getR (i := 14) (t := 129) hX kK117 (Nat.le_of_ble_eq_true rfl) (Nat.le_of_ble_eq_true rfl) rfl pK117_14 flX8_45 dX8_reach_118 ?_
    refine G_iload hX dX8_reach_121 rfl ?_
    refine G_iald (n := 10) hX kK129 lK129 (Nat.le_of_ble_eq_true rfl) dX8_reach_123 hf (fun hf => ?_)
    refine G_iconst (v := 1) hX dX8_reach_124 rfl ?_
    refine G_icmp_ne (tgt := 158) hX dX8_reach_125 rfl hf (fun hf => ?_) (fun hf => ?_)
    · refine G_mask (lv' := [some (.ref 117), none, some (.int p1), some (.int i3), some (.int i4), some (.int i5), some (.int s6), none]) [true, false, true, true, true, true, true, false] rfl rfl ?_
      exact tX8_reach_j158 hX  K0 K1 hf
    · refine G_iload hX dX8_reach_128 rfl ?_
      refine G_iload hX dX8_reach_130 rfl ?_
      obtain ⟨v15, h14, hf⟩ := bd1_some hf
      refine G_cS (as := [.int s6, .int i5]) (rest := []) hX csX8_119 (mX8_milesOf w h14) (Nat.le_of_ble_eq_true rfl) rfl rfl (Nat.le_of_ble_eq_true rfl) dX8_reach_132 (st' := [.int v15]) rfl ?_
      refine G_iconst (v := 3) hX dX8_reach_135 rfl ?_
      refine G_icmp_gt (tgt := 158) hX dX8_reach_136 rfl hf (fun hf => ?_) (fun hf => ?_)
      · refine G_mask (lv' := [some (.ref 117), none, some (.int p1), some (.int i3), some (.int i4), some (.int i5), some (.int s6), none]) [true, false, true, true, true, true, true, false] rfl rfl ?_
        exact tX8_reach_j158 hX  K0 K1 hf
      · refine G_iload hX dX8_reach_139 rfl ?_
        refine G_if_ne (tgt := 154) hX dX8_reach_141 rfl hf (fun hf => ?_) (fun hf => ?_)
        · refine G_mask (lv' := [some (.ref 117), none, some (.int p1), some (.int i3), some (.int i4), some (.int i5), some (.int s6), none]) [true, false, true, true, true, true, true, false] rfl rfl ?_
          exact tX8_reach_j154 hX  K0 K1 hf
        · refine G_iload hX dX8_reach_144 rfl ?_
          refine G_iload hX dX8_reach_146 rfl ?_
          obtain ⟨v17, h16, hf⟩ := bd1_some hf
          refine G_cS (as := [.int s6, .int i5]) (rest := []) hX csX8_115 (mX8_isOverSands w h16) (Nat.le_of_ble_eq_true rfl) rfl rfl (Nat.le_of_ble_eq_true rfl) dX8_reach_148 (st' := [.int v17]) rfl ?_
          refine G_if_ne (tgt := 158) hX dX8_reach_151 rfl hf (fun hf => ?_) (fun hf => ?_)
          · refine G_mask (lv' := [some (.ref 117), none, some (.int p1), some (.int i3), some (.int i4), some (.int i5), some (.int s6), none]) [true, false, true, true, true, true, true, false] rfl rfl ?_
            exact tX8_reach_j158 hX  K0 K1 hf
          · refine G_mask (lv' := [some (.ref 117), none, some (.int p1), some (.int i3), some (.int i4), some (.int i5), some (.int s6), none]) [true, false, true, true, true, true, true, false] rfl rfl ?_
            exact tX8_reach_j154 hX  K0 K1 hf
noncomputable def fX8_reach_b92 (p0 : Int32) (p1 : Int32) (i3 : Int32) (i4 : Int32) (s5 : Int32) (u : Um) : Option (Nat × Int32 × Um) :=
  if 10 ≤ s5 then
    some (1, s5, u)
  else
    if inb s5 10 = true then
    nm (sI u 130 s5.toNatClampNeg 0) fun u11 =>
    bd3 (lp (fun s => fX8_reach_b110 p0 p1 i3 i4 s5 s.1 s.2) fuel ((0 : Int32), u11)) fun e20 v18 u19 =>
    nm (s5 + 1) fun v22 =>
    some (0, v22, u19)
    else none
set_option maxHeartbeats 4000000 in
set_option maxRecDepth 100000 in
theorem tX8_reach_b92 {w : Wc} {X : MX} (hX : OKc w X RX8 cX8_reach 3) {p0 : Int32} {p1 : Int32} {i3 : Int32} {i4 : Int32} {s : Int32 × Um} {e : Nat} {s' : Int32 × Um} (hf : fX8_reach_b92 p0 p1 i3 i4 s.1 s.2 = some (e, s')) (K0 : e = 0 → G w X Zm 92 [some (.ref 117), none, some (.int p1), some (.int i3), some (.int i4), some (.int s'.1), none, none] [] s'.2) (K1 : e ≠ 0 → G w X Zm 196 [some (.ref 117), none, some (.int p1), some (.int i3), none, none, none, none] [] s'.2) : G w X Zm 92 [some (.ref 117), none, some (.int p1), some (.int i3), some (.int i4), some (.int s.1), none, none] [] s.2 := by
  obtain ⟨s5, u⟩ := s
  unfold fX8_reach_b92 at hf
  try dsimp only at hf ⊢
  refine G_iload hX dX8_reach_92 rfl ?_
  refine G_bipush (v := 10) hX dX8_reach_94 rfl ?_
  refine G_icmp_ge (tgt := 196) hX dX8_reach_96 rfl hf (fun hf => ?_) (fun hf => ?_)
  · obtain ⟨rfl, rfl⟩ := ret2 hf
    refine G_mask (lv' := [some (.ref 117), none, some (.int p1), some (.int i3), none, none, none, none]) [true, false, true, true, false, false, false, false] rfl rfl ?_
    exact K1 (by decide)
  · refine G_aload_n hX dX8_reach_99 rfl ?_
    refine G_getR (i := 15) (t := 130) hX kK117 (Nat.le_of_ble_eq_true rfl) (Nat.le_of_ble_eq_true rfl) rfl pK117_15 flX8_48 dX8_reach_100 ?_
    refine G_iload hX dX8_reach_103 rfl ?_
    refine G_iconst (v := 0) hX dX8_reach_105 rfl ?_
    refine G_iast (n := 10) hX kK130 lK130 (Nat.le_of_ble_eq_true rfl) rfl dX8_reach_106 hf (fun u11 hf => ?_)
    refine G_iconst (v := 0) hX dX8_reach_107 rfl ?_
    refine G_istore (lv' := [some (.ref 117), none, some (.int p1), some (.int i3), some (.int i4), some (.int s5), some (.int 0), none]) hX dX8_reach_108 rfl (Nat.le_of_ble_eq_true rfl) rfl ?_
    obtain ⟨e20, v18, u19, h21, hf⟩ := bd3_some hf
    refine G_mask (lv' := [some (.ref 117), none, some (.int p1), some (.int i3), some (.int i4), some (.int s5), some (.int 0), none]) [true, false, true, true, true, true, true, false] rfl rfl ?_
    refine lp_G (body := (fun s => fX8_reach_b110 p0 p1 i3 i4 s5 s.1 s.2)) (Gh := fun s => G w X Zm 110 [some (.ref 117), none, some (.int p1), some (.int i3), some (.int i4), some (.int s5), some (.int s.1), none] [] s.2) (Gx := fun e s => G w X Zm 190 [some (.ref 117), none, some (.int p1), some (.int i3), some (.int i4), some (.int s5), none, none] [] s.2) (fun s e s' hb K0 K1 => tX8_reach_b110 (s := s) (e := e) (s' := s') hX   hb K0 K1) fuel ((0 : Int32), u11) (e20, v18, u19) h21 ?_
    refine G_iincF (lvf := fun v22 => [some (.ref 117), none, some (.int p1), some (.int i3), some (.int i4), some (.int v22), none, none]) hX dX8_reach_190 rfl rfl rfl (Nat.le_of_ble_eq_true rfl) (fun _ => rfl) hf (fun v22 hf => ?_)
    refine G_goto (tgt := 92) hX dX8_reach_193 rfl ?_
    obtain ⟨rfl, rfl⟩ := ret2 hf
    refine G_mask (lv' := [some (.ref 117), none, some (.int p1), some (.int i3), some (.int i4), some (.int v22), none, none]) [true, false, true, true, true, true, false, false] rfl rfl ?_
    exact K0 rfl
noncomputable def fX8_reach_j87 (p0 : Int32) (p1 : Int32) (j3 : Int32) (z0 : Int32) (u : Um) : Option (Nat × Int32 × Um) :=
  bd3 (lp (fun s => fX8_reach_b92 p0 p1 j3 z0 s.1 s.2) fuel ((0 : Int32), u)) fun e25 v23 u24 =>
  bd1 (fX8_bring 130 0 129 0 10 u24) fun u28 =>
  nm (j3 + 1) fun v29 =>
  some (0, v29, u28)
set_option maxHeartbeats 4000000 in
set_option maxRecDepth 100000 in
theorem tX8_reach_j87 {w : Wc} {X : MX} (hX : OKc w X RX8 cX8_reach 3) {p0 : Int32} {p1 : Int32} {j3 : Int32} {z0 : Int32}  {u : Um} {e : Nat} {s' : Int32 × Um} (K0 : e = 0 → G w X Zm 60 [some (.ref 117), none, some (.int p1), some (.int s'.1), none, none, none, none] [] s'.2) (K1 : e ≠ 0 → G w X Zm 217 [none, none, none, some (.int s'.1), none, none, none, none] [] s'.2) (hf : fX8_reach_j87 p0 p1 j3 z0 u = some (e, s')) : G w X Zm 87 [some (.ref 117), none, some (.int p1), some (.int j3), none, none, none, none] [.int z0] u := by
  unfold fX8_reach_j87 at hf
  refine G_istore (lv' := [some (.ref 117), none, some (.int p1), some (.int j3), some (.int z0), none, none, none]) hX dX8_reach_87 rfl (Nat.le_of_ble_eq_true rfl) rfl ?_
  refine G_iconst (v := 0) hX dX8_reach_89 rfl ?_
  refine G_istore (lv' := [some (.ref 117), none, some (.int p1), some (.int j3), some (.int z0), some (.int 0), none, none]) hX dX8_reach_90 rfl (Nat.le_of_ble_eq_true rfl) rfl ?_
  obtain ⟨e25, v23, u24, h26, hf⟩ := bd3_some hf
  refine G_mask (lv' := [some (.ref 117), none, some (.int p1), some (.int j3), some (.int z0), some (.int 0), none, none]) [true, false, true, true, true, true, false, false] rfl rfl ?_
  refine lp_G (body := (fun s => fX8_reach_b92 p0 p1 j3 z0 s.1 s.2)) (Gh := fun s => G w X Zm 92 [some (.ref 117), none, some (.int p1), some (.int j3), some (.int z0), some (.int s.1), none, none] [] s.2) (Gx := fun e s => G w X Zm 196 [some (.ref 117), none, some (.int p1), some (.int j3), none, none, none, none] [] s.2) (fun s e s' hb K0 K1 => tX8_reach_b92 (s := s) (e := e) (s' := s') hX   hb K0 K1) fuel ((0 : Int32), u) (e25, v23, u24) h26 ?_
  refine G_aload_n hX dX8_reach_196 rfl ?_
  refine G_getR (i := 15) (t := 130) hX kK117 (Nat.le_of_ble_eq_true rfl) (Nat.le_of_ble_eq_true rfl) rfl pK117_15 flX8_48 dX8_reach_197 ?_
  refine G_iconst (v := 0) hX dX8_reach_200 rfl ?_
  refine G_aload_n hX dX8_reach_201 rfl ?_
  refine G_getR (i := 14) (t := 129) hX kK117 (Nat.le_of_ble_eq_true rfl) (Nat.le_of_ble_eq_true rfl) rfl pK117_14 flX8_45 dX8_reach_202 ?_
  refine G_iconst (v := 0) hX dX8_reach_205 rfl ?_
  refine G_bipush (v := 10) hX dX8_reach_206 rfl ?_
  obtain ⟨u28, h27, hf⟩ := bd1_some hf
  refine G_cS (as := [.ref 130, .int 0, .ref 129, .int 0, .int 10]) (rest := []) hX csX8_98 (mX8_bring w kK130 kK129 h27) (Nat.le_of_ble_eq_true rfl) rfl rfl (Nat.le_of_ble_eq_true rfl) dX8_reach_208 (st' := []) rfl ?_
  refine G_iincF (lvf := fun v29 => [some (.ref 117), none, some (.int p1), some (.int v29), none, none, none, none]) hX dX8_reach_211 rfl rfl rfl (Nat.le_of_ble_eq_true rfl) (fun _ => rfl) hf (fun v29 hf => ?_)
  refine G_goto (tgt := 60) hX dX8_reach_214 rfl ?_
  obtain ⟨rfl, rfl⟩ := ret2 hf
  refine G_mask (lv' := [some (.ref 117), none, some (.int p1), some (.int v29), none, none, none, none]) [true, false, true, true, false, false, false, false] rfl rfl ?_
  exact K0 rfl
noncomputable def fX8_reach_b60 (p0 : Int32) (p1 : Int32) (s3 : Int32) (u : Um) : Option (Nat × Int32 × Um) :=
  if inb p1 10 = true then
  if (u.1 129 p1.toNatClampNeg) = 0 then
    if inb 0 83 = true then
    if (irm ((u.1 122 (0 : Int32).toNatClampNeg) + s3) 2) = 0 then
      fX8_reach_j87 p0 p1 s3 1 u
    else
      fX8_reach_j87 p0 p1 s3 0 u
    else none
  else
    some (1, s3, u)
  else none
set_option maxHeartbeats 4000000 in
set_option maxRecDepth 100000 in
theorem tX8_reach_b60 {w : Wc} {X : MX} (hX : OKc w X RX8 cX8_reach 3) {p0 : Int32} {p1 : Int32} {s : Int32 × Um} {e : Nat} {s' : Int32 × Um} (hf : fX8_reach_b60 p0 p1 s.1 s.2 = some (e, s')) (K0 : e = 0 → G w X Zm 60 [some (.ref 117), none, some (.int p1), some (.int s'.1), none, none, none, none] [] s'.2) (K1 : e ≠ 0 → G w X Zm 217 [none, none, none, some (.int s'.1), none, none, none, none] [] s'.2) : G w X Zm 60 [some (.ref 117), none, some (.int p1), some (.int s.1), none, none, none, none] [] s.2 := by
  obtain ⟨s3, u⟩ := s
  unfold fX8_reach_b60 at hf
  try dsimp only at hf ⊢
  refine G_aload_n hX dX8_reach_60 rfl ?_
  refine G_getR (i := 14) (t := 129) hX kK117 (Nat.le_of_ble_eq_true rfl) (Nat.le_of_ble_eq_true rfl) rfl pK117_14 flX8_45 dX8_reach_61 ?_
  refine G_iload_n hX dX8_reach_64 rfl ?_
  refine G_iald (n := 10) hX kK129 lK129 (Nat.le_of_ble_eq_true rfl) dX8_reach_65 hf (fun hf => ?_)
  refine G_if_ne (tgt := 217) hX dX8_reach_66 rfl hf (fun hf => ?_) (fun hf => ?_)
  · obtain ⟨rfl, rfl⟩ := ret2 hf
    refine G_mask (lv' := [none, none, none, some (.int s3), none, none, none, none]) [false, false, false, true, false, false, false, false] rfl rfl ?_
    exact K1 (by decide)
  · refine G_aload_n hX dX8_reach_69 rfl ?_
    refine G_getR (i := 6) (t := 122) hX kK117 (Nat.le_of_ble_eq_true rfl) (Nat.le_of_ble_eq_true rfl) rfl pK117_6 flX8_23 dX8_reach_70 ?_
    refine G_iconst (v := 0) hX dX8_reach_73 rfl ?_
    refine G_iald (n := 83) hX kK122 lK122 (Nat.le_of_ble_eq_true rfl) dX8_reach_74 hf (fun hf => ?_)
    refine G_iload_n hX dX8_reach_75 rfl ?_
    refine G_iadd hX dX8_reach_76 ?_
    refine G_iconst (v := 2) hX dX8_reach_77 rfl ?_
    refine G_irem hX dX8_reach_78 (by decide) ?_
    refine G_if_ne (tgt := 86) hX dX8_reach_79 rfl hf (fun hf => ?_) (fun hf => ?_)
    · refine G_iconst (v := 0) hX dX8_reach_86 rfl ?_
      refine G_mask (lv' := [some (.ref 117), none, some (.int p1), some (.int s3), none, none, none, none]) [true, false, true, true, false, false, false, false] rfl rfl ?_
      exact tX8_reach_j87 hX  K0 K1 hf
    · refine G_iconst (v := 1) hX dX8_reach_82 rfl ?_
      refine G_goto (tgt := 87) hX dX8_reach_83 rfl ?_
      refine G_mask (lv' := [some (.ref 117), none, some (.int p1), some (.int s3), none, none, none, none]) [true, false, true, true, false, false, false, false] rfl rfl ?_
      exact tX8_reach_j87 hX  K0 K1 hf
noncomputable def fX8_reach (p0 : Int32) (p1 : Int32) (u : Um) : Option (Int32 × Um) :=
  bd1 (fX8_isOne p0 u) fun v2 =>
  if v2 = 0 then
    some ((-1), u)
  else
    bd1 (fX8_in p1 0 9 u) fun v4 =>
    if v4 = 0 then
      some ((-1), u)
    else
      bd3 (lp (fun s => fX8_reach_b22 p0 p1 s.1 s.2) fuel ((0 : Int32), u)) fun e9 v7 u8 =>
      bd3 (lp (fun s => fX8_reach_b60 p0 p1 s.1 s.2) fuel ((0 : Int32), u8)) fun e32 v30 u31 =>
      some (v30, u31)
set_option maxHeartbeats 4000000 in
set_option maxRecDepth 100000 in
theorem mX8_reach (w : Wc) {p0 : Int32} {p1 : Int32}  {u : Um} {r : Int32} {u' : Um} (hf : fX8_reach p0 p1 u = some (r, u')) : MC w 3 qX8_reach [.ref 117, .int p0, .int p1] u (some (.int r)) u' := by
  unfold fX8_reach at hf
  refine MC_intro pnX8 (Nat.le_of_ble_eq_true rfl) (fun X hX hR _ _ => ?_)
  have hX : OKc w X RX8 cX8_reach 3 := hX
  have hR : RT w X (some .int) 0 0 Pst 133 false (some (.int r)) u' := hR
  refine G_eql (lv' := [some (.ref 117), some (.int p0), some (.int p1), none, none, none, none, none]) rfl ?_
  refine G_aload_n hX dX8_reach_0 rfl ?_
  refine G_iload_n hX dX8_reach_1 rfl ?_
  obtain ⟨v2, h1, hf⟩ := bd1_some hf
  refine G_cV (as := [.int p0]) (rest := []) hX cvX8_105 (mX8_isOne w h1) (Nat.le_of_ble_eq_true rfl) kK117 (Nat.le_of_ble_eq_true rfl) (Nat.le_of_ble_eq_true rfl) rfl rfl (Nat.le_of_ble_eq_true rfl) dX8_reach_2 (st' := [.int v2]) rfl ?_
  refine G_if_eq (tgt := 18) hX dX8_reach_5 rfl hf (fun hf => ?_) (fun hf => ?_)
  · refine G_iconst (v := (-1)) hX dX8_reach_18 rfl ?_
    obtain ⟨rfl, rfl⟩ := ret2 hf
    exact G_iret hX hR dX8_reach_19
  · refine G_iload_n hX dX8_reach_8 rfl ?_
    refine G_iconst (v := 0) hX dX8_reach_9 rfl ?_
    refine G_bipush (v := 9) hX dX8_reach_10 rfl ?_
    obtain ⟨v4, h3, hf⟩ := bd1_some hf
    refine G_cS (as := [.int p1, .int 0, .int 9]) (rest := []) hX csX8_57 (mX8_in w h3) (Nat.le_of_ble_eq_true rfl) rfl rfl (Nat.le_of_ble_eq_true rfl) dX8_reach_12 (st' := [.int v4]) rfl ?_
    refine G_if_ne (tgt := 20) hX dX8_reach_15 rfl hf (fun hf => ?_) (fun hf => ?_)
    · refine G_iconst (v := 0) hX dX8_reach_20 rfl ?_
      refine G_istore_n (lv' := [some (.ref 117), some (.int p0), some (.int p1), some (.int 0), none, none, none, none]) hX dX8_reach_21 rfl (Nat.le_of_ble_eq_true rfl) rfl ?_
      obtain ⟨e9, v7, u8, h10, hf⟩ := bd3_some hf
      refine G_mask (lv' := [some (.ref 117), some (.int p0), some (.int p1), some (.int 0), none, none, none, none]) [true, true, true, true, false, false, false, false] rfl rfl ?_
      refine lp_G (body := (fun s => fX8_reach_b22 p0 p1 s.1 s.2)) (Gh := fun s => G w X Zm 22 [some (.ref 117), some (.int p0), some (.int p1), some (.int s.1), none, none, none, none] [] s.2) (Gx := fun e s => G w X Zm 58 [some (.ref 117), none, some (.int p1), none, none, none, none, none] [] s.2) (fun s e s' hb K0 K1 => tX8_reach_b22 (s := s) (e := e) (s' := s') hX   hb K0 K1) fuel ((0 : Int32), u) (e9, v7, u8) h10 ?_
      refine G_iconst (v := 0) hX dX8_reach_58 rfl ?_
      refine G_istore_n (lv' := [some (.ref 117), none, some (.int p1), some (.int 0), none, none, none, none]) hX dX8_reach_59 rfl (Nat.le_of_ble_eq_true rfl) rfl ?_
      obtain ⟨e32, v30, u31, h33, hf⟩ := bd3_some hf
      refine G_mask (lv' := [some (.ref 117), none, some (.int p1), some (.int 0), none, none, none, none]) [true, false, true, true, false, false, false, false] rfl rfl ?_
      refine lp_G (body := (fun s => fX8_reach_b60 p0 p1 s.1 s.2)) (Gh := fun s => G w X Zm 60 [some (.ref 117), none, some (.int p1), some (.int s.1), none, none, none, none] [] s.2) (Gx := fun e s => G w X Zm 217 [none, none, none, some (.int s.1), none, none, none, none] [] s.2) (fun s e s' hb K0 K1 => tX8_reach_b60 (s := s) (e := e) (s' := s') hX   hb K0 K1) fuel ((0 : Int32), u8) (e32, v30, u31) h33 ?_
      refine G_iload_n hX dX8_reach_217 rfl ?_
      obtain ⟨rfl, rfl⟩ := ret2 hf
      exact G_iret hX hR dX8_reach_218
    · refine G_iconst (v := (-1)) hX dX8_reach_18 rfl ?_
      obtain ⟨rfl, rfl⟩ := ret2 hf
      exact G_iret hX hR dX8_reach_19
