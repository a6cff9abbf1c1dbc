noncomputable def fX8_in (p0 : Int32) (p1 : Int32) (p2 : Int32) (u : Um) : Option Int32 :=
  if p0 < p1 then
    some 0
  else
    if p2 < p0 then
      some 0
    else
      some 1
set_option maxHeartbeats 4000000 in
set_option maxRecDepth 100000 in
theorem mX8_in (w : Wc) {p0 : Int32} {p1 : Int32} {p2 : Int32}  {u : Um} {r : Int32} (hf : fX8_in p0 p1 p2 u = some r) : MC w 1 qX8_in [.int p0, .int p1, .int p2] u (some (.int r)) u := by
  unfold fX8_in at hf
  refine MC_intro pnX8 (Nat.le_of_ble_eq_true rfl) (fun X hX hR _ _ => ?_)
  have hX : OKc w X RX8 cX8_in 1 := hX
  have hR : RT w X (some .boolean) 0 0 Pst 133 false (some (.int r)) u := hR
  refine G_eql (lv' := [some (.int p0), some (.int p1), some (.int p2)]) rfl ?_
  refine G_iload_n hX dX8_in_0 rfl ?_
  refine G_iload_n hX dX8_in_1 rfl ?_
  refine G_icmp_lt (tgt := 14) hX dX8_in_2 rfl hf (fun hf => ?_) (fun hf => ?_)
  · refine G_iconst (v := 0) hX dX8_in_14 rfl ?_
    obtain rfl := Option.some.inj hf
    exact G_zret hX hR (by decide) dX8_in_15
  · refine G_iload_n hX dX8_in_5 rfl ?_
    refine G_iload_n hX dX8_in_6 rfl ?_
    refine G_icmp_gt (tgt := 14) hX dX8_in_7 rfl hf (fun hf => ?_) (fun hf => ?_)
    · refine G_iconst (v := 0) hX dX8_in_14 rfl ?_
      obtain rfl := Option.some.inj hf
      exact G_zret hX hR (by decide) dX8_in_15
    · refine G_iconst (v := 1) hX dX8_in_10 rfl ?_
      refine G_goto (tgt := 15) hX dX8_in_11 rfl ?_
      obtain rfl := Option.some.inj hf
      exact G_zret hX hR (by decide) dX8_in_15
noncomputable def fX8_feed (p0 : Int32) (u : Um) : Option (Int32 × Um) :=
  bd1 (fX8_in p0 0 255 u) fun v2 =>
  if v2 = 0 then
    some ((-1), u)
  else
    if (u.1 117 3) = 130 then
      some ((-3), u)
    else
      if inb (u.1 117 3) 130 = true then
      nm (sI u 121 (u.1 117 3).toNatClampNeg p0) fun u3 =>
      nm (sI u3 117 3 ((u3.1 117 3) + 1)) fun u4 =>
      some ((u4.1 117 3), u4)
      else none
set_option maxHeartbeats 4000000 in
set_option maxRecDepth 100000 in
theorem mX8_feed (w : Wc) {p0 : Int32}  {u : Um} {r : Int32} {u' : Um} (hf : fX8_feed p0 u = some (r, u')) : MC w 2 qX8_feed [.ref 117, .int p0] u (some (.int r)) u' := by
  unfold fX8_feed at hf
  refine MC_intro pnX8 (Nat.le_of_ble_eq_true rfl) (fun X hX hR _ _ => ?_)
  have hX : OKc w X RX8 cX8_feed 2 := hX
  have hR : RT w X (some .int) 0 0 Pst 133 false (some (.int r)) u' := hR
  refine G_eql (lv' := [some (.ref 117), some (.int p0)]) rfl ?_
  refine G_iload_n hX dX8_feed_0 rfl ?_
  refine G_iconst (v := 0) hX dX8_feed_1 rfl ?_
  refine G_sipush (v := 255) hX dX8_feed_2 rfl ?_
  obtain ⟨v2, h1, hf⟩ := bd1_some hf
  refine G_cS (as := [.int p0, .int 0, .int 255]) (rest := []) hX csX8_57 (mX8_in w h1) (Nat.le_of_ble_eq_true rfl) rfl rfl (Nat.le_of_ble_eq_true rfl) dX8_feed_5 (st' := [.int v2]) rfl ?_
  refine G_if_ne (tgt := 13) hX dX8_feed_8 rfl hf (fun hf => ?_) (fun hf => ?_)
  · refine G_aload_n hX dX8_feed_13 rfl ?_
    refine G_getI (i := 3) hX kK117 (Nat.le_of_ble_eq_true rfl) (Nat.le_of_ble_eq_true rfl) rfl flX8_61 dX8_feed_14 ?_
    refine G_sipush (v := 130) hX dX8_feed_17 rfl ?_
    refine G_icmp_ne (tgt := 26) hX dX8_feed_20 rfl hf (fun hf => ?_) (fun hf => ?_)
    · refine G_aload_n hX dX8_feed_26 rfl ?_
      refine G_getR (i := 4) (t := 121) hX kK117 (Nat.le_of_ble_eq_true rfl) (Nat.le_of_ble_eq_true rfl) rfl pK117_4 flX8_20 dX8_feed_27 ?_
      refine G_aload_n hX dX8_feed_30 rfl ?_
      refine G_getI (i := 3) hX kK117 (Nat.le_of_ble_eq_true rfl) (Nat.le_of_ble_eq_true rfl) rfl flX8_61 dX8_feed_31 ?_
      refine G_iload_n hX dX8_feed_34 rfl ?_
      refine G_iast (n := 130) hX kK121 lK121 (Nat.le_of_ble_eq_true rfl) rfl dX8_feed_35 hf (fun u3 hf => ?_)
      refine G_aload_n hX dX8_feed_36 rfl ?_
      refine G_dup hX dX8_feed_37 rfl ?_
      refine G_getI (i := 3) hX kK117 (Nat.le_of_ble_eq_true rfl) (Nat.le_of_ble_eq_true rfl) rfl flX8_61 dX8_feed_38 ?_
      refine G_iconst (v := 1) hX dX8_feed_41 rfl ?_
      refine G_iadd hX dX8_feed_42 ?_
      refine G_putI (i := 3) hX kK117 (Nat.le_of_ble_eq_true rfl) (Nat.le_of_ble_eq_true rfl) rfl rfl flX8_61 fwX8_3 dX8_feed_43 hf (fun u4 hf => ?_)
      refine G_aload_n hX dX8_feed_46 rfl ?_
      refine G_getI (i := 3) hX kK117 (Nat.le_of_ble_eq_true rfl) (Nat.le_of_ble_eq_true rfl) rfl flX8_61 dX8_feed_47 ?_
      obtain ⟨rfl, rfl⟩ := ret2 hf
      exact G_iret hX hR dX8_feed_50
    · refine G_bipush (v := (-3)) hX dX8_feed_23 rfl ?_
      obtain ⟨rfl, rfl⟩ := ret2 hf
      exact G_iret hX hR dX8_feed_25
  · refine G_iconst (v := (-1)) hX dX8_feed_11 rfl ?_
    obtain ⟨rfl, rfl⟩ := ret2 hf
    exact G_iret hX hR dX8_feed_12
noncomputable def fX8_peek  (u : Um) : Option Int32 :=
  if (u.1 117 3) ≤ (u.1 117 5) then
    some (-1)
  else
    if inb (u.1 117 5) 130 = true then
    some (u.1 121 ((u.1 117 5)).toNatClampNeg)
    else none
set_option maxHeartbeats 4000000 in
set_option maxRecDepth 100000 in
theorem mX8_peek (w : Wc)   {u : Um} {r : Int32} (hf : fX8_peek  u = some r) : MC w 1 qX8_peek [.ref 117] u (some (.int r)) u := by
  unfold fX8_peek at hf
  refine MC_intro pnX8 (Nat.le_of_ble_eq_true rfl) (fun X hX hR _ _ => ?_)
  have hX : OKc w X RX8 cX8_peek 1 := hX
  have hR : RT w X (some .int) 0 0 Pst 133 false (some (.int r)) u := hR
  refine G_eql (lv' := [some (.ref 117)]) rfl ?_
  refine G_aload_n hX dX8_peek_0 rfl ?_
  refine G_getI (i := 5) hX kK117 (Nat.le_of_ble_eq_true rfl) (Nat.le_of_ble_eq_true rfl) rfl flX8_65 dX8_peek_1 ?_
  refine G_aload_n hX dX8_peek_4 rfl ?_
  refine G_getI (i := 3) hX kK117 (Nat.le_of_ble_eq_true rfl) (Nat.le_of_ble_eq_true rfl) rfl flX8_61 dX8_peek_5 ?_
  refine G_icmp_ge (tgt := 23) hX dX8_peek_8 rfl hf (fun hf => ?_) (fun hf => ?_)
  · refine G_iconst (v := (-1)) hX dX8_peek_23 rfl ?_
    obtain rfl := Option.some.inj hf
    exact G_iret hX hR dX8_peek_24
  · refine G_aload_n hX dX8_peek_11 rfl ?_
    refine G_getR (i := 4) (t := 121) hX kK117 (Nat.le_of_ble_eq_true rfl) (Nat.le_of_ble_eq_true rfl) rfl pK117_4 flX8_20 dX8_peek_12 ?_
    refine G_aload_n hX dX8_peek_15 rfl ?_
    refine G_getI (i := 5) hX kK117 (Nat.le_of_ble_eq_true rfl) (Nat.le_of_ble_eq_true rfl) rfl flX8_65 dX8_peek_16 ?_
    refine G_iald (n := 130) hX kK121 lK121 (Nat.le_of_ble_eq_true rfl) dX8_peek_19 hf (fun hf => ?_)
    refine G_goto (tgt := 24) hX dX8_peek_20 rfl ?_
    obtain rfl := Option.some.inj hf
    exact G_iret hX hR dX8_peek_24
noncomputable def fX8_isSign (p0 : Int32) (u : Um) : Option (Int32 × Um) :=
  bd1 (fX8_peek  u) fun v2 =>
  if v2 = p0 then
    nm (sI u 117 5 ((u.1 117 5) + 1)) fun u3 =>
    some (1, u3)
  else
    some (0, u)
set_option maxHeartbeats 4000000 in
set_option maxRecDepth 100000 in
theorem mX8_isSign (w : Wc) {p0 : Int32}  {u : Um} {r : Int32} {u' : Um} (hf : fX8_isSign p0 u = some (r, u')) : MC w 2 qX8_isSign [.ref 117, .int p0] u (some (.int r)) u' := by
  unfold fX8_isSign at hf
  refine MC_intro pnX8 (Nat.le_of_ble_eq_true rfl) (fun X hX hR _ _ => ?_)
  have hX : OKc w X RX8 cX8_isSign 2 := hX
  have hR : RT w X (some .boolean) 0 0 Pst 133 false (some (.int r)) u' := hR
  refine G_eql (lv' := [some (.ref 117), some (.int p0)]) rfl ?_
  refine G_aload_n hX dX8_isSign_0 rfl ?_
  obtain ⟨v2, h1, hf⟩ := bd1_some hf
  refine G_cV (as := []) (rest := []) hX cvX8_68 (mX8_peek w h1) (Nat.le_of_ble_eq_true rfl) kK117 (Nat.le_of_ble_eq_true rfl) (Nat.le_of_ble_eq_true rfl) rfl rfl (Nat.le_of_ble_eq_true rfl) dX8_isSign_1 (st' := [.int v2]) rfl ?_
  refine G_iload_n hX dX8_isSign_4 rfl ?_
  refine G_icmp_eq (tgt := 10) hX dX8_isSign_5 rfl hf (fun hf => ?_) (fun hf => ?_)
  · refine G_aload_n hX dX8_isSign_10 rfl ?_
    refine G_dup hX dX8_isSign_11 rfl ?_
    refine G_getI (i := 5) hX kK117 (Nat.le_of_ble_eq_true rfl) (Nat.le_of_ble_eq_true rfl) rfl flX8_65 dX8_isSign_12 ?_
    refine G_iconst (v := 1) hX dX8_isSign_15 rfl ?_
    refine G_iadd hX dX8_isSign_16 ?_
    refine G_putI (i := 5) hX kK117 (Nat.le_of_ble_eq_true rfl) (Nat.le_of_ble_eq_true rfl) rfl rfl flX8_65 fwX8_5 dX8_isSign_17 hf (fun u3 hf => ?_)
    refine G_iconst (v := 1) hX dX8_isSign_20 rfl ?_
    obtain ⟨rfl, rfl⟩ := ret2 hf
    exact G_zret hX hR (by decide) dX8_isSign_21
  · refine G_iconst (v := 0) hX dX8_isSign_8 rfl ?_
    obtain ⟨rfl, rfl⟩ := ret2 hf
    exact G_zret hX hR (by decide) dX8_isSign_9
noncomputable def fX8_figure (p0 : Int32) (p1 : Int32) (p2 : Int32) (u : Um) : Option (Int32 × Um) :=
  bd1 (fX8_peek  u) fun v2 =>
  nm (v2 - 48) fun v3 =>
  bd1 (fX8_in v3 p0 p1 u) fun v5 =>
  if v5 = 0 then
    some ((-1), u)
  else
    if v3 = p2 then
      some ((-1), u)
    else
      nm (sI u 117 5 ((u.1 117 5) + 1)) fun u6 =>
      some (v3, u6)
set_option maxHeartbeats 4000000 in
set_option maxRecDepth 100000 in
theorem mX8_figure (w : Wc) {p0 : Int32} {p1 : Int32} {p2 : Int32}  {u : Um} {r : Int32} {u' : Um} (hf : fX8_figure p0 p1 p2 u = some (r, u')) : MC w 2 qX8_figure [.ref 117, .int p0, .int p1, .int p2] u (some (.int r)) u' := by
  unfold fX8_figure at hf
  refine MC_intro pnX8 (Nat.le_of_ble_eq_true rfl) (fun X hX hR _ _ => ?_)
  have hX : OKc w X RX8 cX8_figure 2 := hX
  have hR : RT w X (some .int) 0 0 Pst 133 false (some (.int r)) u' := hR
  refine G_eql (lv' := [some (.ref 117), some (.int p0), some (.int p1), some (.int p2), none]) rfl ?_
  refine G_aload_n hX dX8_figure_0 rfl ?_
  obtain ⟨v2, h1, hf⟩ := bd1_some hf
  refine G_cV (as := []) (rest := []) hX cvX8_68 (mX8_peek w h1) (Nat.le_of_ble_eq_true rfl) kK117 (Nat.le_of_ble_eq_true rfl) (Nat.le_of_ble_eq_true rfl) rfl rfl (Nat.le_of_ble_eq_true rfl) dX8_figure_1 (st' := [.int v2]) rfl ?_
  refine G_bipush (v := 48) hX dX8_figure_4 rfl ?_
  refine G_isub hX dX8_figure_6 ?_
  refine G_istoreF (lvf := fun v3 => [some (.ref 117), some (.int p0), some (.int p1), some (.int p2), some (.int v3)]) hX dX8_figure_7 rfl (Nat.le_of_ble_eq_true rfl) (fun _ => rfl) hf (fun v3 hf => ?_)
  refine G_iload hX dX8_figure_9 rfl ?_
  refine G_iload_n hX dX8_figure_11 rfl ?_
  refine G_iload_n hX dX8_figure_12 rfl ?_
  obtain ⟨v5, h4, hf⟩ := bd1_some hf
  refine G_cS (as := [.int v3, .int p0, .int p1]) (rest := []) hX csX8_57 (mX8_in w h4) (Nat.le_of_ble_eq_true rfl) rfl rfl (Nat.le_of_ble_eq_true rfl) dX8_figure_13 (st' := [.int v5]) rfl ?_
  refine G_if_eq (tgt := 25) hX dX8_figure_16 rfl hf (fun hf => ?_) (fun hf => ?_)
  · refine G_iconst (v := (-1)) hX dX8_figure_25 rfl ?_
    obtain ⟨rfl, rfl⟩ := ret2 hf
    exact G_iret hX hR dX8_figure_26
  · refine G_iload hX dX8_figure_19 rfl ?_
    refine G_iload_n hX dX8_figure_21 rfl ?_
    refine G_icmp_ne (tgt := 27) hX dX8_figure_22 rfl hf (fun hf => ?_) (fun hf => ?_)
    · refine G_aload_n hX dX8_figure_27 rfl ?_
      refine G_dup hX dX8_figure_28 rfl ?_
      refine G_getI (i := 5) hX kK117 (Nat.le_of_ble_eq_true rfl) (Nat.le_of_ble_eq_true rfl) rfl flX8_65 dX8_figure_29 ?_
      refine G_iconst (v := 1) hX dX8_figure_32 rfl ?_
      refine G_iadd hX dX8_figure_33 ?_
      refine G_putI (i := 5) hX kK117 (Nat.le_of_ble_eq_true rfl) (Nat.le_of_ble_eq_true rfl) rfl rfl flX8_65 fwX8_5 dX8_figure_34 hf (fun u6 hf => ?_)
      refine G_iload hX dX8_figure_37 rfl ?_
      obtain ⟨rfl, rfl⟩ := ret2 hf
      exact G_iret hX hR dX8_figure_39
    · refine G_iconst (v := (-1)) hX dX8_figure_25 rfl ?_
      obtain ⟨rfl, rfl⟩ := ret2 hf
      exact G_iret hX hR dX8_figure_26
noncomputable def fX8_kindBy (p0 : Int32) (u : Um) : Option Int32 :=
  if p0 = 99 then
    some 1
  else
    if p0 = 97 then
      some 2
    else
      if p0 = 102 then
        some 3
      else
        if p0 = 98 then
          some 4
        else
          if p0 = 114 then
            some 5
          else
            some 0
set_option maxHeartbeats 4000000 in
set_option maxRecDepth 100000 in
theorem mX8_kindBy (w : Wc) {p0 : Int32}  {u : Um} {r : Int32} (hf : fX8_kindBy p0 u = some r) : MC w 1 qX8_kindBy [.int p0] u (some (.int r)) u := by
  unfold fX8_kindBy at hf
  refine MC_intro pnX8 (Nat.le_of_ble_eq_true rfl) (fun X hX hR _ _ => ?_)
  have hX : OKc w X RX8 cX8_kindBy 1 := hX
  have hR : RT w X (some .int) 0 0 Pst 133 false (some (.int r)) u := hR
  refine G_eql (lv' := [some (.int p0)]) rfl ?_
  refine G_iload_n hX dX8_kindBy_0 rfl ?_
  refine G_bipush (v := 99) hX dX8_kindBy_1 rfl ?_
  refine G_icmp_ne (tgt := 10) hX dX8_kindBy_3 rfl hf (fun hf => ?_) (fun hf => ?_)
  · refine G_iload_n hX dX8_kindBy_10 rfl ?_
    refine G_bipush (v := 97) hX dX8_kindBy_11 rfl ?_
    refine G_icmp_ne (tgt := 20) hX dX8_kindBy_13 rfl hf (fun hf => ?_) (fun hf => ?_)
    · refine G_iload_n hX dX8_kindBy_20 rfl ?_
      refine G_bipush (v := 102) hX dX8_kindBy_21 rfl ?_
      refine G_icmp_ne (tgt := 30) hX dX8_kindBy_23 rfl hf (fun hf => ?_) (fun hf => ?_)
      · refine G_iload_n hX dX8_kindBy_30 rfl ?_
        refine G_bipush (v := 98) hX dX8_kindBy_31 rfl ?_
        refine G_icmp_ne (tgt := 40) hX dX8_kindBy_33 rfl hf (fun hf => ?_) (fun hf => ?_)
        · refine G_iload_n hX dX8_kindBy_40 rfl ?_
          refine G_bipush (v := 114) hX dX8_kindBy_41 rfl ?_
          refine G_icmp_ne (tgt := 50) hX dX8_kindBy_43 rfl hf (fun hf => ?_) (fun hf => ?_)
          · refine G_iconst (v := 0) hX dX8_kindBy_50 rfl ?_
            obtain rfl := Option.some.inj hf
            exact G_iret hX hR dX8_kindBy_51
          · refine G_iconst (v := 5) hX dX8_kindBy_46 rfl ?_
            refine G_goto (tgt := 51) hX dX8_kindBy_47 rfl ?_
            obtain rfl := Option.some.inj hf
            exact G_iret hX hR dX8_kindBy_51
        · refine G_iconst (v := 4) hX dX8_kindBy_36 rfl ?_
          refine G_goto (tgt := 51) hX dX8_kindBy_37 rfl ?_
          obtain rfl := Option.some.inj hf
          exact G_iret hX hR dX8_kindBy_51
      · refine G_iconst (v := 3) hX dX8_kindBy_26 rfl ?_
        refine G_goto (tgt := 51) hX dX8_kindBy_27 rfl ?_
        obtain rfl := Option.some.inj hf
        exact G_iret hX hR dX8_kindBy_51
    · refine G_iconst (v := 2) hX dX8_kindBy_16 rfl ?_
      refine G_goto (tgt := 51) hX dX8_kindBy_17 rfl ?_
      obtain rfl := Option.some.inj hf
      exact G_iret hX hR dX8_kindBy_51
  · refine G_iconst (v := 1) hX dX8_kindBy_6 rfl ?_
    refine G_goto (tgt := 51) hX dX8_kindBy_7 rfl ?_
    obtain rfl := Option.some.inj hf
    exact G_iret hX hR dX8_kindBy_51
noncomputable def fX8_isPerson_j113 (p0 : Int32) (j2 : Int32) (j3 : Int32) (j4 : Int32) (j5 : Int32) (j6 : Int32) (u : Um) : Option (Int32 × Um) :=
  if inb (3 + p0) 83 = true then
  nm (sI u 123 (3 + p0).toNatClampNeg j2) fun u18 =>
  if inb (9 + p0) 83 = true then
  nm (sI u18 123 (9 + p0).toNatClampNeg j3) fun u19 =>
  if inb (15 + p0) 83 = true then
  nm (sI u19 123 (15 + p0).toNatClampNeg j4) fun u20 =>
  if inb (21 + p0) 83 = true then
  nm (sI u20 123 (21 + p0).toNatClampNeg j5) fun u21 =>
  if inb (27 + p0) 83 = true then
  nm (sI u21 123 (27 + p0).toNatClampNeg j5) fun u22 =>
  if inb (33 + p0) 83 = true then
  nm (sI u22 123 (33 + p0).toNatClampNeg j6) fun u23 =>
  if inb (45 + p0) 83 = true then
  nm (sI u23 123 (45 + p0).toNatClampNeg (-4)) fun u24 =>
  some (1, u24)
  else none
  else none
  else none
  else none
  else none
  else none
  else none
set_option maxHeartbeats 4000000 in
set_option maxRecDepth 100000 in
theorem tX8_isPerson_j113 {w : Wc} {X : MX} (hX : OKc w X RX8 cX8_isPerson 3) {p0 : Int32} {j2 : Int32} {j3 : Int32} {j4 : Int32} {j5 : Int32} {j6 : Int32} {u : Um} {r : Int32} {u' : Um} (hR : RT w X (some .boolean) 0 0 Pst 133 false (some (.int r)) u') (hf : fX8_isPerson_j113 p0 j2 j3 j4 j5 j6 u = some (r, u')) : G w X Zm 113 [some (.ref 117), some (.int p0), some (.int j2), some (.int j3), some (.int j4), some (.int j5), some (.int j6)] [] u := by
  unfold fX8_isPerson_j113 at hf
  refine G_aload_n hX dX8_isPerson_113 rfl ?_
  refine G_getR (i := 7) (t := 123) hX kK117 (Nat.le_of_ble_eq_true rfl) (Nat.le_of_ble_eq_true rfl) rfl pK117_7 flX8_26 dX8_isPerson_114 ?_
  refine G_iconst (v := 3) hX dX8_isPerson_117 rfl ?_
  refine G_iload_n hX dX8_isPerson_118 rfl ?_
  refine G_iadd hX dX8_isPerson_119 ?_
  refine G_iload_n hX dX8_isPerson_120 rfl ?_
  refine G_iast (n := 83) hX kK123 lK123 (Nat.le_of_ble_eq_true rfl) rfl dX8_isPerson_121 hf (fun u18 hf => ?_)
  refine G_aload_n hX dX8_isPerson_122 rfl ?_
  refine G_getR (i := 7) (t := 123) hX kK117 (Nat.le_of_ble_eq_true rfl) (Nat.le_of_ble_eq_true rfl) rfl pK117_7 flX8_26 dX8_isPerson_123 ?_
  refine G_bipush (v := 9) hX dX8_isPerson_126 rfl ?_
  refine G_iload_n hX dX8_isPerson_128 rfl ?_
  refine G_iadd hX dX8_isPerson_129 ?_
  refine G_iload_n hX dX8_isPerson_130 rfl ?_
  refine G_iast (n := 83) hX kK123 lK123 (Nat.le_of_ble_eq_true rfl) rfl dX8_isPerson_131 hf (fun u19 hf => ?_)
  refine G_aload_n hX dX8_isPerson_132 rfl ?_
  refine G_getR (i := 7) (t := 123) hX kK117 (Nat.le_of_ble_eq_true rfl) (Nat.le_of_ble_eq_true rfl) rfl pK117_7 flX8_26 dX8_isPerson_133 ?_
  refine G_bipush (v := 15) hX dX8_isPerson_136 rfl ?_
  refine G_iload_n hX dX8_isPerson_138 rfl ?_
  refine G_iadd hX dX8_isPerson_139 ?_
  refine G_iload hX dX8_isPerson_140 rfl ?_
  refine G_iast (n := 83) hX kK123 lK123 (Nat.le_of_ble_eq_true rfl) rfl dX8_isPerson_142 hf (fun u20 hf => ?_)
  refine G_aload_n hX dX8_isPerson_143 rfl ?_
  refine G_getR (i := 7) (t := 123) hX kK117 (Nat.le_of_ble_eq_true rfl) (Nat.le_of_ble_eq_true rfl) rfl pK117_7 flX8_26 dX8_isPerson_144 ?_
  refine G_bipush (v := 21) hX dX8_isPerson_147 rfl ?_
  refine G_iload_n hX dX8_isPerson_149 rfl ?_
  refine G_iadd hX dX8_isPerson_150 ?_
  refine G_iload hX dX8_isPerson_151 rfl ?_
  refine G_iast (n := 83) hX kK123 lK123 (Nat.le_of_ble_eq_true rfl) rfl dX8_isPerson_153 hf (fun u21 hf => ?_)
  refine G_aload_n hX dX8_isPerson_154 rfl ?_
  refine G_getR (i := 7) (t := 123) hX kK117 (Nat.le_of_ble_eq_true rfl) (Nat.le_of_ble_eq_true rfl) rfl pK117_7 flX8_26 dX8_isPerson_155 ?_
  refine G_bipush (v := 27) hX dX8_isPerson_158 rfl ?_
  refine G_iload_n hX dX8_isPerson_160 rfl ?_
  refine G_iadd hX dX8_isPerson_161 ?_
  refine G_iload hX dX8_isPerson_162 rfl ?_
  refine G_iast (n := 83) hX kK123 lK123 (Nat.le_of_ble_eq_true rfl) rfl dX8_isPerson_164 hf (fun u22 hf => ?_)
  refine G_aload_n hX dX8_isPerson_165 rfl ?_
  refine G_getR (i := 7) (t := 123) hX kK117 (Nat.le_of_ble_eq_true rfl) (Nat.le_of_ble_eq_true rfl) rfl pK117_7 flX8_26 dX8_isPerson_166 ?_
  refine G_bipush (v := 33) hX dX8_isPerson_169 rfl ?_
  refine G_iload_n hX dX8_isPerson_171 rfl ?_
  refine G_iadd hX dX8_isPerson_172 ?_
  refine G_iload hX dX8_isPerson_173 rfl ?_
  refine G_iast (n := 83) hX kK123 lK123 (Nat.le_of_ble_eq_true rfl) rfl dX8_isPerson_175 hf (fun u23 hf => ?_)
  refine G_aload_n hX dX8_isPerson_176 rfl ?_
  refine G_getR (i := 7) (t := 123) hX kK117 (Nat.le_of_ble_eq_true rfl) (Nat.le_of_ble_eq_true rfl) rfl pK117_7 flX8_26 dX8_isPerson_177 ?_
  refine G_bipush (v := 45) hX dX8_isPerson_180 rfl ?_
  refine G_iload_n hX dX8_isPerson_182 rfl ?_
  refine G_iadd hX dX8_isPerson_183 ?_
  refine G_bipush (v := (-4)) hX dX8_isPerson_184 rfl ?_
  refine G_iast (n := 83) hX kK123 lK123 (Nat.le_of_ble_eq_true rfl) rfl dX8_isPerson_186 hf (fun u24 hf => ?_)
  refine G_iconst (v := 1) hX dX8_isPerson_187 rfl ?_
  obtain ⟨rfl, rfl⟩ := ret2 hf
  exact G_zret hX hR (by decide) dX8_isPerson_188
noncomputable def fX8_isPerson_j68 (p0 : Int32) (j2 : Int32) (j3 : Int32) (j4 : Int32) (z0 : Int32) (u : Um) : Option (Int32 × Um) :=
  if 0 ≤ z0 then
    bd2 (fX8_isSign 45 u) fun v16 u17 =>
    if v16 = 0 then
      if inb 1 83 = true then
      bd2 (fX8_figure 0 ((u17.1 123 (1 : Int32).toNatClampNeg) - 1) p0 u17) fun v26 u27 =>
      if 0 ≤ v26 then
        fX8_isPerson_j113 p0 j2 j3 j4 z0 v26 u27
      else
        some (0, u27)
      else none
    else
      fX8_isPerson_j113 p0 j2 j3 j4 z0 (-4) u17
  else
    some (0, u)
set_option maxHeartbeats 4000000 in
set_option maxRecDepth 100000 in
theorem tX8_isPerson_j68 {w : Wc} {X : MX} (hX : OKc w X RX8 cX8_isPerson 3) {p0 : Int32} {j2 : Int32} {j3 : Int32} {j4 : Int32} {z0 : Int32} {u : Um} {r : Int32} {u' : Um} (hR : RT w X (some .boolean) 0 0 Pst 133 false (some (.int r)) u') (hf : fX8_isPerson_j68 p0 j2 j3 j4 z0 u = some (r, u')) : G w X Zm 68 [some (.ref 117), some (.int p0), some (.int j2), some (.int j3), some (.int j4), none, none] [.int z0] u := by
  unfold fX8_isPerson_j68 at hf
  refine G_istore (lv' := [some (.ref 117), some (.int p0), some (.int j2), some (.int j3), some (.int j4), some (.int z0), none]) hX dX8_isPerson_68 rfl (Nat.le_of_ble_eq_true rfl) rfl ?_
  refine G_iload hX dX8_isPerson_70 rfl ?_
  refine G_if_ge (tgt := 77) hX dX8_isPerson_72 rfl hf (fun hf => ?_) (fun hf => ?_)
  · refine G_bipush (v := (-4)) hX dX8_isPerson_77 rfl ?_
    refine G_istore (lv' := [some (.ref 117), some (.int p0), some (.int j2), some (.int j3), some (.int j4), some (.int z0), some (.int (-4))]) hX dX8_isPerson_79 rfl (Nat.le_of_ble_eq_true rfl) rfl ?_
    refine G_aload_n hX dX8_isPerson_81 rfl ?_
    refine G_bipush (v := 45) hX dX8_isPerson_82 rfl ?_
    obtain ⟨v16, u17, h15, hf⟩ := bd2_some hf
    refine G_cV (as := [.int 45]) (rest := []) hX cvX8_80 (mX8_isSign w h15) (Nat.le_of_ble_eq_true rfl) kK117 (Nat.le_of_ble_eq_true rfl) (Nat.le_of_ble_eq_true rfl) rfl rfl (Nat.le_of_ble_eq_true rfl) dX8_isPerson_84 (st' := [.int v16]) rfl ?_
    refine G_if_ne (tgt := 113) hX dX8_isPerson_87 rfl hf (fun hf => ?_) (fun hf => ?_)
    · refine G_mask (lv' := [some (.ref 117), some (.int p0), some (.int j2), some (.int j3), some (.int j4), some (.int z0), some (.int (-4))]) [true, true, true, true, true, true, true] rfl rfl ?_
      exact tX8_isPerson_j113 hX  hR hf
    · refine G_aload_n hX dX8_isPerson_90 rfl ?_
      refine G_iconst (v := 0) hX dX8_isPerson_91 rfl ?_
      refine G_aload_n hX dX8_isPerson_92 rfl ?_
      refine G_getR (i := 7) (t := 123) hX kK117 (Nat.le_of_ble_eq_true rfl) (Nat.le_of_ble_eq_true rfl) rfl pK117_7 flX8_26 dX8_isPerson_93 ?_
      refine G_iconst (v := 1) hX dX8_isPerson_96 rfl ?_
      refine G_iald (n := 83) hX kK123 lK123 (Nat.le_of_ble_eq_true rfl) dX8_isPerson_97 hf (fun hf => ?_)
      refine G_iconst (v := 1) hX dX8_isPerson_98 rfl ?_
      refine G_isub hX dX8_isPerson_99 ?_
      refine G_iload_n hX dX8_isPerson_100 rfl ?_
      obtain ⟨v26, u27, h25, hf⟩ := bd2_some hf
      refine G_cV (as := [.int 0, .int ((u17.1 123 (1 : Int32).toNatClampNeg) - 1), .int p0]) (rest := []) hX cvX8_76 (mX8_figure w h25) (Nat.le_of_ble_eq_true rfl) kK117 (Nat.le_of_ble_eq_true rfl) (Nat.le_of_ble_eq_true rfl) rfl rfl (Nat.le_of_ble_eq_true rfl) dX8_isPerson_101 (st' := [.int v26]) rfl ?_
      refine G_istore (lv' := [some (.ref 117), some (.int p0), some (.int j2), some (.int j3), some (.int j4), some (.int z0), some (.int v26)]) hX dX8_isPerson_104 rfl (Nat.le_of_ble_eq_true rfl) rfl ?_
      refine G_iload hX dX8_isPerson_106 rfl ?_
      refine G_if_ge (tgt := 113) hX dX8_isPerson_108 rfl hf (fun hf => ?_) (fun hf => ?_)
      · refine G_mask (lv' := [some (.ref 117), some (.int p0), some (.int j2), some (.int j3), some (.int j4), some (.int z0), some (.int v26)]) [true, true, true, true, true, true, true] rfl rfl ?_
        exact tX8_isPerson_j113 hX  hR hf
      · refine G_iconst (v := 0) hX dX8_isPerson_111 rfl ?_
        obtain ⟨rfl, rfl⟩ := ret2 hf
        exact G_zret hX hR (by decide) dX8_isPerson_112
  · refine G_iconst (v := 0) hX dX8_isPerson_75 rfl ?_
    obtain ⟨rfl, rfl⟩ := ret2 hf
    exact G_zret hX hR (by decide) dX8_isPerson_76
noncomputable def fX8_isPerson_j49 (p0 : Int32) (j2 : Int32) (j3 : Int32) (z0 : Int32) (u : Um) : Option (Int32 × Um) :=
  if 0 ≤ z0 then
    bd2 (fX8_figure 0 9 (-1) u) fun v13 u14 =>
    fX8_isPerson_j68 p0 j2 j3 z0 v13 u14
  else
    fX8_isPerson_j68 p0 j2 j3 z0 (-1) u
set_option maxHeartbeats 4000000 in
set_option maxRecDepth 100000 in
theorem tX8_isPerson_j49 {w : Wc} {X : MX} (hX : OKc w X RX8 cX8_isPerson 3) {p0 : Int32} {j2 : Int32} {j3 : Int32} {z0 : Int32} {u : Um} {r : Int32} {u' : Um} (hR : RT w X (some .boolean) 0 0 Pst 133 false (some (.int r)) u') (hf : fX8_isPerson_j49 p0 j2 j3 z0 u = some (r, u')) : G w X Zm 49 [some (.ref 117), some (.int p0), some (.int j2), some (.int j3), none, none, none] [.int z0] u := by
  unfold fX8_isPerson_j49 at hf
  refine G_istore (lv' := [some (.ref 117), some (.int p0), some (.int j2), some (.int j3), some (.int z0), none, none]) hX dX8_isPerson_49 rfl (Nat.le_of_ble_eq_true rfl) rfl ?_
  refine G_iload hX dX8_isPerson_51 rfl ?_
  refine G_if_ge (tgt := 60) hX dX8_isPerson_53 rfl hf (fun hf => ?_) (fun hf => ?_)
  · refine G_aload_n hX dX8_isPerson_60 rfl ?_
    refine G_iconst (v := 0) hX dX8_isPerson_61 rfl ?_
    refine G_bipush (v := 9) hX dX8_isPerson_62 rfl ?_
    refine G_iconst (v := (-1)) hX dX8_isPerson_64 rfl ?_
    obtain ⟨v13, u14, h12, hf⟩ := bd2_some hf
    refine G_cV (as := [.int 0, .int 9, .int (-1)]) (rest := []) hX cvX8_76 (mX8_figure w h12) (Nat.le_of_ble_eq_true rfl) kK117 (Nat.le_of_ble_eq_true rfl) (Nat.le_of_ble_eq_true rfl) rfl rfl (Nat.le_of_ble_eq_true rfl) dX8_isPerson_65 (st' := [.int v13]) rfl ?_
    refine G_mask (lv' := [some (.ref 117), some (.int p0), some (.int j2), some (.int j3), some (.int z0), none, none]) [true, true, true, true, true, false, false] rfl rfl ?_
    exact tX8_isPerson_j68 hX  hR hf
  · refine G_iconst (v := (-1)) hX dX8_isPerson_56 rfl ?_
    refine G_goto (tgt := 68) hX dX8_isPerson_57 rfl ?_
    refine G_mask (lv' := [some (.ref 117), some (.int p0), some (.int j2), some (.int j3), some (.int z0), none, none]) [true, true, true, true, true, false, false] rfl rfl ?_
    exact tX8_isPerson_j68 hX  hR hf
noncomputable def fX8_isPerson (p0 : Int32) (u : Um) : Option (Int32 × Um) :=
  bd1 (fX8_peek  u) fun v2 =>
  bd1 (fX8_kindBy v2 u) fun v4 =>
  if v4 = 0 then
    some (0, u)
  else
    nm (sI u 117 5 ((u.1 117 5) + 1)) fun u5 =>
    bd2 (fX8_figure 0 9 (-1) u5) fun v7 u8 =>
    if 0 ≤ v7 then
      bd2 (fX8_figure 0 9 (-1) u8) fun v10 u11 =>
      fX8_isPerson_j49 p0 v4 v7 v10 u11
    else
      fX8_isPerson_j49 p0 v4 v7 (-1) u8
set_option maxHeartbeats 4000000 in
set_option maxRecDepth 100000 in
theorem mX8_isPerson (w : Wc) {p0 : Int32}  {u : Um} {r : Int32} {u' : Um} (hf : fX8_isPerson p0 u = some (r, u')) : MC w 3 qX8_isPerson [.ref 117, .int p0] u (some (.int r)) u' := by
  unfold fX8_isPerson at hf
  refine MC_intro pnX8 (Nat.le_of_ble_eq_true rfl) (fun X hX hR _ _ => ?_)
  have hX : OKc w X RX8 cX8_isPerson 3 := hX
  have hR : RT w X (some .boolean) 0 0 Pst 133 false (some (.int r)) u' := hR
  refine G_eql (lv' := [some (.ref 117), some (.int p0), none, none, none, none, none]) rfl ?_
  refine G_aload_n hX dX8_isPerson_0 rfl ?_
  obtain ⟨v2, h1, hf⟩ := bd1_some hf
  refine G_cV (as := []) (rest := []) hX cvX8_68 (mX8_peek w h1) (Nat.le_of_ble_eq_true rfl) kK117 (Nat.le_of_ble_eq_true rfl) (Nat.le_of_ble_eq_true rfl) rfl rfl (Nat.le_of_ble_eq_true rfl) dX8_isPerson_1 (st' := [.int v2]) rfl ?_
  obtain ⟨v4, h3, hf⟩ := bd1_some hf
  refine G_cS (as := [.int v2]) (rest := []) hX csX8_72 (mX8_kindBy w h3) (Nat.le_of_ble_eq_true rfl) rfl rfl (Nat.le_of_ble_eq_true rfl) dX8_isPerson_4 (st' := [.int v4]) rfl ?_
  refine G_istore_n (lv' := [some (.ref 117), some (.int p0), some (.int v4), none, none, none, none]) hX dX8_isPerson_7 rfl (Nat.le_of_ble_eq_true rfl) rfl ?_
  refine G_iload_n hX dX8_isPerson_8 rfl ?_
  refine G_if_ne (tgt := 14) hX dX8_isPerson_9 rfl hf (fun hf => ?_) (fun hf => ?_)
  · refine G_aload_n hX dX8_isPerson_14 rfl ?_
    refine G_dup hX dX8_isPerson_15 rfl ?_
    refine G_getI (i := 5) hX kK117 (Nat.le_of_ble_eq_true rfl) (Nat.le_of_ble_eq_true rfl) rfl flX8_65 dX8_isPerson_16 ?_
    refine G_iconst (v := 1) hX dX8_isPerson_19 rfl ?_
    refine G_iadd hX dX8_isPerson_20 ?_
    refine G_putI (i := 5) hX kK117 (Nat.le_of_ble_eq_true rfl) (Nat.le_of_ble_eq_true rfl) rfl rfl flX8_65 fwX8_5 dX8_isPerson_21 hf (fun u5 hf => ?_)
    refine G_aload_n hX dX8_isPerson_24 rfl ?_
    refine G_iconst (v := 0) hX dX8_isPerson_25 rfl ?_
    refine G_bipush (v := 9) hX dX8_isPerson_26 rfl ?_
    refine G_iconst (v := (-1)) hX dX8_isPerson_28 rfl ?_
    obtain ⟨v7, u8, h6, hf⟩ := bd2_some hf
    refine G_cV (as := [.int 0, .int 9, .int (-1)]) (rest := []) hX cvX8_76 (mX8_figure w h6) (Nat.le_of_ble_eq_true rfl) kK117 (Nat.le_of_ble_eq_true rfl) (Nat.le_of_ble_eq_true rfl) rfl rfl (Nat.le_of_ble_eq_true rfl) dX8_isPerson_29 (st' := [.int v7]) rfl ?_
    refine G_istore_n (lv' := [some (.ref 117), some (.int p0), some (.int v4), some (.int v7), none, none, none]) hX dX8_isPerson_32 rfl (Nat.le_of_ble_eq_true rfl) rfl ?_
    refine G_iload_n hX dX8_isPerson_33 rfl ?_
    refine G_if_ge (tgt := 41) hX dX8_isPerson_34 rfl hf (fun hf => ?_) (fun hf => ?_)
    · refine G_aload_n hX dX8_isPerson_41 rfl ?_
      refine G_iconst (v := 0) hX dX8_isPerson_42 rfl ?_
      refine G_bipush (v := 9) hX dX8_isPerson_43 rfl ?_
      refine G_iconst (v := (-1)) hX dX8_isPerson_45 rfl ?_
      obtain ⟨v10, u11, h9, hf⟩ := bd2_some hf
      refine G_cV (as := [.int 0, .int 9, .int (-1)]) (rest := []) hX cvX8_76 (mX8_figure w h9) (Nat.le_of_ble_eq_true rfl) kK117 (Nat.le_of_ble_eq_true rfl) (Nat.le_of_ble_eq_true rfl) rfl rfl (Nat.le_of_ble_eq_true rfl) dX8_isPerson_46 (st' := [.int v10]) rfl ?_
      refine G_mask (lv' := [some (.ref 117), some (.int p0), some (.int v4), some (.int v7), none, none, none]) [true, true, true, true, false, false, false] rfl rfl ?_
      exact tX8_isPerson_j49 hX  hR hf
    · refine G_iconst (v := (-1)) hX dX8_isPerson_37 rfl ?_
      refine G_goto (tgt := 49) hX dX8_isPerson_38 rfl ?_
      refine G_mask (lv' := [some (.ref 117), some (.int p0), some (.int v4), some (.int v7), none, none, none]) [true, true, true, true, false, false, false] rfl rfl ?_
      exact tX8_isPerson_j49 hX  hR hf
  · refine G_iconst (v := 0) hX dX8_isPerson_12 rfl ?_
    obtain ⟨rfl, rfl⟩ := ret2 hf
    exact G_zret hX hR (by decide) dX8_isPerson_13
noncomputable def fX8_addWrong (p0 : Nat) (p1 : Int32) (p2 : Int32) (p3 : Int32) (u : Um) : Option (Int32 × Um) :=
  if inb 2 (ln p0) = true then
  nm (u.1 p0 (2 : Int32).toNatClampNeg) fun v1 =>
  if inb (51 + v1) (ln p0) = true then
  nm (sI u p0 (51 + v1).toNatClampNeg p1) fun u2 =>
  if inb (59 + v1) (ln p0) = true then
  nm (sI u2 p0 (59 + v1).toNatClampNeg p2) fun u3 =>
  if inb (67 + v1) (ln p0) = true then
  nm (sI u3 p0 (67 + v1).toNatClampNeg p3) fun u4 =>
  if inb (75 + v1) (ln p0) = true then
  nm (sI u4 p0 (75 + v1).toNatClampNeg (-4)) fun u5 =>
  if inb 2 (ln p0) = true then
  if inb 2 (ln p0) = true then
  nm (sI u5 p0 (2 : Int32).toNatClampNeg ((u5.1 p0 (2 : Int32).toNatClampNeg) + 1)) fun u6 =>
  some (v1, u6)
  else none
  else none
  else none
  else none
  else none
  else none
  else none
set_option maxHeartbeats 4000000 in
set_option maxRecDepth 100000 in
theorem mX8_addWrong (w : Wc) {p0 : Nat} {p1 : Int32} {p2 : Int32} {p3 : Int32} (hp0 : kd p0 = 9) {u : Um} {r : Int32} {u' : Um} (hf : fX8_addWrong p0 p1 p2 p3 u = some (r, u')) : MC w 1 qX8_addWrong [.ref p0, .int p1, .int p2, .int p3] u (some (.int r)) u' := by
  unfold fX8_addWrong at hf
  refine MC_intro pnX8 (Nat.le_of_ble_eq_true rfl) (fun X hX hR _ _ => ?_)
  have hX : OKc w X RX8 cX8_addWrong 1 := hX
  have hR : RT w X (some .int) 0 0 Pst 133 false (some (.int r)) u' := hR
  refine G_eql (lv' := [some (.ref p0), some (.int p1), some (.int p2), some (.int p3), none]) rfl ?_
  refine G_aload_n hX dX8_addWrong_0 rfl ?_
  refine G_iconst (v := 2) hX dX8_addWrong_1 rfl ?_
  refine G_iald (n := (ln p0)) hX hp0 rfl (kd_lt hp0 (Nat.le_of_ble_eq_true rfl)) dX8_addWrong_2 hf (fun hf => ?_)
  refine G_istoreF (lvf := fun v1 => [some (.ref p0), some (.int p1), some (.int p2), some (.int p3), some (.int v1)]) hX dX8_addWrong_3 rfl (Nat.le_of_ble_eq_true rfl) (fun _ => rfl) hf (fun v1 hf => ?_)
  refine G_aload_n hX dX8_addWrong_5 rfl ?_
  refine G_bipush (v := 51) hX dX8_addWrong_6 rfl ?_
  refine G_iload hX dX8_addWrong_8 rfl ?_
  refine G_iadd hX dX8_addWrong_10 ?_
  refine G_iload_n hX dX8_addWrong_11 rfl ?_
  refine G_iast (n := (ln p0)) hX hp0 rfl (kd_lt hp0 (Nat.le_of_ble_eq_true rfl)) rfl dX8_addWrong_12 hf (fun u2 hf => ?_)
  refine G_aload_n hX dX8_addWrong_13 rfl ?_
  refine G_bipush (v := 59) hX dX8_addWrong_14 rfl ?_
  refine G_iload hX dX8_addWrong_16 rfl ?_
  refine G_iadd hX dX8_addWrong_18 ?_
  refine G_iload_n hX dX8_addWrong_19 rfl ?_
  refine G_iast (n := (ln p0)) hX hp0 rfl (kd_lt hp0 (Nat.le_of_ble_eq_true rfl)) rfl dX8_addWrong_20 hf (fun u3 hf => ?_)
  refine G_aload_n hX dX8_addWrong_21 rfl ?_
  refine G_bipush (v := 67) hX dX8_addWrong_22 rfl ?_
  refine G_iload hX dX8_addWrong_24 rfl ?_
  refine G_iadd hX dX8_addWrong_26 ?_
  refine G_iload_n hX dX8_addWrong_27 rfl ?_
  refine G_iast (n := (ln p0)) hX hp0 rfl (kd_lt hp0 (Nat.le_of_ble_eq_true rfl)) rfl dX8_addWrong_28 hf (fun u4 hf => ?_)
  refine G_aload_n hX dX8_addWrong_29 rfl ?_
  refine G_bipush (v := 75) hX dX8_addWrong_30 rfl ?_
  refine G_iload hX dX8_addWrong_32 rfl ?_
  refine G_iadd hX dX8_addWrong_34 ?_
  refine G_bipush (v := (-4)) hX dX8_addWrong_35 rfl ?_
  refine G_iast (n := (ln p0)) hX hp0 rfl (kd_lt hp0 (Nat.le_of_ble_eq_true rfl)) rfl dX8_addWrong_37 hf (fun u5 hf => ?_)
  refine G_aload_n hX dX8_addWrong_38 rfl ?_
  refine G_iconst (v := 2) hX dX8_addWrong_39 rfl ?_
  refine G_dup2 hX dX8_addWrong_40 rfl rfl ?_
  refine G_iald (n := (ln p0)) hX hp0 rfl (kd_lt hp0 (Nat.le_of_ble_eq_true rfl)) dX8_addWrong_41 hf (fun hf => ?_)
  refine G_iconst (v := 1) hX dX8_addWrong_42 rfl ?_
  refine G_iadd hX dX8_addWrong_43 ?_
  refine G_iast (n := (ln p0)) hX hp0 rfl (kd_lt hp0 (Nat.le_of_ble_eq_true rfl)) rfl dX8_addWrong_44 hf (fun u6 hf => ?_)
  refine G_iload hX dX8_addWrong_45 rfl ?_
  obtain ⟨rfl, rfl⟩ := ret2 hf
  exact G_iret hX hR dX8_addWrong_47
noncomputable def fX8_isWrongItem_j54 (j1 : Int32) (j2 : Int32) (z0 : Int32) (u : Um) : Option (Int32 × Um) :=
  if 0 ≤ z0 then
    bd2 (fX8_addWrong 123 j1 j2 z0 u) fun v11 u12 =>
    some (1, u12)
  else
    some (0, u)
set_option maxHeartbeats 4000000 in
set_option maxRecDepth 100000 in
theorem tX8_isWrongItem_j54 {w : Wc} {X : MX} (hX : OKc w X RX8 cX8_isWrongItem 3) {j1 : Int32} {j2 : Int32} {z0 : Int32} {u : Um} {r : Int32} {u' : Um} (hR : RT w X (some .boolean) 0 0 Pst 133 false (some (.int r)) u') (hf : fX8_isWrongItem_j54 j1 j2 z0 u = some (r, u')) : G w X Zm 54 [some (.ref 117), some (.int j1), some (.int j2), none] [.int z0] u := by
  unfold fX8_isWrongItem_j54 at hf
  refine G_istore_n (lv' := [some (.ref 117), some (.int j1), some (.int j2), some (.int z0)]) hX dX8_isWrongItem_54 rfl (Nat.le_of_ble_eq_true rfl) rfl ?_
  refine G_iload_n hX dX8_isWrongItem_55 rfl ?_
  refine G_if_ge (tgt := 61) hX dX8_isWrongItem_56 rfl hf (fun hf => ?_) (fun hf => ?_)
  · refine G_aload_n hX dX8_isWrongItem_61 rfl ?_
    refine G_getR (i := 7) (t := 123) hX kK117 (Nat.le_of_ble_eq_true rfl) (Nat.le_of_ble_eq_true rfl) rfl pK117_7 flX8_26 dX8_isWrongItem_62 ?_
    refine G_iload_n hX dX8_isWrongItem_65 rfl ?_
    refine G_iload_n hX dX8_isWrongItem_66 rfl ?_
    refine G_iload_n hX dX8_isWrongItem_67 rfl ?_
    obtain ⟨v11, u12, h10, hf⟩ := bd2_some hf
    refine G_cS (as := [.ref 123, .int j1, .int j2, .int z0]) (rest := []) hX csX8_84 (mX8_addWrong w kK123 h10) (Nat.le_of_ble_eq_true rfl) rfl rfl (Nat.le_of_ble_eq_true rfl) dX8_isWrongItem_68 (st' := [.int v11]) rfl ?_
    refine G_pop hX dX8_isWrongItem_71 rfl ?_
    refine G_iconst (v := 1) hX dX8_isWrongItem_72 rfl ?_
    obtain ⟨rfl, rfl⟩ := ret2 hf
    exact G_zret hX hR (by decide) dX8_isWrongItem_73
  · refine G_iconst (v := 0) hX dX8_isWrongItem_59 rfl ?_
    obtain ⟨rfl, rfl⟩ := ret2 hf
    exact G_zret hX hR (by decide) dX8_isWrongItem_60
noncomputable def fX8_isWrongItem_j37 (j1 : Int32) (z0 : Int32) (u : Um) : Option (Int32 × Um) :=
  if 0 ≤ z0 then
    bd2 (fX8_figure 1 9 (-1) u) fun v8 u9 =>
    fX8_isWrongItem_j54 j1 z0 v8 u9
  else
    fX8_isWrongItem_j54 j1 z0 (-1) u
set_option maxHeartbeats 4000000 in
set_option maxRecDepth 100000 in
theorem tX8_isWrongItem_j37 {w : Wc} {X : MX} (hX : OKc w X RX8 cX8_isWrongItem 3) {j1 : Int32} {z0 : Int32} {u : Um} {r : Int32} {u' : Um} (hR : RT w X (some .boolean) 0 0 Pst 133 false (some (.int r)) u') (hf : fX8_isWrongItem_j37 j1 z0 u = some (r, u')) : G w X Zm 37 [some (.ref 117), some (.int j1), none, none] [.int z0] u := by
  unfold fX8_isWrongItem_j37 at hf
  refine G_istore_n (lv' := [some (.ref 117), some (.int j1), some (.int z0), none]) hX dX8_isWrongItem_37 rfl (Nat.le_of_ble_eq_true rfl) rfl ?_
  refine G_iload_n hX dX8_isWrongItem_38 rfl ?_
  refine G_if_ge (tgt := 46) hX dX8_isWrongItem_39 rfl hf (fun hf => ?_) (fun hf => ?_)
  · refine G_aload_n hX dX8_isWrongItem_46 rfl ?_
    refine G_iconst (v := 1) hX dX8_isWrongItem_47 rfl ?_
    refine G_bipush (v := 9) hX dX8_isWrongItem_48 rfl ?_
    refine G_iconst (v := (-1)) hX dX8_isWrongItem_50 rfl ?_
    obtain ⟨v8, u9, h7, hf⟩ := bd2_some hf
    refine G_cV (as := [.int 1, .int 9, .int (-1)]) (rest := []) hX cvX8_76 (mX8_figure w h7) (Nat.le_of_ble_eq_true rfl) kK117 (Nat.le_of_ble_eq_true rfl) (Nat.le_of_ble_eq_true rfl) rfl rfl (Nat.le_of_ble_eq_true rfl) dX8_isWrongItem_51 (st' := [.int v8]) rfl ?_
    refine G_mask (lv' := [some (.ref 117), some (.int j1), some (.int z0), none]) [true, true, true, false] rfl rfl ?_
    exact tX8_isWrongItem_j54 hX  hR hf
  · refine G_iconst (v := (-1)) hX dX8_isWrongItem_42 rfl ?_
    refine G_goto (tgt := 54) hX dX8_isWrongItem_43 rfl ?_
    refine G_mask (lv' := [some (.ref 117), some (.int j1), some (.int z0), none]) [true, true, true, false] rfl rfl ?_
    exact tX8_isWrongItem_j54 hX  hR hf
noncomputable def fX8_isWrongItem  (u : Um) : Option (Int32 × Um) :=
  if inb 1 83 = true then
  bd2 (fX8_figure 0 ((u.1 123 (1 : Int32).toNatClampNeg) - 1) (-1) u) fun v2 u3 =>
  if 0 ≤ v2 then
    if inb 1 83 = true then
    bd2 (fX8_figure 0 ((u3.1 123 (1 : Int32).toNatClampNeg) - 1) v2 u3) fun v5 u6 =>
    fX8_isWrongItem_j37 v2 v5 u6
    else none
  else
    fX8_isWrongItem_j37 v2 (-1) u3
  else none
set_option maxHeartbeats 4000000 in
set_option maxRecDepth 100000 in
theorem mX8_isWrongItem (w : Wc)   {u : Um} {r : Int32} {u' : Um} (hf : fX8_isWrongItem  u = some (r, u')) : MC w 3 qX8_isWrongItem [.ref 117] u (some (.int r)) u' := by
  unfold fX8_isWrongItem at hf
  refine MC_intro pnX8 (Nat.le_of_ble_eq_true rfl) (fun X hX hR _ _ => ?_)
  have hX : OKc w X RX8 cX8_isWrongItem 3 := hX
  have hR : RT w X (some .boolean) 0 0 Pst 133 false (some (.int r)) u' := hR
  refine G_eql (lv' := [some (.ref 117), none, none, none]) rfl ?_
  refine G_aload_n hX dX8_isWrongItem_0 rfl ?_
  refine G_iconst (v := 0) hX dX8_isWrongItem_1 rfl ?_
  refine G_aload_n hX dX8_isWrongItem_2 rfl ?_
  refine G_getR (i := 7) (t := 123) hX kK117 (Nat.le_of_ble_eq_true rfl) (Nat.le_of_ble_eq_true rfl) rfl pK117_7 flX8_26 dX8_isWrongItem_3 ?_
  refine G_iconst (v := 1) hX dX8_isWrongItem_6 rfl ?_
  refine G_iald (n := 83) hX kK123 lK123 (Nat.le_of_ble_eq_true rfl) dX8_isWrongItem_7 hf (fun hf => ?_)
  refine G_iconst (v := 1) hX dX8_isWrongItem_8 rfl ?_
  refine G_isub hX dX8_isWrongItem_9 ?_
  refine G_iconst (v := (-1)) hX dX8_isWrongItem_10 rfl ?_
  obtain ⟨v2, u3, h1, hf⟩ := bd2_some hf
  refine G_cV (as := [.int 0, .int ((u.1 123 (1 : Int32).toNatClampNeg) - 1), .int (-1)]) (rest := []) hX cvX8_76 (mX8_figure w h1) (Nat.le_of_ble_eq_true rfl) kK117 (Nat.le_of_ble_eq_true rfl) (Nat.le_of_ble_eq_true rfl) rfl rfl (Nat.le_of_ble_eq_true rfl) dX8_isWrongItem_11 (st' := [.int v2]) rfl ?_
  refine G_istore_n (lv' := [some (.ref 117), some (.int v2), none, none]) hX dX8_isWrongItem_14 rfl (Nat.le_of_ble_eq_true rfl) rfl ?_
  refine G_iload_n hX dX8_isWrongItem_15 rfl ?_
  refine G_if_ge (tgt := 23) hX dX8_isWrongItem_16 rfl hf (fun hf => ?_) (fun hf => ?_)
  · refine G_aload_n hX dX8_isWrongItem_23 rfl ?_
    refine G_iconst (v := 0) hX dX8_isWrongItem_24 rfl ?_
    refine G_aload_n hX dX8_isWrongItem_25 rfl ?_
    refine G_getR (i := 7) (t := 123) hX kK117 (Nat.le_of_ble_eq_true rfl) (Nat.le_of_ble_eq_true rfl) rfl pK117_7 flX8_26 dX8_isWrongItem_26 ?_
    refine G_iconst (v := 1) hX dX8_isWrongItem_29 rfl ?_
    refine G_iald (n := 83) hX kK123 lK123 (Nat.le_of_ble_eq_true rfl) dX8_isWrongItem_30 hf (fun hf => ?_)
    refine G_iconst (v := 1) hX dX8_isWrongItem_31 rfl ?_
    refine G_isub hX dX8_isWrongItem_32 ?_
    refine G_iload_n hX dX8_isWrongItem_33 rfl ?_
    obtain ⟨v5, u6, h4, hf⟩ := bd2_some hf
    refine G_cV (as := [.int 0, .int ((u3.1 123 (1 : Int32).toNatClampNeg) - 1), .int v2]) (rest := []) hX cvX8_76 (mX8_figure w h4) (Nat.le_of_ble_eq_true rfl) kK117 (Nat.le_of_ble_eq_true rfl) (Nat.le_of_ble_eq_true rfl) rfl rfl (Nat.le_of_ble_eq_true rfl) dX8_isWrongItem_34 (st' := [.int v5]) rfl ?_
    refine G_mask (lv' := [some (.ref 117), some (.int v2), none, none]) [true, true, false, false] rfl rfl ?_
    exact tX8_isWrongItem_j37 hX  hR hf
  · refine G_iconst (v := (-1)) hX dX8_isWrongItem_19 rfl ?_
    refine G_goto (tgt := 37) hX dX8_isWrongItem_20 rfl ?_
    refine G_mask (lv' := [some (.ref 117), some (.int v2), none, none]) [true, true, false, false] rfl rfl ?_
    exact tX8_isWrongItem_j37 hX  hR hf
noncomputable def fX8_isRead_b2 (s1 : Int32) (u : Um) : Option (Nat × Int32 × Um) :=
  if 83 ≤ s1 then
    some (1, s1, u)
  else
    if inb s1 83 = true then
    nm (sI u 123 s1.toNatClampNeg 0) fun u1 =>
    nm (s1 + 1) fun v2 =>
    some (0, v2, u1)
    else none
set_option maxHeartbeats 4000000 in
set_option maxRecDepth 100000 in
theorem tX8_isRead_b2 {w : Wc} {X : MX} (hX : OKc w X RX8 cX8_isRead 4)  {s : Int32 × Um} {e : Nat} {s' : Int32 × Um} (hf : fX8_isRead_b2  s.1 s.2 = some (e, s')) (K0 : e = 0 → G w X Zm 2 [some (.ref 117), some (.int s'.1), none] [] s'.2) (K1 : e ≠ 0 → G w X Zm 21 [some (.ref 117), none, none] [] s'.2) : G w X Zm 2 [some (.ref 117), some (.int s.1), none] [] s.2 := by
  obtain ⟨s1, u⟩ := s
  unfold fX8_isRead_b2 at hf
  try dsimp only at hf ⊢
  refine G_iload_n hX dX8_isRead_2 rfl ?_
  refine G_bipush (v := 83) hX dX8_isRead_3 rfl ?_
  refine G_icmp_ge (tgt := 21) hX dX8_isRead_5 rfl hf (fun hf => ?_) (fun hf => ?_)
  · obtain ⟨rfl, rfl⟩ := ret2 hf
    refine G_mask (lv' := [some (.ref 117), none, none]) [true, false, false] rfl rfl ?_
    exact K1 (by decide)
  · refine G_aload_n hX dX8_isRead_8 rfl ?_
    refine G_getR (i := 7) (t := 123) hX kK117 (Nat.le_of_ble_eq_true rfl) (Nat.le_of_ble_eq_true rfl) rfl pK117_7 flX8_26 dX8_isRead_9 ?_
    refine G_iload_n hX dX8_isRead_12 rfl ?_
    refine G_iconst (v := 0) hX dX8_isRead_13 rfl ?_
    refine G_iast (n := 83) hX kK123 lK123 (Nat.le_of_ble_eq_true rfl) rfl dX8_isRead_14 hf (fun u1 hf => ?_)
    refine G_iincF (lvf := fun v2 => [some (.ref 117), some (.int v2), none]) hX dX8_isRead_15 rfl rfl rfl (Nat.le_of_ble_eq_true rfl) (fun _ => rfl) hf (fun v2 hf => ?_)
    refine G_goto (tgt := 2) hX dX8_isRead_18 rfl ?_
    obtain ⟨rfl, rfl⟩ := ret2 hf
    refine G_mask (lv' := [some (.ref 117), some (.int v2), none]) [true, true, false] rfl rfl ?_
    exact K0 rfl
noncomputable def fX8_isRead_j89 (i1 : Int32) (j2 : Int32) (z0 : Int32) (u : Um) : Option (Nat × Int32 × Um) :=
  bd2 (fX8_isSign z0 u) fun v19 u20 =>
  if v19 = 0 then
    some (2, j2, u20)
  else
    nm (j2 + 1) fun v21 =>
    some (0, v21, u20)
set_option maxHeartbeats 4000000 in
set_option maxRecDepth 100000 in
theorem tX8_isRead_j89 {w : Wc} {X : MX} (hX : OKc w X RX8 cX8_isRead 4) {i1 : Int32} {j2 : Int32} {z0 : Int32}  {u : Um} {e : Nat} {s' : Int32 × Um} (K0 : e = 0 → G w X Zm 61 [some (.ref 117), some (.int i1), some (.int s'.1)] [] s'.2) (K1 : e ≠ 0 → if e = 1 then G w X Zm 103 [some (.ref 117), none, none] [] s'.2 else G w X Zm 95 [none, none, none] [] s'.2) (hf : fX8_isRead_j89 i1 j2 z0 u = some (e, s')) : G w X Zm 89 [some (.ref 117), some (.int i1), some (.int j2)] [.int z0, .ref 117] u := by
  unfold fX8_isRead_j89 at hf
  obtain ⟨v19, u20, h18, hf⟩ := bd2_some hf
  refine G_cV (as := [.int z0]) (rest := []) hX cvX8_80 (mX8_isSign w h18) (Nat.le_of_ble_eq_true rfl) kK117 (Nat.le_of_ble_eq_true rfl) (Nat.le_of_ble_eq_true rfl) rfl rfl (Nat.le_of_ble_eq_true rfl) dX8_isRead_89 (st' := [.int v19]) rfl ?_
  refine G_if_ne (tgt := 97) hX dX8_isRead_92 rfl hf (fun hf => ?_) (fun hf => ?_)
  · refine G_iincF (lvf := fun v21 => [some (.ref 117), some (.int i1), some (.int v21)]) hX dX8_isRead_97 rfl rfl rfl (Nat.le_of_ble_eq_true rfl) (fun _ => rfl) hf (fun v21 hf => ?_)
    refine G_goto (tgt := 61) hX dX8_isRead_100 rfl ?_
    obtain ⟨rfl, rfl⟩ := ret2 hf
    refine G_mask (lv' := [some (.ref 117), some (.int i1), some (.int v21)]) [true, true, true] rfl rfl ?_
    exact K0 rfl
  · obtain ⟨rfl, rfl⟩ := ret2 hf
    refine G_mask (lv' := [none, none, none]) [false, false, false] rfl rfl ?_
    exact gx_miss (by decide) (K1 (by decide))
noncomputable def fX8_isRead_b61 (i1 : Int32) (s2 : Int32) (u : Um) : Option (Nat × Int32 × Um) :=
  if i1 ≤ s2 then
    some (1, s2, u)
  else
    bd2 (fX8_isPerson s2 u) fun v16 u17 =>
    if v16 = 0 then
      some (2, s2, u17)
    else
      if (i1 - 1) ≤ s2 then
        fX8_isRead_j89 i1 s2 59 u17
      else
        fX8_isRead_j89 i1 s2 44 u17
set_option maxHeartbeats 4000000 in
set_option maxRecDepth 100000 in
theorem tX8_isRead_b61 {w : Wc} {X : MX} (hX : OKc w X RX8 cX8_isRead 4) {i1 : Int32} {s : Int32 × Um} {e : Nat} {s' : Int32 × Um} (hf : fX8_isRead_b61 i1 s.1 s.2 = some (e, s')) (K0 : e = 0 → G w X Zm 61 [some (.ref 117), some (.int i1), some (.int s'.1)] [] s'.2) (K1 : e ≠ 0 → if e = 1 then G w X Zm 103 [some (.ref 117), none, none] [] s'.2 else G w X Zm 95 [none, none, none] [] s'.2) : G w X Zm 61 [some (.ref 117), some (.int i1), some (.int s.1)] [] s.2 := by
  obtain ⟨s2, u⟩ := s
  unfold fX8_isRead_b61 at hf
  try dsimp only at hf ⊢
  refine G_iload_n hX dX8_isRead_61 rfl ?_
  refine G_iload_n hX dX8_isRead_62 rfl ?_
  refine G_icmp_ge (tgt := 103) hX dX8_isRead_63 rfl hf (fun hf => ?_) (fun hf => ?_)
  · obtain ⟨rfl, rfl⟩ := ret2 hf
    refine G_mask (lv' := [some (.ref 117), none, none]) [true, false, false] rfl rfl ?_
    exact gx_hit (K1 (by decide))
  · refine G_aload_n hX dX8_isRead_66 rfl ?_
    refine G_iload_n hX dX8_isRead_67 rfl ?_
    obtain ⟨v16, u17, h15, hf⟩ := bd2_some hf
    refine G_cV (as := [.int s2]) (rest := []) hX cvX8_88 (mX8_isPerson w h15) (Nat.le_of_ble_eq_true rfl) kK117 (Nat.le_of_ble_eq_true rfl) (Nat.le_of_ble_eq_true rfl) rfl rfl (Nat.le_of_ble_eq_true rfl) dX8_isRead_68 (st' := [.int v16]) rfl ?_
    refine G_if_eq (tgt := 95) hX dX8_isRead_71 rfl hf (fun hf => ?_) (fun hf => ?_)
    · obtain ⟨rfl, rfl⟩ := ret2 hf
      refine G_mask (lv' := [none, none, none]) [false, false, false] rfl rfl ?_
      exact gx_miss (by decide) (K1 (by decide))
    · refine G_aload_n hX dX8_isRead_74 rfl ?_
      refine G_iload_n hX dX8_isRead_75 rfl ?_
      refine G_iload_n hX dX8_isRead_76 rfl ?_
      refine G_iconst (v := 1) hX dX8_isRead_77 rfl ?_
      refine G_isub hX dX8_isRead_78 ?_
      refine G_icmp_ge (tgt := 87) hX dX8_isRead_79 rfl hf (fun hf => ?_) (fun hf => ?_)
      · refine G_bipush (v := 59) hX dX8_isRead_87 rfl ?_
        refine G_mask (lv' := [some (.ref 117), some (.int i1), some (.int s2)]) [true, true, true] rfl rfl ?_
        exact tX8_isRead_j89 hX  K0 K1 hf
      · refine G_bipush (v := 44) hX dX8_isRead_82 rfl ?_
        refine G_goto (tgt := 89) hX dX8_isRead_84 rfl ?_
        refine G_mask (lv' := [some (.ref 117), some (.int i1), some (.int s2)]) [true, true, true] rfl rfl ?_
        exact tX8_isRead_j89 hX  K0 K1 hf
noncomputable def fX8_isRead_j143 (z0 : Int32) (u : Um) : Option (Nat × Int32 × Um) :=
  some (0, z0, u)
set_option maxHeartbeats 4000000 in
set_option maxRecDepth 100000 in
theorem tX8_isRead_j143 {w : Wc} {X : MX} (hX : OKc w X RX8 cX8_isRead 4) {z0 : Int32}  {u : Um} {e : Nat} {s' : Int32 × Um} (K0 : e = 0 → G w X Zm 105 [some (.ref 117), none, some (.int s'.1)] [] s'.2) (K1 : e ≠ 0 → if e = 1 then G w X Zm 147 [some (.ref 117), none, none] [] s'.2 else G w X Zm 116 [none, none, none] [] s'.2) (hf : fX8_isRead_j143 z0 u = some (e, s')) : G w X Zm 143 [some (.ref 117), none, none] [.int z0] u := by
  unfold fX8_isRead_j143 at hf
  refine G_istore_n (lv' := [some (.ref 117), none, some (.int z0)]) hX dX8_isRead_143 rfl (Nat.le_of_ble_eq_true rfl) rfl ?_
  refine G_goto (tgt := 105) hX dX8_isRead_144 rfl ?_
  obtain ⟨rfl, rfl⟩ := ret2 hf
  refine G_mask (lv' := [some (.ref 117), none, some (.int z0)]) [true, false, true] rfl rfl ?_
  exact K0 rfl
noncomputable def fX8_isRead_j142  (u : Um) : Option (Nat × Int32 × Um) :=
  fX8_isRead_j143 0 u
set_option maxHeartbeats 4000000 in
set_option maxRecDepth 100000 in
theorem tX8_isRead_j142 {w : Wc} {X : MX} (hX : OKc w X RX8 cX8_isRead 4)   {u : Um} {e : Nat} {s' : Int32 × Um} (K0 : e = 0 → G w X Zm 105 [some (.ref 117), none, some (.int s'.1)] [] s'.2) (K1 : e ≠ 0 → if e = 1 then G w X Zm 147 [some (.ref 117), none, none] [] s'.2 else G w X Zm 116 [none, none, none] [] s'.2) (hf : fX8_isRead_j142  u = some (e, s')) : G w X Zm 142 [some (.ref 117), none, none] [] u := by
  unfold fX8_isRead_j142 at hf
  refine G_iconst (v := 0) hX dX8_isRead_142 rfl ?_
  refine G_mask (lv' := [some (.ref 117), none, none]) [true, false, false] rfl rfl ?_
  exact tX8_isRead_j143 hX  K0 K1 hf
noncomputable def fX8_isRead_b105 (s2 : Int32) (u : Um) : Option (Nat × Int32 × Um) :=
  if s2 = 0 then
    some (1, s2, u)
  else
    bd2 (fX8_isWrongItem  u) fun v27 u28 =>
    if v27 = 0 then
      some (2, s2, u28)
    else
      if inb 2 83 = true then
      if 8 ≤ (u28.1 123 (2 : Int32).toNatClampNeg) then
        fX8_isRead_j142  u28
      else
        bd2 (fX8_isSign 44 u28) fun v30 u31 =>
        if v30 = 0 then
          fX8_isRead_j142  u31
        else
          fX8_isRead_j143 1 u31
      else none
set_option maxHeartbeats 4000000 in
set_option maxRecDepth 100000 in
theorem tX8_isRead_b105 {w : Wc} {X : MX} (hX : OKc w X RX8 cX8_isRead 4)  {s : Int32 × Um} {e : Nat} {s' : Int32 × Um} (hf : fX8_isRead_b105  s.1 s.2 = some (e, s')) (K0 : e = 0 → G w X Zm 105 [some (.ref 117), none, some (.int s'.1)] [] s'.2) (K1 : e ≠ 0 → if e = 1 then G w X Zm 147 [some (.ref 117), none, none] [] s'.2 else G w X Zm 116 [none, none, none] [] s'.2) : G w X Zm 105 [some (.ref 117), none, some (.int s.1)] [] s.2 := by
  obtain ⟨s2, u⟩ := s
  unfold fX8_isRead_b105 at hf
  try dsimp only at hf ⊢
  refine G_iload_n hX dX8_isRead_105 rfl ?_
  refine G_if_eq (tgt := 147) hX dX8_isRead_106 rfl hf (fun hf => ?_) (fun hf => ?_)
  · obtain ⟨rfl, rfl⟩ := ret2 hf
    refine G_mask (lv' := [some (.ref 117), none, none]) [true, false, false] rfl rfl ?_
    exact gx_hit (K1 (by decide))
  · refine G_aload_n hX dX8_isRead_109 rfl ?_
    obtain ⟨v27, u28, h26, hf⟩ := bd2_some hf
    refine G_cV (as := []) (rest := []) hX cvX8_91 (mX8_isWrongItem w h26) (Nat.le_of_ble_eq_true rfl) kK117 (Nat.le_of_ble_eq_true rfl) (Nat.le_of_ble_eq_true rfl) rfl rfl (Nat.le_of_ble_eq_true rfl) dX8_isRead_110 (st' := [.int v27]) rfl ?_
    refine G_if_ne (tgt := 118) hX dX8_isRead_113 rfl hf (fun hf => ?_) (fun hf => ?_)
    · refine G_aload_n hX dX8_isRead_118 rfl ?_
      refine G_getR (i := 7) (t := 123) hX kK117 (Nat.le_of_ble_eq_true rfl) (Nat.le_of_ble_eq_true rfl) rfl pK117_7 flX8_26 dX8_isRead_119 ?_
      refine G_iconst (v := 2) hX dX8_isRead_122 rfl ?_
      refine G_iald (n := 83) hX kK123 lK123 (Nat.le_of_ble_eq_true rfl) dX8_isRead_123 hf (fun hf => ?_)
      refine G_bipush (v := 8) hX dX8_isRead_124 rfl ?_
      refine G_icmp_ge (tgt := 142) hX dX8_isRead_126 rfl hf (fun hf => ?_) (fun hf => ?_)
      · refine G_mask (lv' := [some (.ref 117), none, none]) [true, false, false] rfl rfl ?_
        exact tX8_isRead_j142 hX  K0 K1 hf
      · refine G_aload_n hX dX8_isRead_129 rfl ?_
        refine G_bipush (v := 44) hX dX8_isRead_130 rfl ?_
        obtain ⟨v30, u31, h29, hf⟩ := bd2_some hf
        refine G_cV (as := [.int 44]) (rest := []) hX cvX8_80 (mX8_isSign w h29) (Nat.le_of_ble_eq_true rfl) kK117 (Nat.le_of_ble_eq_true rfl) (Nat.le_of_ble_eq_true rfl) rfl rfl (Nat.le_of_ble_eq_true rfl) dX8_isRead_132 (st' := [.int v30]) rfl ?_
        refine G_if_eq (tgt := 142) hX dX8_isRead_135 rfl hf (fun hf => ?_) (fun hf => ?_)
        · refine G_mask (lv' := [some (.ref 117), none, none]) [true, false, false] rfl rfl ?_
          exact tX8_isRead_j142 hX  K0 K1 hf
        · refine G_iconst (v := 1) hX dX8_isRead_138 rfl ?_
          refine G_goto (tgt := 143) hX dX8_isRead_139 rfl ?_
          refine G_mask (lv' := [some (.ref 117), none, none]) [true, false, false] rfl rfl ?_
          exact tX8_isRead_j143 hX  K0 K1 hf
    · obtain ⟨rfl, rfl⟩ := ret2 hf
      refine G_mask (lv' := [none, none, none]) [false, false, false] rfl rfl ?_
      exact gx_miss (by decide) (K1 (by decide))
noncomputable def fX8_isRead  (u : Um) : Option (Int32 × Um) :=
  bd3 (lp (fun s => fX8_isRead_b2  s.1 s.2) fuel ((0 : Int32), u)) fun e5 v3 u4 =>
  nm (sI u4 117 5 0) fun u7 =>
  bd2 (fX8_isSign 114 u7) fun v9 u10 =>
  if v9 = 0 then
    some (0, u10)
  else
    bd2 (fX8_figure 2 6 (-1) u10) fun v12 u13 =>
    if 0 ≤ v12 then
      if inb 1 83 = true then
      nm (sI u13 123 (1 : Int32).toNatClampNeg v12) fun u14 =>
      bd3 (lp (fun s => fX8_isRead_b61 v12 s.1 s.2) fuel ((0 : Int32), u14)) fun e24 v22 u23 =>
      if e24 = 1 then
        bd3 (lp (fun s => fX8_isRead_b105  s.1 s.2) fuel ((1 : Int32), u23)) fun e34 v32 u33 =>
        if e34 = 1 then
          bd2 (fX8_isSign 59 u33) fun v37 u38 =>
          if v37 = 0 then
            some (0, u38)
          else
            bd2 (fX8_figure 0 1 (-1) u38) fun v40 u41 =>
            if inb 0 83 = true then
            nm (sI u41 123 (0 : Int32).toNatClampNeg v40) fun u42 =>
            if inb 0 83 = true then
            if (u42.1 123 (0 : Int32).toNatClampNeg) < 0 then
              some (0, u42)
            else
              if (u42.1 117 5) = (u42.1 117 3) then
                some (1, u42)
              else
                some (0, u42)
            else none
            else none
        else
        some (0, u33)
      else
      some (0, u23)
      else none
    else
      some (0, u13)
set_option maxHeartbeats 4000000 in
set_option maxRecDepth 100000 in
theorem mX8_isRead (w : Wc)   {u : Um} {r : Int32} {u' : Um} (hf : fX8_isRead  u = some (r, u')) : MC w 4 qX8_isRead [.ref 117] u (some (.int r)) u' := by
  unfold fX8_isRead at hf
  refine MC_intro pnX8 (Nat.le_of_ble_eq_true rfl) (fun X hX hR _ _ => ?_)
  have hX : OKc w X RX8 cX8_isRead 4 := hX
  have hR : RT w X (some .boolean) 0 0 Pst 133 false (some (.int r)) u' := hR
  refine G_eql (lv' := [some (.ref 117), none, none]) rfl ?_
  refine G_iconst (v := 0) hX dX8_isRead_0 rfl ?_
  refine G_istore_n (lv' := [some (.ref 117), some (.int 0), none]) hX dX8_isRead_1 rfl (Nat.le_of_ble_eq_true rfl) rfl ?_
  obtain ⟨e5, v3, u4, h6, hf⟩ := bd3_some hf
  refine G_mask (lv' := [some (.ref 117), some (.int 0), none]) [true, true, false] rfl rfl ?_
  refine lp_G (body := (fun s => fX8_isRead_b2  s.1 s.2)) (Gh := fun s => G w X Zm 2 [some (.ref 117), some (.int s.1), none] [] s.2) (Gx := fun e s => G w X Zm 21 [some (.ref 117), none, none] [] s.2) (fun s e s' hb K0 K1 => tX8_isRead_b2 (s := s) (e := e) (s' := s') hX   hb K0 K1) fuel ((0 : Int32), u) (e5, v3, u4) h6 ?_
  refine G_aload_n hX dX8_isRead_21 rfl ?_
  refine G_iconst (v := 0) hX dX8_isRead_22 rfl ?_
  refine G_putI (i := 5) hX kK117 (Nat.le_of_ble_eq_true rfl) (Nat.le_of_ble_eq_true rfl) rfl rfl flX8_65 fwX8_5 dX8_isRead_23 hf (fun u7 hf => ?_)
  refine G_aload_n hX dX8_isRead_26 rfl ?_
  refine G_bipush (v := 114) hX dX8_isRead_27 rfl ?_
  obtain ⟨v9, u10, h8, hf⟩ := bd2_some hf
  refine G_cV (as := [.int 114]) (rest := []) hX cvX8_80 (mX8_isSign w h8) (Nat.le_of_ble_eq_true rfl) kK117 (Nat.le_of_ble_eq_true rfl) (Nat.le_of_ble_eq_true rfl) rfl rfl (Nat.le_of_ble_eq_true rfl) dX8_isRead_29 (st' := [.int v9]) rfl ?_
  refine G_if_ne (tgt := 37) hX dX8_isRead_32 rfl hf (fun hf => ?_) (fun hf => ?_)
  · refine G_aload_n hX dX8_isRead_37 rfl ?_
    refine G_iconst (v := 2) hX dX8_isRead_38 rfl ?_
    refine G_bipush (v := 6) hX dX8_isRead_39 rfl ?_
    refine G_iconst (v := (-1)) hX dX8_isRead_41 rfl ?_
    obtain ⟨v12, u13, h11, hf⟩ := bd2_some hf
    refine G_cV (as := [.int 2, .int 6, .int (-1)]) (rest := []) hX cvX8_76 (mX8_figure w h11) (Nat.le_of_ble_eq_true rfl) kK117 (Nat.le_of_ble_eq_true rfl) (Nat.le_of_ble_eq_true rfl) rfl rfl (Nat.le_of_ble_eq_true rfl) dX8_isRead_42 (st' := [.int v12]) rfl ?_
    refine G_istore_n (lv' := [some (.ref 117), some (.int v12), none]) hX dX8_isRead_45 rfl (Nat.le_of_ble_eq_true rfl) rfl ?_
    refine G_iload_n hX dX8_isRead_46 rfl ?_
    refine G_if_ge (tgt := 52) hX dX8_isRead_47 rfl hf (fun hf => ?_) (fun hf => ?_)
    · refine G_aload_n hX dX8_isRead_52 rfl ?_
      refine G_getR (i := 7) (t := 123) hX kK117 (Nat.le_of_ble_eq_true rfl) (Nat.le_of_ble_eq_true rfl) rfl pK117_7 flX8_26 dX8_isRead_53 ?_
      refine G_iconst (v := 1) hX dX8_isRead_56 rfl ?_
      refine G_iload_n hX dX8_isRead_57 rfl ?_
      refine G_iast (n := 83) hX kK123 lK123 (Nat.le_of_ble_eq_true rfl) rfl dX8_isRead_58 hf (fun u14 hf => ?_)
      refine G_iconst (v := 0) hX dX8_isRead_59 rfl ?_
      refine G_istore_n (lv' := [some (.ref 117), some (.int v12), some (.int 0)]) hX dX8_isRead_60 rfl (Nat.le_of_ble_eq_true rfl) rfl ?_
      obtain ⟨e24, v22, u23, h25, hf⟩ := bd3_some hf
      refine G_mask (lv' := [some (.ref 117), some (.int v12), some (.int 0)]) [true, true, true] rfl rfl ?_
      refine lp_G (body := (fun s => fX8_isRead_b61 v12 s.1 s.2)) (Gh := fun s => G w X Zm 61 [some (.ref 117), some (.int v12), some (.int s.1)] [] s.2) (Gx := fun e s => if e = 1 then G w X Zm 103 [some (.ref 117), none, none] [] s.2 else G w X Zm 95 [none, none, none] [] s.2) (fun s e s' hb K0 K1 => tX8_isRead_b61 (s := s) (e := e) (s' := s') hX   hb K0 K1) fuel ((0 : Int32), u14) (e24, v22, u23) h25 ?_
      refine gx2 hf (fun hf => ?_) (fun hf => ?_)
      · refine G_iconst (v := 1) hX dX8_isRead_103 rfl ?_
        refine G_istore_n (lv' := [some (.ref 117), none, some (.int 1)]) hX dX8_isRead_104 rfl (Nat.le_of_ble_eq_true rfl) rfl ?_
        obtain ⟨e34, v32, u33, h35, hf⟩ := bd3_some hf
        refine G_mask (lv' := [some (.ref 117), none, some (.int 1)]) [true, false, true] rfl rfl ?_
        refine lp_G (body := (fun s => fX8_isRead_b105  s.1 s.2)) (Gh := fun s => G w X Zm 105 [some (.ref 117), none, some (.int s.1)] [] s.2) (Gx := fun e s => if e = 1 then G w X Zm 147 [some (.ref 117), none, none] [] s.2 else G w X Zm 116 [none, none, none] [] s.2) (fun s e s' hb K0 K1 => tX8_isRead_b105 (s := s) (e := e) (s' := s') hX   hb K0 K1) fuel ((1 : Int32), u23) (e34, v32, u33) h35 ?_
        refine gx2 hf (fun hf => ?_) (fun hf => ?_)
        · refine G_aload_n hX dX8_isRead_147 rfl ?_
          refine G_bipush (v := 59) hX dX8_isRead_148 rfl ?_
          obtain ⟨v37, u38, h36, hf⟩ := bd2_some hf
          refine G_cV (as := [.int 59]) (rest := []) hX cvX8_80 (mX8_isSign w h36) (Nat.le_of_ble_eq_true rfl) kK117 (Nat.le_of_ble_eq_true rfl) (Nat.le_of_ble_eq_true rfl) rfl rfl (Nat.le_of_ble_eq_true rfl) dX8_isRead_150 (st' := [.int v37]) rfl ?_
          refine G_if_ne (tgt := 158) hX dX8_isRead_153 rfl hf (fun hf => ?_) (fun hf => ?_)
          · refine G_aload_n hX dX8_isRead_158 rfl ?_
            refine G_getR (i := 7) (t := 123) hX kK117 (Nat.le_of_ble_eq_true rfl) (Nat.le_of_ble_eq_true rfl) rfl pK117_7 flX8_26 dX8_isRead_159 ?_
            refine G_iconst (v := 0) hX dX8_isRead_162 rfl ?_
            refine G_aload_n hX dX8_isRead_163 rfl ?_
            refine G_iconst (v := 0) hX dX8_isRead_164 rfl ?_
            refine G_iconst (v := 1) hX dX8_isRead_165 rfl ?_
            refine G_iconst (v := (-1)) hX dX8_isRead_166 rfl ?_
            obtain ⟨v40, u41, h39, hf⟩ := bd2_some hf
            refine G_cV (as := [.int 0, .int 1, .int (-1)]) (rest := [.int 0, .ref 123]) hX cvX8_76 (mX8_figure w h39) (Nat.le_of_ble_eq_true rfl) kK117 (Nat.le_of_ble_eq_true rfl) (Nat.le_of_ble_eq_true rfl) rfl rfl (Nat.le_of_ble_eq_true rfl) dX8_isRead_167 (st' := [.int v40, .int 0, .ref 123]) rfl ?_
            refine G_iast (n := 83) hX kK123 lK123 (Nat.le_of_ble_eq_true rfl) rfl dX8_isRead_170 hf (fun u42 hf => ?_)
            refine G_aload_n hX dX8_isRead_171 rfl ?_
            refine G_getR (i := 7) (t := 123) hX kK117 (Nat.le_of_ble_eq_true rfl) (Nat.le_of_ble_eq_true rfl) rfl pK117_7 flX8_26 dX8_isRead_172 ?_
            refine G_iconst (v := 0) hX dX8_isRead_175 rfl ?_
            refine G_iald (n := 83) hX kK123 lK123 (Nat.le_of_ble_eq_true rfl) dX8_isRead_176 hf (fun hf => ?_)
            refine G_if_lt (tgt := 195) hX dX8_isRead_177 rfl hf (fun hf => ?_) (fun hf => ?_)
            · refine G_iconst (v := 0) hX dX8_isRead_195 rfl ?_
              obtain ⟨rfl, rfl⟩ := ret2 hf
              exact G_zret hX hR (by decide) dX8_isRead_196
            · refine G_aload_n hX dX8_isRead_180 rfl ?_
              refine G_getI (i := 5) hX kK117 (Nat.le_of_ble_eq_true rfl) (Nat.le_of_ble_eq_true rfl) rfl flX8_65 dX8_isRead_181 ?_
              refine G_aload_n hX dX8_isRead_184 rfl ?_
              refine G_getI (i := 3) hX kK117 (Nat.le_of_ble_eq_true rfl) (Nat.le_of_ble_eq_true rfl) rfl flX8_61 dX8_isRead_185 ?_
              refine G_icmp_ne (tgt := 195) hX dX8_isRead_188 rfl hf (fun hf => ?_) (fun hf => ?_)
              · refine G_iconst (v := 0) hX dX8_isRead_195 rfl ?_
                obtain ⟨rfl, rfl⟩ := ret2 hf
                exact G_zret hX hR (by decide) dX8_isRead_196
              · refine G_iconst (v := 1) hX dX8_isRead_191 rfl ?_
                refine G_goto (tgt := 196) hX dX8_isRead_192 rfl ?_
                obtain ⟨rfl, rfl⟩ := ret2 hf
                exact G_zret hX hR (by decide) dX8_isRead_196
          · refine G_iconst (v := 0) hX dX8_isRead_156 rfl ?_
            obtain ⟨rfl, rfl⟩ := ret2 hf
            exact G_zret hX hR (by decide) dX8_isRead_157
        refine G_iconst (v := 0) hX dX8_isRead_116 rfl ?_
        obtain ⟨rfl, rfl⟩ := ret2 hf
        exact G_zret hX hR (by decide) dX8_isRead_117
      refine G_iconst (v := 0) hX dX8_isRead_95 rfl ?_
      obtain ⟨rfl, rfl⟩ := ret2 hf
      exact G_zret hX hR (by decide) dX8_isRead_96
    · refine G_iconst (v := 0) hX dX8_isRead_50 rfl ?_
      obtain ⟨rfl, rfl⟩ := ret2 hf
      exact G_zret hX hR (by decide) dX8_isRead_51
  · refine G_iconst (v := 0) hX dX8_isRead_35 rfl ?_
    obtain ⟨rfl, rfl⟩ := ret2 hf
    exact G_zret hX hR (by decide) dX8_isRead_36
noncomputable def fX8_bring_b3 (p0 : Nat) (p1 : Int32) (p2 : Nat) (p3 : Int32) (p4 : Int32) (s5 : Int32) (u : Um) : Option (Nat × Int32 × Um) :=
  if p4 ≤ s5 then
    some (1, s5, u)
  else
    if inb (p1 + s5) (ln p0) = true then
    if inb (p3 + s5) (ln p2) = true then
    nm (sI u p2 (p3 + s5).toNatClampNeg (u.1 p0 ((p1 + s5)).toNatClampNeg)) fun u1 =>
    nm (s5 + 1) fun v2 =>
    some (0, v2, u1)
    else none
    else none
set_option maxHeartbeats 4000000 in
set_option maxRecDepth 100000 in
theorem tX8_bring_b3 {w : Wc} {X : MX} (hX : OKc w X RX8 cX8_bring 1) {p0 : Nat} {p1 : Int32} {p2 : Nat} {p3 : Int32} {p4 : Int32} (hp0 : kd p0 = 9) (hp2 : kd p2 = 9) {s : Int32 × Um} {e : Nat} {s' : Int32 × Um} (hf : fX8_bring_b3 p0 p1 p2 p3 p4 s.1 s.2 = some (e, s')) (K0 : e = 0 → G w X Zm 3 [some (.ref p0), some (.int p1), some (.ref p2), some (.int p3), some (.int p4), some (.int s'.1)] [] s'.2) (K1 : e ≠ 0 → G w X Zm 28 [none, none, none, none, none, none] [] s'.2) : G w X Zm 3 [some (.ref p0), some (.int p1), some (.ref p2), some (.int p3), some (.int p4), some (.int s.1)] [] s.2 := by
  obtain ⟨s5, u⟩ := s
  unfold fX8_bring_b3 at hf
  try dsimp only at hf ⊢
  refine G_iload hX dX8_bring_3 rfl ?_
  refine G_iload hX dX8_bring_5 rfl ?_
  refine G_icmp_ge (tgt := 28) hX dX8_bring_7 rfl hf (fun hf => ?_) (fun hf => ?_)
  · obtain ⟨rfl, rfl⟩ := ret2 hf
    refine G_mask (lv' := [none, none, none, none, none, none]) [false, false, false, false, false, false] rfl rfl ?_
    exact K1 (by decide)
  · refine G_aload_n hX dX8_bring_10 rfl ?_
    refine G_iload_n hX dX8_bring_11 rfl ?_
    refine G_iload hX dX8_bring_12 rfl ?_
    refine G_iadd hX dX8_bring_14 ?_
    refine G_aload_n hX dX8_bring_15 rfl ?_
    refine G_iload_n hX dX8_bring_16 rfl ?_
    refine G_iload hX dX8_bring_17 rfl ?_
    refine G_iadd hX dX8_bring_19 ?_
    refine G_iald (n := (ln p0)) hX hp0 rfl (kd_lt hp0 (Nat.le_of_ble_eq_true rfl)) dX8_bring_20 hf (fun hf => ?_)
    refine G_iast (n := (ln p2)) hX hp2 rfl (kd_lt hp2 (Nat.le_of_ble_eq_true rfl)) rfl dX8_bring_21 hf (fun u1 hf => ?_)
    refine G_iincF (lvf := fun v2 => [some (.ref p0), some (.int p1), some (.ref p2), some (.int p3), some (.int p4), some (.int v2)]) hX dX8_bring_22 rfl rfl rfl (Nat.le_of_ble_eq_true rfl) (fun _ => rfl) hf (fun v2 hf => ?_)
    refine G_goto (tgt := 3) hX dX8_bring_25 rfl ?_
    obtain ⟨rfl, rfl⟩ := ret2 hf
    refine G_mask (lv' := [some (.ref p0), some (.int p1), some (.ref p2), some (.int p3), some (.int p4), some (.int v2)]) [true, true, true, true, true, true] rfl rfl ?_
    exact K0 rfl
noncomputable def fX8_bring (p0 : Nat) (p1 : Int32) (p2 : Nat) (p3 : Int32) (p4 : Int32) (u : Um) : Option Um :=
  bd3 (lp (fun s => fX8_bring_b3 p0 p1 p2 p3 p4 s.1 s.2) fuel ((0 : Int32), u)) fun e5 v3 u4 =>
  some u4
set_option maxHeartbeats 4000000 in
set_option maxRecDepth 100000 in
theorem mX8_bring (w : Wc) {p0 : Nat} {p1 : Int32} {p2 : Nat} {p3 : Int32} {p4 : Int32} (hp0 : kd p0 = 9) (hp2 : kd p2 = 9) {u : Um} {u' : Um} (hf : fX8_bring p0 p1 p2 p3 p4 u = some u') : MC w 1 qX8_bring [.ref p0, .int p1, .ref p2, .int p3, .int p4] u none u' := by
  unfold fX8_bring at hf
  refine MC_intro pnX8 (Nat.le_of_ble_eq_true rfl) (fun X hX hR _ _ => ?_)
  have hX : OKc w X RX8 cX8_bring 1 := hX
  have hR : RT w X none 0 0 Pst 133 false none u' := hR
  refine G_eql (lv' := [some (.ref p0), some (.int p1), some (.ref p2), some (.int p3), some (.int p4), none]) rfl ?_
  refine G_iconst (v := 0) hX dX8_bring_0 rfl ?_
  refine G_istore (lv' := [some (.ref p0), some (.int p1), some (.ref p2), some (.int p3), some (.int p4), some (.int 0)]) hX dX8_bring_1 rfl (Nat.le_of_ble_eq_true rfl) rfl ?_
  obtain ⟨e5, v3, u4, h6, hf⟩ := bd3_some hf
  refine G_mask (lv' := [some (.ref p0), some (.int p1), some (.ref p2), some (.int p3), some (.int p4), some (.int 0)]) [true, true, true, true, true, true] rfl rfl ?_
  refine lp_G (body := (fun s => fX8_bring_b3 p0 p1 p2 p3 p4 s.1 s.2)) (Gh := fun s => G w X Zm 3 [some (.ref p0), some (.int p1), some (.ref p2), some (.int p3), some (.int p4), some (.int s.1)] [] s.2) (Gx := fun e s => G w X Zm 28 [none, none, none, none, none, none] [] s.2) (fun s e s' hb K0 K1 => tX8_bring_b3 (s := s) (e := e) (s' := s') hX hp0 hp2  hb K0 K1) fuel ((0 : Int32), u) (e5, v3, u4) h6 ?_
  obtain rfl := Option.some.inj hf
  exact G_vret hX hR dX8_bring_28
noncomputable def fX8_coast  (u : Um) : Option (Int32 × Um) :=
  bd2 (fX8_isRead  u) fun v2 u3 =>
  nm (sI u3 117 3 0) fun u4 =>
  if v2 = 0 then
    some (((-100) - (u4.1 117 5)), u4)
  else
    bd1 (fX8_bring 123 0 122 0 83 u4) fun u6 =>
    nm (sI u6 117 12 0) fun u7 =>
    if inb 2 83 = true then
    some ((u7.1 122 (2 : Int32).toNatClampNeg), u7)
    else none
set_option maxHeartbeats 4000000 in
set_option maxRecDepth 100000 in
theorem mX8_coast (w : Wc)   {u : Um} {r : Int32} {u' : Um} (hf : fX8_coast  u = some (r, u')) : MC w 5 qX8_coast [.ref 117] u (some (.int r)) u' := by
  unfold fX8_coast at hf
  refine MC_intro pnX8 (Nat.le_of_ble_eq_true rfl) (fun X hX hR _ _ => ?_)
  have hX : OKc w X RX8 cX8_coast 5 := hX
  have hR : RT w X (some .int) 0 0 Pst 133 false (some (.int r)) u' := hR
  refine G_eql (lv' := [some (.ref 117), none]) rfl ?_
  refine G_aload_n hX dX8_coast_0 rfl ?_
  obtain ⟨v2, u3, h1, hf⟩ := bd2_some hf
  refine G_cV (as := []) (rest := []) hX cvX8_95 (mX8_isRead w h1) (Nat.le_of_ble_eq_true rfl) kK117 (Nat.le_of_ble_eq_true rfl) (Nat.le_of_ble_eq_true rfl) rfl rfl (Nat.le_of_ble_eq_true rfl) dX8_coast_1 (st' := [.int v2]) rfl ?_
  refine G_istore_n (lv' := [some (.ref 117), some (.int v2)]) hX dX8_coast_4 rfl (Nat.le_of_ble_eq_true rfl) rfl ?_
  refine G_aload_n hX dX8_coast_5 rfl ?_
  refine G_iconst (v := 0) hX dX8_coast_6 rfl ?_
  refine G_putI (i := 3) hX kK117 (Nat.le_of_ble_eq_true rfl) (Nat.le_of_ble_eq_true rfl) rfl rfl flX8_61 fwX8_3 dX8_coast_7 hf (fun u4 hf => ?_)
  refine G_iload_n hX dX8_coast_10 rfl ?_
  refine G_if_ne (tgt := 22) hX dX8_coast_11 rfl hf (fun hf => ?_) (fun hf => ?_)
  · refine G_aload_n hX dX8_coast_22 rfl ?_
    refine G_getR (i := 7) (t := 123) hX kK117 (Nat.le_of_ble_eq_true rfl) (Nat.le_of_ble_eq_true rfl) rfl pK117_7 flX8_26 dX8_coast_23 ?_
    refine G_iconst (v := 0) hX dX8_coast_26 rfl ?_
    refine G_aload_n hX dX8_coast_27 rfl ?_
    refine G_getR (i := 6) (t := 122) hX kK117 (Nat.le_of_ble_eq_true rfl) (Nat.le_of_ble_eq_true rfl) rfl pK117_6 flX8_23 dX8_coast_28 ?_
    refine G_iconst (v := 0) hX dX8_coast_31 rfl ?_
    refine G_bipush (v := 83) hX dX8_coast_32 rfl ?_
    obtain ⟨u6, h5, hf⟩ := bd1_some hf
    refine G_cS (as := [.ref 123, .int 0, .ref 122, .int 0, .int 83]) (rest := []) hX csX8_98 (mX8_bring w kK123 kK122 h5) (Nat.le_of_ble_eq_true rfl) rfl rfl (Nat.le_of_ble_eq_true rfl) dX8_coast_34 (st' := []) rfl ?_
    refine G_aload_n hX dX8_coast_37 rfl ?_
    refine G_iconst (v := 0) hX dX8_coast_38 rfl ?_
    refine G_putI (i := 12) hX kK117 (Nat.le_of_ble_eq_true rfl) (Nat.le_of_ble_eq_true rfl) rfl rfl flX8_102 fwX8_12 dX8_coast_39 hf (fun u7 hf => ?_)
    refine G_aload_n hX dX8_coast_42 rfl ?_
    refine G_getR (i := 6) (t := 122) hX kK117 (Nat.le_of_ble_eq_true rfl) (Nat.le_of_ble_eq_true rfl) rfl pK117_6 flX8_23 dX8_coast_43 ?_
    refine G_iconst (v := 2) hX dX8_coast_46 rfl ?_
    refine G_iald (n := 83) hX kK122 lK122 (Nat.le_of_ble_eq_true rfl) dX8_coast_47 hf (fun hf => ?_)
    obtain ⟨rfl, rfl⟩ := ret2 hf
    exact G_iret hX hR dX8_coast_48
  · refine G_bipush (v := (-100)) hX dX8_coast_14 rfl ?_
    refine G_aload_n hX dX8_coast_16 rfl ?_
    refine G_getI (i := 5) hX kK117 (Nat.le_of_ble_eq_true rfl) (Nat.le_of_ble_eq_true rfl) rfl flX8_65 dX8_coast_17 ?_
    refine G_isub hX dX8_coast_20 ?_
    obtain ⟨rfl, rfl⟩ := ret2 hf
    exact G_iret hX hR dX8_coast_21
noncomputable def fX8_isOne (p0 : Int32) (u : Um) : Option Int32 :=
  if inb 1 83 = true then
  bd1 (fX8_in p0 0 ((u.1 122 (1 : Int32).toNatClampNeg) - 1) u) fun v2 =>
  if v2 = 0 ∨ v2 = 1 then some v2 else none
  else none
set_option maxHeartbeats 4000000 in
set_option maxRecDepth 100000 in
theorem mX8_isOne (w : Wc) {p0 : Int32}  {u : Um} {r : Int32} (hf : fX8_isOne p0 u = some r) : MC w 2 qX8_isOne [.ref 117, .int p0] u (some (.int r)) u := by
  unfold fX8_isOne at hf
  refine MC_intro pnX8 (Nat.le_of_ble_eq_true rfl) (fun X hX hR _ _ => ?_)
  have hX : OKc w X RX8 cX8_isOne 2 := hX
  have hR : RT w X (some .boolean) 0 0 Pst 133 false (some (.int r)) u := hR
  refine G_eql (lv' := [some (.ref 117), some (.int p0)]) rfl ?_
  refine G_iload_n hX dX8_isOne_0 rfl ?_
  refine G_iconst (v := 0) hX dX8_isOne_1 rfl ?_
  refine G_aload_n hX dX8_isOne_2 rfl ?_
  refine G_getR (i := 6) (t := 122) hX kK117 (Nat.le_of_ble_eq_true rfl) (Nat.le_of_ble_eq_true rfl) rfl pK117_6 flX8_23 dX8_isOne_3 ?_
  refine G_iconst (v := 1) hX dX8_isOne_6 rfl ?_
  refine G_iald (n := 83) hX kK122 lK122 (Nat.le_of_ble_eq_true rfl) dX8_isOne_7 hf (fun hf => ?_)
  refine G_iconst (v := 1) hX dX8_isOne_8 rfl ?_
  refine G_isub hX dX8_isOne_9 ?_
  obtain ⟨v2, h1, hf⟩ := bd1_some hf
  refine G_cS (as := [.int p0, .int 0, .int ((u.1 122 (1 : Int32).toNatClampNeg) - 1)]) (rest := []) hX csX8_57 (mX8_in w h1) (Nat.le_of_ble_eq_true rfl) rfl rfl (Nat.le_of_ble_eq_true rfl) dX8_isOne_10 (st' := [.int v2]) rfl ?_
  obtain ⟨hz, hf⟩ := gz_some hf
  obtain rfl := Option.some.inj hf
  exact G_zret hX hR hz dX8_isOne_13
noncomputable def fX8_person (p0 : Int32) (p1 : Int32) (u : Um) : Option Int32 :=
  bd1 (fX8_isOne p0 u) fun v2 =>
  if v2 = 0 then
    some (-1)
  else
    bd1 (fX8_in p1 0 7 u) fun v4 =>
    if v4 = 0 then
      some (-1)
    else
      if inb ((3 + (6 * p1)) + p0) 83 = true then
      some (u.1 122 (((3 + (6 * p1)) + p0)).toNatClampNeg)
      else none
set_option maxHeartbeats 4000000 in
set_option maxRecDepth 100000 in
theorem mX8_person (w : Wc) {p0 : Int32} {p1 : Int32}  {u : Um} {r : Int32} (hf : fX8_person p0 p1 u = some r) : MC w 3 qX8_person [.ref 117, .int p0, .int p1] u (some (.int r)) u := by
  unfold fX8_person at hf
  refine MC_intro pnX8 (Nat.le_of_ble_eq_true rfl) (fun X hX hR _ _ => ?_)
  have hX : OKc w X RX8 cX8_person 3 := hX
  have hR : RT w X (some .int) 0 0 Pst 133 false (some (.int r)) u := hR
  refine G_eql (lv' := [some (.ref 117), some (.int p0), some (.int p1)]) rfl ?_
  refine G_aload_n hX dX8_person_0 rfl ?_
  refine G_iload_n hX dX8_person_1 rfl ?_
  obtain ⟨v2, h1, hf⟩ := bd1_some hf
  refine G_cV (as := [.int p0]) (rest := []) hX cvX8_105 (mX8_isOne w h1) (Nat.le_of_ble_eq_true rfl) kK117 (Nat.le_of_ble_eq_true rfl) (Nat.le_of_ble_eq_true rfl) rfl rfl (Nat.le_of_ble_eq_true rfl) dX8_person_2 (st' := [.int v2]) rfl ?_
  refine G_if_eq (tgt := 18) hX dX8_person_5 rfl hf (fun hf => ?_) (fun hf => ?_)
  · refine G_iconst (v := (-1)) hX dX8_person_18 rfl ?_
    obtain rfl := Option.some.inj hf
    exact G_iret hX hR dX8_person_19
  · refine G_iload_n hX dX8_person_8 rfl ?_
    refine G_iconst (v := 0) hX dX8_person_9 rfl ?_
    refine G_bipush (v := 7) hX dX8_person_10 rfl ?_
    obtain ⟨v4, h3, hf⟩ := bd1_some hf
    refine G_cS (as := [.int p1, .int 0, .int 7]) (rest := []) hX csX8_57 (mX8_in w h3) (Nat.le_of_ble_eq_true rfl) rfl rfl (Nat.le_of_ble_eq_true rfl) dX8_person_12 (st' := [.int v4]) rfl ?_
    refine G_if_ne (tgt := 20) hX dX8_person_15 rfl hf (fun hf => ?_) (fun hf => ?_)
    · refine G_aload_n hX dX8_person_20 rfl ?_
      refine G_getR (i := 6) (t := 122) hX kK117 (Nat.le_of_ble_eq_true rfl) (Nat.le_of_ble_eq_true rfl) rfl pK117_6 flX8_23 dX8_person_21 ?_
      refine G_iconst (v := 3) hX dX8_person_24 rfl ?_
      refine G_bipush (v := 6) hX dX8_person_25 rfl ?_
      refine G_iload_n hX dX8_person_27 rfl ?_
      refine G_imul hX dX8_person_28 ?_
      refine G_iadd hX dX8_person_29 ?_
      refine G_iload_n hX dX8_person_30 rfl ?_
      refine G_iadd hX dX8_person_31 ?_
      refine G_iald (n := 83) hX kK122 lK122 (Nat.le_of_ble_eq_true rfl) dX8_person_32 hf (fun hf => ?_)
      obtain rfl := Option.some.inj hf
      exact G_iret hX hR dX8_person_33
    · refine G_iconst (v := (-1)) hX dX8_person_18 rfl ?_
      obtain rfl := Option.some.inj hf
      exact G_iret hX hR dX8_person_19
noncomputable def fX8_as_j60 (p0 : Int32) (p1 : Int32) (j3 : Int32) (j4 : Int32) (z0 : Int32) (u : Um) : Option Int32 :=
  if p1 = 0 then
    some p0
  else
    if p1 = j3 then
      some p0
    else
      if j4 = 0 then
        if z0 = 0 then
          some (-12)
        else
          some p0
      else
        some p0
set_option maxHeartbeats 4000000 in
set_option maxRecDepth 100000 in
theorem tX8_as_j60 {w : Wc} {X : MX} (hX : OKc w X RX8 cX8_as 3) {p0 : Int32} {p1 : Int32} {j3 : Int32} {j4 : Int32} {z0 : Int32} {u : Um} {r : Int32} (hR : RT w X (some .int) 0 0 Pst 133 false (some (.int r)) u) (hf : fX8_as_j60 p0 p1 j3 j4 z0 u = some r) : G w X Zm 60 [none, some (.int p0), some (.int p1), some (.int j3), some (.int j4), none] [.int z0] u := by
  unfold fX8_as_j60 at hf
  refine G_istore (lv' := [none, some (.int p0), some (.int p1), some (.int j3), some (.int j4), some (.int z0)]) hX dX8_as_60 rfl (Nat.le_of_ble_eq_true rfl) rfl ?_
  refine G_iload_n hX dX8_as_62 rfl ?_
  refine G_if_eq (tgt := 81) hX dX8_as_63 rfl hf (fun hf => ?_) (fun hf => ?_)
  · refine G_iload_n hX dX8_as_81 rfl ?_
    refine G_goto (tgt := 87) hX dX8_as_82 rfl ?_
    obtain rfl := Option.some.inj hf
    exact G_iret hX hR dX8_as_87
  · refine G_iload_n hX dX8_as_66 rfl ?_
    refine G_iload_n hX dX8_as_67 rfl ?_
    refine G_icmp_eq (tgt := 81) hX dX8_as_68 rfl hf (fun hf => ?_) (fun hf => ?_)
    · refine G_iload_n hX dX8_as_81 rfl ?_
      refine G_goto (tgt := 87) hX dX8_as_82 rfl ?_
      obtain rfl := Option.some.inj hf
      exact G_iret hX hR dX8_as_87
    · refine G_iload hX dX8_as_71 rfl ?_
      refine G_if_ne (tgt := 81) hX dX8_as_73 rfl hf (fun hf => ?_) (fun hf => ?_)
      · refine G_iload_n hX dX8_as_81 rfl ?_
        refine G_goto (tgt := 87) hX dX8_as_82 rfl ?_
        obtain rfl := Option.some.inj hf
        exact G_iret hX hR dX8_as_87
      · refine G_iload hX dX8_as_76 rfl ?_
        refine G_if_eq (tgt := 85) hX dX8_as_78 rfl hf (fun hf => ?_) (fun hf => ?_)
        · refine G_bipush (v := (-12)) hX dX8_as_85 rfl ?_
          obtain rfl := Option.some.inj hf
          exact G_iret hX hR dX8_as_87
        · refine G_iload_n hX dX8_as_81 rfl ?_
          refine G_goto (tgt := 87) hX dX8_as_82 rfl ?_
          obtain rfl := Option.some.inj hf
          exact G_iret hX hR dX8_as_87
noncomputable def fX8_as_j59 (p0 : Int32) (p1 : Int32) (j3 : Int32) (j4 : Int32) (u : Um) : Option Int32 :=
  fX8_as_j60 p0 p1 j3 j4 0 u
set_option maxHeartbeats 4000000 in
set_option maxRecDepth 100000 in
theorem tX8_as_j59 {w : Wc} {X : MX} (hX : OKc w X RX8 cX8_as 3) {p0 : Int32} {p1 : Int32} {j3 : Int32} {j4 : Int32} {u : Um} {r : Int32} (hR : RT w X (some .int) 0 0 Pst 133 false (some (.int r)) u) (hf : fX8_as_j59 p0 p1 j3 j4 u = some r) : G w X Zm 59 [none, some (.int p0), some (.int p1), some (.int j3), some (.int j4), none] [] u := by
  unfold fX8_as_j59 at hf
  refine G_iconst (v := 0) hX dX8_as_59 rfl ?_
  refine G_mask (lv' := [none, some (.int p0), some (.int p1), some (.int j3), some (.int j4), none]) [false, true, true, true, true, false] rfl rfl ?_
  exact tX8_as_j60 hX  hR hf
noncomputable def fX8_as_j43 (p0 : Int32) (p1 : Int32) (j3 : Int32) (z0 : Int32) (u : Um) : Option Int32 :=
  if p1 = 2 then
    if j3 = 5 then
      fX8_as_j60 p0 p1 j3 z0 1 u
    else
      fX8_as_j59 p0 p1 j3 z0 u
  else
    fX8_as_j59 p0 p1 j3 z0 u
set_option maxHeartbeats 4000000 in
set_option maxRecDepth 100000 in
theorem tX8_as_j43 {w : Wc} {X : MX} (hX : OKc w X RX8 cX8_as 3) {p0 : Int32} {p1 : Int32} {j3 : Int32} {z0 : Int32} {u : Um} {r : Int32} (hR : RT w X (some .int) 0 0 Pst 133 false (some (.int r)) u) (hf : fX8_as_j43 p0 p1 j3 z0 u = some r) : G w X Zm 43 [none, some (.int p0), some (.int p1), some (.int j3), none, none] [.int z0] u := by
  unfold fX8_as_j43 at hf
  refine G_istore (lv' := [none, some (.int p0), some (.int p1), some (.int j3), some (.int z0), none]) hX dX8_as_43 rfl (Nat.le_of_ble_eq_true rfl) rfl ?_
  refine G_iload_n hX dX8_as_45 rfl ?_
  refine G_iconst (v := 2) hX dX8_as_46 rfl ?_
  refine G_icmp_ne (tgt := 59) hX dX8_as_47 rfl hf (fun hf => ?_) (fun hf => ?_)
  · refine G_mask (lv' := [none, some (.int p0), some (.int p1), some (.int j3), some (.int z0), none]) [false, true, true, true, true, false] rfl rfl ?_
    exact tX8_as_j59 hX  hR hf
  · refine G_iload_n hX dX8_as_50 rfl ?_
    refine G_iconst (v := 5) hX dX8_as_51 rfl ?_
    refine G_icmp_ne (tgt := 59) hX dX8_as_52 rfl hf (fun hf => ?_) (fun hf => ?_)
    · refine G_mask (lv' := [none, some (.int p0), some (.int p1), some (.int j3), some (.int z0), none]) [false, true, true, true, true, false] rfl rfl ?_
      exact tX8_as_j59 hX  hR hf
    · refine G_iconst (v := 1) hX dX8_as_55 rfl ?_
      refine G_goto (tgt := 60) hX dX8_as_56 rfl ?_
      refine G_mask (lv' := [none, some (.int p0), some (.int p1), some (.int j3), some (.int z0), none]) [false, true, true, true, true, false] rfl rfl ?_
      exact tX8_as_j60 hX  hR hf
noncomputable def fX8_as_j42 (p0 : Int32) (p1 : Int32) (j3 : Int32) (u : Um) : Option Int32 :=
  fX8_as_j43 p0 p1 j3 0 u
set_option maxHeartbeats 4000000 in
set_option maxRecDepth 100000 in
theorem tX8_as_j42 {w : Wc} {X : MX} (hX : OKc w X RX8 cX8_as 3) {p0 : Int32} {p1 : Int32} {j3 : Int32} {u : Um} {r : Int32} (hR : RT w X (some .int) 0 0 Pst 133 false (some (.int r)) u) (hf : fX8_as_j42 p0 p1 j3 u = some r) : G w X Zm 42 [none, some (.int p0), some (.int p1), some (.int j3), none, none] [] u := by
  unfold fX8_as_j42 at hf
  refine G_iconst (v := 0) hX dX8_as_42 rfl ?_
  refine G_mask (lv' := [none, some (.int p0), some (.int p1), some (.int j3), none, none]) [false, true, true, true, false, false] rfl rfl ?_
  exact tX8_as_j43 hX  hR hf
noncomputable def fX8_as (p0 : Int32) (p1 : Int32) (u : Um) : Option Int32 :=
  bd1 (fX8_isOne p0 u) fun v2 =>
  if v2 = 0 then
    some (-1)
  else
    bd1 (fX8_in p1 0 5 u) fun v4 =>
    if v4 = 0 then
      some (-1)
    else
      if inb (3 + p0) 83 = true then
      nm (u.1 122 ((3 + p0)).toNatClampNeg) fun v5 =>
      if p1 = 1 then
        if v5 = 4 then
          fX8_as_j42 p0 p1 v5 u
        else
          fX8_as_j43 p0 p1 v5 1 u
      else
        fX8_as_j42 p0 p1 v5 u
      else none
set_option maxHeartbeats 4000000 in
set_option maxRecDepth 100000 in
theorem mX8_as (w : Wc) {p0 : Int32} {p1 : Int32}  {u : Um} {r : Int32} (hf : fX8_as p0 p1 u = some r) : MC w 3 qX8_as [.ref 117, .int p0, .int p1] u (some (.int r)) u := by
  unfold fX8_as at hf
  refine MC_intro pnX8 (Nat.le_of_ble_eq_true rfl) (fun X hX hR _ _ => ?_)
  have hX : OKc w X RX8 cX8_as 3 := hX
  have hR : RT w X (some .int) 0 0 Pst 133 false (some (.int r)) u := hR
  refine G_eql (lv' := [some (.ref 117), some (.int p0), some (.int p1), none, none, none]) rfl ?_
  refine G_aload_n hX dX8_as_0 rfl ?_
  refine G_iload_n hX dX8_as_1 rfl ?_
  obtain ⟨v2, h1, hf⟩ := bd1_some hf
  refine G_cV (as := [.int p0]) (rest := []) hX cvX8_105 (mX8_isOne w h1) (Nat.le_of_ble_eq_true rfl) kK117 (Nat.le_of_ble_eq_true rfl) (Nat.le_of_ble_eq_true rfl) rfl rfl (Nat.le_of_ble_eq_true rfl) dX8_as_2 (st' := [.int v2]) rfl ?_
  refine G_if_eq (tgt := 17) hX dX8_as_5 rfl hf (fun hf => ?_) (fun hf => ?_)
  · refine G_iconst (v := (-1)) hX dX8_as_17 rfl ?_
    obtain rfl := Option.some.inj hf
    exact G_iret hX hR dX8_as_18
  · refine G_iload_n hX dX8_as_8 rfl ?_
    refine G_iconst (v := 0) hX dX8_as_9 rfl ?_
    refine G_iconst (v := 5) hX dX8_as_10 rfl ?_
    obtain ⟨v4, h3, hf⟩ := bd1_some hf
    refine G_cS (as := [.int p1, .int 0, .int 5]) (rest := []) hX csX8_57 (mX8_in w h3) (Nat.le_of_ble_eq_true rfl) rfl rfl (Nat.le_of_ble_eq_true rfl) dX8_as_11 (st' := [.int v4]) rfl ?_
    refine G_if_ne (tgt := 19) hX dX8_as_14 rfl hf (fun hf => ?_) (fun hf => ?_)
    · refine G_aload_n hX dX8_as_19 rfl ?_
      refine G_getR (i := 6) (t := 122) hX kK117 (Nat.le_of_ble_eq_true rfl) (Nat.le_of_ble_eq_true rfl) rfl pK117_6 flX8_23 dX8_as_20 ?_
      refine G_iconst (v := 3) hX dX8_as_23 rfl ?_
      refine G_iload_n hX dX8_as_24 rfl ?_
      refine G_iadd hX dX8_as_25 ?_
      refine G_iald (n := 83) hX kK122 lK122 (Nat.le_of_ble_eq_true rfl) dX8_as_26 hf (fun hf => ?_)
      refine G_istore_nF (lvf := fun v5 => [some (.ref 117), some (.int p0), some (.int p1), some (.int v5), none, none]) hX dX8_as_27 rfl (Nat.le_of_ble_eq_true rfl) (fun _ => rfl) hf (fun v5 hf => ?_)
      refine G_iload_n hX dX8_as_28 rfl ?_
      refine G_iconst (v := 1) hX dX8_as_29 rfl ?_
      refine G_icmp_ne (tgt := 42) hX dX8_as_30 rfl hf (fun hf => ?_) (fun hf => ?_)
      · refine G_mask (lv' := [none, some (.int p0), some (.int p1), some (.int v5), none, none]) [false, true, true, true, false, false] rfl rfl ?_
        exact tX8_as_j42 hX  hR hf
      · refine G_iload_n hX dX8_as_33 rfl ?_
        refine G_iconst (v := 4) hX dX8_as_34 rfl ?_
        refine G_icmp_eq (tgt := 42) hX dX8_as_35 rfl hf (fun hf => ?_) (fun hf => ?_)
        · refine G_mask (lv' := [none, some (.int p0), some (.int p1), some (.int v5), none, none]) [false, true, true, true, false, false] rfl rfl ?_
          exact tX8_as_j42 hX  hR hf
        · refine G_iconst (v := 1) hX dX8_as_38 rfl ?_
          refine G_goto (tgt := 43) hX dX8_as_39 rfl ?_
          refine G_mask (lv' := [none, some (.int p0), some (.int p1), some (.int v5), none, none]) [false, true, true, true, false, false] rfl rfl ?_
          exact tX8_as_j43 hX  hR hf
    · refine G_iconst (v := (-1)) hX dX8_as_17 rfl ?_
      obtain rfl := Option.some.inj hf
      exact G_iret hX hR dX8_as_18
noncomputable def fX8_isWrong (p0 : Int32) (u : Um) : Option Int32 :=
  if inb 2 83 = true then
  bd1 (fX8_in p0 0 ((u.1 122 (2 : Int32).toNatClampNeg) - 1) u) fun v2 =>
  if v2 = 0 ∨ v2 = 1 then some v2 else none
  else none
set_option maxHeartbeats 4000000 in
set_option maxRecDepth 100000 in
theorem mX8_isWrong (w : Wc) {p0 : Int32}  {u : Um} {r : Int32} (hf : fX8_isWrong p0 u = some r) : MC w 2 qX8_isWrong [.ref 117, .int p0] u (some (.int r)) u := by
  unfold fX8_isWrong at hf
  refine MC_intro pnX8 (Nat.le_of_ble_eq_true rfl) (fun X hX hR _ _ => ?_)
  have hX : OKc w X RX8 cX8_isWrong 2 := hX
  have hR : RT w X (some .boolean) 0 0 Pst 133 false (some (.int r)) u := hR
  refine G_eql (lv' := [some (.ref 117), some (.int p0)]) rfl ?_
  refine G_iload_n hX dX8_isWrong_0 rfl ?_
  refine G_iconst (v := 0) hX dX8_isWrong_1 rfl ?_
  refine G_aload_n hX dX8_isWrong_2 rfl ?_
  refine G_getR (i := 6) (t := 122) hX kK117 (Nat.le_of_ble_eq_true rfl) (Nat.le_of_ble_eq_true rfl) rfl pK117_6 flX8_23 dX8_isWrong_3 ?_
  refine G_iconst (v := 2) hX dX8_isWrong_6 rfl ?_
  refine G_iald (n := 83) hX kK122 lK122 (Nat.le_of_ble_eq_true rfl) dX8_isWrong_7 hf (fun hf => ?_)
  refine G_iconst (v := 1) hX dX8_isWrong_8 rfl ?_
  refine G_isub hX dX8_isWrong_9 ?_
  obtain ⟨v2, h1, hf⟩ := bd1_some hf
  refine G_cS (as := [.int p0, .int 0, .int ((u.1 122 (2 : Int32).toNatClampNeg) - 1)]) (rest := []) hX csX8_57 (mX8_in w h1) (Nat.le_of_ble_eq_true rfl) rfl rfl (Nat.le_of_ble_eq_true rfl) dX8_isWrong_10 (st' := [.int v2]) rfl ?_
  obtain ⟨hz, hf⟩ := gz_some hf
  obtain rfl := Option.some.inj hf
  exact G_zret hX hR hz dX8_isWrong_13
noncomputable def fX8_needOf (p0 : Nat) (p1 : Int32) (u : Um) : Option Int32 :=
  if inb (67 + p1) (ln p0) = true then
  if inb (59 + p1) (ln p0) = true then
  if inb (15 + (u.1 p0 ((59 + p1)).toNatClampNeg)) (ln p0) = true then
  some ((u.1 p0 ((67 + p1)).toNatClampNeg) + ((u.1 p0 ((15 + (u.1 p0 ((59 + p1)).toNatClampNeg))).toNatClampNeg) / 2))
  else none
  else none
  else none
set_option maxHeartbeats 4000000 in
set_option maxRecDepth 100000 in
theorem mX8_needOf (w : Wc) {p0 : Nat} {p1 : Int32} (hp0 : kd p0 = 9) {u : Um} {r : Int32} (hf : fX8_needOf p0 p1 u = some r) : MC w 1 qX8_needOf [.ref p0, .int p1] u (some (.int r)) u := by
  unfold fX8_needOf at hf
  refine MC_intro pnX8 (Nat.le_of_ble_eq_true rfl) (fun X hX hR _ _ => ?_)
  have hX : OKc w X RX8 cX8_needOf 1 := hX
  have hR : RT w X (some .int) 0 0 Pst 133 false (some (.int r)) u := hR
  refine G_eql (lv' := [some (.ref p0), some (.int p1)]) rfl ?_
  refine G_aload_n hX dX8_needOf_0 rfl ?_
  refine G_bipush (v := 67) hX dX8_needOf_1 rfl ?_
  refine G_iload_n hX dX8_needOf_3 rfl ?_
  refine G_iadd hX dX8_needOf_4 ?_
  refine G_iald (n := (ln p0)) hX hp0 rfl (kd_lt hp0 (Nat.le_of_ble_eq_true rfl)) dX8_needOf_5 hf (fun hf => ?_)
  refine G_aload_n hX dX8_needOf_6 rfl ?_
  refine G_bipush (v := 15) hX dX8_needOf_7 rfl ?_
  refine G_aload_n hX dX8_needOf_9 rfl ?_
  refine G_bipush (v := 59) hX dX8_needOf_10 rfl ?_
  refine G_iload_n hX dX8_needOf_12 rfl ?_
  refine G_iadd hX dX8_needOf_13 ?_
  refine G_iald (n := (ln p0)) hX hp0 rfl (kd_lt hp0 (Nat.le_of_ble_eq_true rfl)) dX8_needOf_14 hf (fun hf => ?_)
  refine G_iadd hX dX8_needOf_15 ?_
  refine G_iald (n := (ln p0)) hX hp0 rfl (kd_lt hp0 (Nat.le_of_ble_eq_true rfl)) dX8_needOf_16 hf (fun hf => ?_)
  refine G_iconst (v := 2) hX dX8_needOf_17 rfl ?_
  refine G_idiv hX dX8_needOf_18 (by decide) ?_
  refine G_iadd hX dX8_needOf_19 ?_
  obtain rfl := Option.some.inj hf
  exact G_iret hX hR dX8_needOf_20
noncomputable def fX8_wrong (p0 : Int32) (p1 : Int32) (u : Um) : Option Int32 :=
  bd1 (fX8_isWrong p0 u) fun v2 =>
  if v2 = 0 then
    some (-1)
  else
    if p1 = 0 then
      if inb (51 + p0) 83 = true then
      some (u.1 122 ((51 + p0)).toNatClampNeg)
      else none
    else if p1 = 1 then
      if inb (59 + p0) 83 = true then
      some (u.1 122 ((59 + p0)).toNatClampNeg)
      else none
    else if p1 = 2 then
      if inb (67 + p0) 83 = true then
      some (u.1 122 ((67 + p0)).toNatClampNeg)
      else none
    else if p1 = 3 then
      if inb (75 + p0) 83 = true then
      some (u.1 122 ((75 + p0)).toNatClampNeg)
      else none
    else if p1 = 4 then
      bd1 (fX8_needOf 122 p0 u) fun v4 =>
      some v4
    else 
    some (-1)
set_option maxHeartbeats 4000000 in
set_option maxRecDepth 100000 in
theorem mX8_wrong (w : Wc) {p0 : Int32} {p1 : Int32}  {u : Um} {r : Int32} (hf : fX8_wrong p0 p1 u = some r) : MC w 3 qX8_wrong [.ref 117, .int p0, .int p1] u (some (.int r)) u := by
  unfold fX8_wrong at hf
  refine MC_intro pnX8 (Nat.le_of_ble_eq_true rfl) (fun X hX hR _ _ => ?_)
  have hX : OKc w X RX8 cX8_wrong 3 := hX
  have hR : RT w X (some .int) 0 0 Pst 133 false (some (.int r)) u := hR
  refine G_eql (lv' := [some (.ref 117), some (.int p0), some (.int p1)]) rfl ?_
  refine G_aload_n hX dX8_wrong_0 rfl ?_
  refine G_iload_n hX dX8_wrong_1 rfl ?_
  obtain ⟨v2, h1, hf⟩ := bd1_some hf
  refine G_cV (as := [.int p0]) (rest := []) hX cvX8_108 (mX8_isWrong w h1) (Nat.le_of_ble_eq_true rfl) kK117 (Nat.le_of_ble_eq_true rfl) (Nat.le_of_ble_eq_true rfl) rfl rfl (Nat.le_of_ble_eq_true rfl) dX8_wrong_2 (st' := [.int v2]) rfl ?_
  refine G_if_ne (tgt := 10) hX dX8_wrong_5 rfl hf (fun hf => ?_) (fun hf => ?_)
  · refine G_iload_n hX dX8_wrong_10 rfl ?_
    by_cases c11_0 : p1 = 0
    · rw [if_pos c11_0] at hf
      refine G_tswIn (tgt := 44) hX dX8_wrong_11 (by rw [c11_0]; decide) (by rw [c11_0]; decide) (by rw [c11_0]; rfl) rfl ?_
      refine G_aload_n hX dX8_wrong_44 rfl ?_
      refine G_getR (i := 6) (t := 122) hX kK117 (Nat.le_of_ble_eq_true rfl) (Nat.le_of_ble_eq_true rfl) rfl pK117_6 flX8_23 dX8_wrong_45 ?_
      refine G_bipush (v := 51) hX dX8_wrong_48 rfl ?_
      refine G_iload_n hX dX8_wrong_50 rfl ?_
      refine G_iadd hX dX8_wrong_51 ?_
      refine G_iald (n := 83) hX kK122 lK122 (Nat.le_of_ble_eq_true rfl) dX8_wrong_52 hf (fun hf => ?_)
      obtain rfl := Option.some.inj hf
      exact G_iret hX hR dX8_wrong_53
    rw [if_neg c11_0] at hf
    by_cases c11_1 : p1 = 1
    · rw [if_pos c11_1] at hf
      refine G_tswIn (tgt := 54) hX dX8_wrong_11 (by rw [c11_1]; decide) (by rw [c11_1]; decide) (by rw [c11_1]; rfl) rfl ?_
      refine G_aload_n hX dX8_wrong_54 rfl ?_
      refine G_getR (i := 6) (t := 122) hX kK117 (Nat.le_of_ble_eq_true rfl) (Nat.le_of_ble_eq_true rfl) rfl pK117_6 flX8_23 dX8_wrong_55 ?_
      refine G_bipush (v := 59) hX dX8_wrong_58 rfl ?_
      refine G_iload_n hX dX8_wrong_60 rfl ?_
      refine G_iadd hX dX8_wrong_61 ?_
      refine G_iald (n := 83) hX kK122 lK122 (Nat.le_of_ble_eq_true rfl) dX8_wrong_62 hf (fun hf => ?_)
      obtain rfl := Option.some.inj hf
      exact G_iret hX hR dX8_wrong_63
    rw [if_neg c11_1] at hf
    by_cases c11_2 : p1 = 2
    · rw [if_pos c11_2] at hf
      refine G_tswIn (tgt := 64) hX dX8_wrong_11 (by rw [c11_2]; decide) (by rw [c11_2]; decide) (by rw [c11_2]; rfl) rfl ?_
      refine G_aload_n hX dX8_wrong_64 rfl ?_
      refine G_getR (i := 6) (t := 122) hX kK117 (Nat.le_of_ble_eq_true rfl) (Nat.le_of_ble_eq_true rfl) rfl pK117_6 flX8_23 dX8_wrong_65 ?_
      refine G_bipush (v := 67) hX dX8_wrong_68 rfl ?_
      refine G_iload_n hX dX8_wrong_70 rfl ?_
      refine G_iadd hX dX8_wrong_71 ?_
      refine G_iald (n := 83) hX kK122 lK122 (Nat.le_of_ble_eq_true rfl) dX8_wrong_72 hf (fun hf => ?_)
      obtain rfl := Option.some.inj hf
      exact G_iret hX hR dX8_wrong_73
    rw [if_neg c11_2] at hf
    by_cases c11_3 : p1 = 3
    · rw [if_pos c11_3] at hf
      refine G_tswIn (tgt := 74) hX dX8_wrong_11 (by rw [c11_3]; decide) (by rw [c11_3]; decide) (by rw [c11_3]; rfl) rfl ?_
      refine G_aload_n hX dX8_wrong_74 rfl ?_
      refine G_getR (i := 6) (t := 122) hX kK117 (Nat.le_of_ble_eq_true rfl) (Nat.le_of_ble_eq_true rfl) rfl pK117_6 flX8_23 dX8_wrong_75 ?_
      refine G_bipush (v := 75) hX dX8_wrong_78 rfl ?_
      refine G_iload_n hX dX8_wrong_80 rfl ?_
      refine G_iadd hX dX8_wrong_81 ?_
      refine G_iald (n := 83) hX kK122 lK122 (Nat.le_of_ble_eq_true rfl) dX8_wrong_82 hf (fun hf => ?_)
      obtain rfl := Option.some.inj hf
      exact G_iret hX hR dX8_wrong_83
    rw [if_neg c11_3] at hf
    by_cases c11_4 : p1 = 4
    · rw [if_pos c11_4] at hf
      refine G_tswIn (tgt := 84) hX dX8_wrong_11 (by rw [c11_4]; decide) (by rw [c11_4]; decide) (by rw [c11_4]; rfl) rfl ?_
      refine G_aload_n hX dX8_wrong_84 rfl ?_
      refine G_getR (i := 6) (t := 122) hX kK117 (Nat.le_of_ble_eq_true rfl) (Nat.le_of_ble_eq_true rfl) rfl pK117_6 flX8_23 dX8_wrong_85 ?_
      refine G_iload_n hX dX8_wrong_88 rfl ?_
      obtain ⟨v4, h3, hf⟩ := bd1_some hf
      refine G_cS (as := [.ref 122, .int p0]) (rest := []) hX csX8_111 (mX8_needOf w kK122 h3) (Nat.le_of_ble_eq_true rfl) rfl rfl (Nat.le_of_ble_eq_true rfl) dX8_wrong_89 (st' := [.int v4]) rfl ?_
      obtain rfl := Option.some.inj hf
      exact G_iret hX hR dX8_wrong_92
    rw [if_neg c11_4] at hf
    have n11_0 := lv_neT (a := 0) c11_0 rfl
    have n11_1 := lv_neT (a := 1) c11_1 rfl
    have n11_2 := lv_neT (a := 2) c11_2 rfl
    have n11_3 := lv_neT (a := 3) c11_3 rfl
    have n11_4 := lv_neT (a := 4) c11_4 rfl
    refine G_tswOut (tgt := 93) hX dX8_wrong_11 (by omega) rfl ?_
    refine G_iconst (v := (-1)) hX dX8_wrong_93 rfl ?_
    obtain rfl := Option.some.inj hf
    exact G_iret hX hR dX8_wrong_94
  · refine G_iconst (v := (-1)) hX dX8_wrong_8 rfl ?_
    obtain rfl := Option.some.inj hf
    exact G_iret hX hR dX8_wrong_9
