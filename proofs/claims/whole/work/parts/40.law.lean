abbrev Zl : ZZ := (133, 6945, Pst, 133, false)
def SC (w : Wc) (X : MX) (L : Nat) (xs : Nat → Int32) : Prop := va_X w.2.2.1 L xs X.2.2.2.2.1 X.2.2.2.2.1.heap ∧ w.2.2.1 < X.2.2.2.2.1.heap.size ∧ ¬ wA w w.2.2.1 ∧ 133 ≤ X.2.2.2.1.cells ∧ 6945 ≤ X.2.2.2.1.slots
section GS
variable {w : Wc} {X : MX} {Z : ZZ} {o : String} {cc : ByteArray} {d pc L : Nat} {xs : Nat → Int32} {lv lv' : List (Option Value)} {st : List Value} {u : Um}
theorem G_lenS (hX : OKc w X o cc d) (hS : SC w X L xs) (hd : decode cc pc = .ok (.arraylength, 1)) (k : G w X Z (pc + 1) lv (.int (Int32.ofNat L) :: st) u) : G w X Z pc lv (.ref 1000001 :: st) u := by
  intro H locs ls h1 h2 h3 h4
  exact va_slen hX.1 hX.2.1 hS.1 hS.2.1 hS.2.2.1 h3 hd (k H locs ls h1 h2 h3 h4)
theorem G_ldS (hX : OKc w X o cc d) (hS : SC w X L xs) {i : Int32} {ρ : Type} {A : Option ρ} {r : ρ} (hd : decode cc pc = .ok (.iaload, 1)) (hf : (if inb i L = true then A else none) = some r) (k : A = some r → G w X Z (pc + 1) lv (.int (xs i.toNatClampNeg) :: st) u) : G w X Z pc lv (.int i :: .ref 1000001 :: st) u := by
  intro H locs ls h1 h2 h3 h4
  by_cases hb : inb i L = true
  · rw [if_pos hb] at hf
    exact va_sld hX.1 hX.2.1 hS.1 hS.2.1 hS.2.2.1 h3 (inb_in hb) hd (k hf H locs ls h1 h2 h3 h4)
  · rw [if_neg hb] at hf; cases hf
theorem G_cVl {st' : List Value} (hX : OKc w X o cc d) (hS : SC w X L xs) {idx c n d' a : Nat} {q : MI} {as rest : List Value} {rv : Option Value} {u' : Um} (hv : CV o idx q c n) (hM : MC w d' q (.ref a :: as) u rv u') (hdd : d' + 1 ≤ d) (hk : kd a = c) (hc : c < 9) (hx : a < 133) (hn : as.length = n) (hs : st = as.reverse ++ .ref a :: rest) (hr : (rest.map (fun v => v.category)).sum ≤ 8) (hd : decode cc pc = .ok (.invokevirtual idx, 3)) (hst : rv.toList ++ rest = st') (k : G w X Zl (pc + 3) lv st' u') : G w X Zl pc lv st u := by
  subst hst
  exact G_callV hX hv hM hdd hk hc hx hn hs hr hd ⟨hS.2.2.2.1, hS.2.2.2.2⟩ k
end GS
theorem cvL_101 : CV RL 101 qX8_gusts 8 4 := ⟨tw_in (List.mem_of_getElem? (i := 1096) (by decide +kernel)) rfl, tw_in (List.mem_of_getElem? (i := 1097) (by decide +kernel)) rfl, tw_in (List.mem_of_getElem? (i := 1098) (by decide +kernel)) rfl, ⟨(RX8, TX8, 19), rfl, rfl⟩, cqX8_gusts⟩
theorem cvL_102 : CV RL 102 qX7_decades 7 3 := ⟨tw_in (List.mem_of_getElem? (i := 647) (by decide +kernel)) rfl, tw_in (List.mem_of_getElem? (i := 648) (by decide +kernel)) rfl, tw_in (List.mem_of_getElem? (i := 649) (by decide +kernel)) rfl, ⟨(RX7, TX7, 9), rfl, rfl⟩, cqX7_decades⟩
theorem cvL_105 : CV RL 105 qX8_decades 8 3 := ⟨tw_in (List.mem_of_getElem? (i := 1100) (by decide +kernel)) rfl, tw_in (List.mem_of_getElem? (i := 1101) (by decide +kernel)) rfl, tw_in (List.mem_of_getElem? (i := 1102) (by decide +kernel)) rfl, ⟨(RX8, TX8, 19), rfl, rfl⟩, cqX8_decades⟩
theorem cvL_106 : CV RL 106 qX7_sheet 7 3 := ⟨tw_in (List.mem_of_getElem? (i := 677) (by decide +kernel)) rfl, tw_in (List.mem_of_getElem? (i := 678) (by decide +kernel)) rfl, tw_in (List.mem_of_getElem? (i := 679) (by decide +kernel)) rfl, ⟨(RX7, TX7, 9), rfl, rfl⟩, cqX7_sheet⟩
theorem cvL_109 : CV RL 109 qX8_sheet 8 3 := ⟨tw_in (List.mem_of_getElem? (i := 1114) (by decide +kernel)) rfl, tw_in (List.mem_of_getElem? (i := 1115) (by decide +kernel)) rfl, tw_in (List.mem_of_getElem? (i := 1116) (by decide +kernel)) rfl, ⟨(RX8, TX8, 19), rfl, rfl⟩, cqX8_sheet⟩
theorem cvL_110 : CV RL 110 qX7_drop 7 1 := ⟨tw_in (List.mem_of_getElem? (i := 695) (by decide +kernel)) rfl, tw_in (List.mem_of_getElem? (i := 696) (by decide +kernel)) rfl, tw_in (List.mem_of_getElem? (i := 697) (by decide +kernel)) rfl, ⟨(RX7, TX7, 9), rfl, rfl⟩, cqX7_drop⟩
theorem cvL_113 : CV RL 113 qX8_drop 8 1 := ⟨tw_in (List.mem_of_getElem? (i := 1121) (by decide +kernel)) rfl, tw_in (List.mem_of_getElem? (i := 1122) (by decide +kernel)) rfl, tw_in (List.mem_of_getElem? (i := 1123) (by decide +kernel)) rfl, ⟨(RX8, TX8, 19), rfl, rfl⟩, cqX8_drop⟩
theorem cvL_116 : CV RL 116 qX7_item 7 4 := ⟨tw_in (List.mem_of_getElem? (i := 708) (by decide +kernel)) rfl, tw_in (List.mem_of_getElem? (i := 709) (by decide +kernel)) rfl, tw_in (List.mem_of_getElem? (i := 710) (by decide +kernel)) rfl, ⟨(RX7, TX7, 9), rfl, rfl⟩, cqX7_item⟩
theorem cvL_120 : CV RL 120 qX8_item 8 4 := ⟨tw_in (List.mem_of_getElem? (i := 1125) (by decide +kernel)) rfl, tw_in (List.mem_of_getElem? (i := 1126) (by decide +kernel)) rfl, tw_in (List.mem_of_getElem? (i := 1127) (by decide +kernel)) rfl, ⟨(RX8, TX8, 19), rfl, rfl⟩, cqX8_item⟩
theorem cvL_121 : CV RL 121 qX7_copy 7 5 := ⟨tw_in (List.mem_of_getElem? (i := 736) (by decide +kernel)) rfl, tw_in (List.mem_of_getElem? (i := 737) (by decide +kernel)) rfl, tw_in (List.mem_of_getElem? (i := 738) (by decide +kernel)) rfl, ⟨(RX7, TX7, 9), rfl, rfl⟩, cqX7_copy⟩
theorem cvL_125 : CV RL 125 qX8_copy 8 5 := ⟨tw_in (List.mem_of_getElem? (i := 1137) (by decide +kernel)) rfl, tw_in (List.mem_of_getElem? (i := 1138) (by decide +kernel)) rfl, tw_in (List.mem_of_getElem? (i := 1139) (by decide +kernel)) rfl, ⟨(RX8, TX8, 19), rfl, rfl⟩, cqX8_copy⟩
theorem cvL_126 : CV RL 126 qX7_log 7 4 := ⟨tw_in (List.mem_of_getElem? (i := 746) (by decide +kernel)) rfl, tw_in (List.mem_of_getElem? (i := 747) (by decide +kernel)) rfl, tw_in (List.mem_of_getElem? (i := 748) (by decide +kernel)) rfl, ⟨(RX7, TX7, 9), rfl, rfl⟩, cqX7_log⟩
theorem cvL_129 : CV RL 129 qX8_log 8 4 := ⟨tw_in (List.mem_of_getElem? (i := 1141) (by decide +kernel)) rfl, tw_in (List.mem_of_getElem? (i := 1142) (by decide +kernel)) rfl, tw_in (List.mem_of_getElem? (i := 1143) (by decide +kernel)) rfl, ⟨(RX8, TX8, 19), rfl, rfl⟩, cqX8_log⟩
theorem cvL_13 : CV RL 13 qX7_feed 7 1 := ⟨tw_in (List.mem_of_getElem? (i := 239) (by decide +kernel)) rfl, tw_in (List.mem_of_getElem? (i := 240) (by decide +kernel)) rfl, tw_in (List.mem_of_getElem? (i := 241) (by decide +kernel)) rfl, ⟨(RX7, TX7, 9), rfl, rfl⟩, cqX7_feed⟩
theorem cvL_130 : CV RL 130 qX7_skills 7 6 := ⟨tw_in (List.mem_of_getElem? (i := 750) (by decide +kernel)) rfl, tw_in (List.mem_of_getElem? (i := 751) (by decide +kernel)) rfl, tw_in (List.mem_of_getElem? (i := 752) (by decide +kernel)) rfl, ⟨(RX7, TX7, 9), rfl, rfl⟩, cqX7_skills⟩
theorem cvL_134 : CV RL 134 qX8_skills 8 6 := ⟨tw_in (List.mem_of_getElem? (i := 1148) (by decide +kernel)) rfl, tw_in (List.mem_of_getElem? (i := 1149) (by decide +kernel)) rfl, tw_in (List.mem_of_getElem? (i := 1150) (by decide +kernel)) rfl, ⟨(RX8, TX8, 19), rfl, rfl⟩, cqX8_skills⟩
theorem cvL_135 : CV RL 135 qX7_kinds 7 6 := ⟨tw_in (List.mem_of_getElem? (i := 796) (by decide +kernel)) rfl, tw_in (List.mem_of_getElem? (i := 797) (by decide +kernel)) rfl, tw_in (List.mem_of_getElem? (i := 798) (by decide +kernel)) rfl, ⟨(RX7, TX7, 9), rfl, rfl⟩, cqX7_kinds⟩
theorem cvL_138 : CV RL 138 qX8_kinds 8 6 := ⟨tw_in (List.mem_of_getElem? (i := 1173) (by decide +kernel)) rfl, tw_in (List.mem_of_getElem? (i := 1174) (by decide +kernel)) rfl, tw_in (List.mem_of_getElem? (i := 1175) (by decide +kernel)) rfl, ⟨(RX8, TX8, 19), rfl, rfl⟩, cqX8_kinds⟩
theorem cvL_139 : CV RL 139 qX7_count 7 1 := ⟨tw_in (List.mem_of_getElem? (i := 804) (by decide +kernel)) rfl, tw_in (List.mem_of_getElem? (i := 805) (by decide +kernel)) rfl, tw_in (List.mem_of_getElem? (i := 806) (by decide +kernel)) rfl, ⟨(RX7, TX7, 9), rfl, rfl⟩, cqX7_count⟩
theorem cvL_142 : CV RL 142 qX8_count 8 1 := ⟨tw_in (List.mem_of_getElem? (i := 1177) (by decide +kernel)) rfl, tw_in (List.mem_of_getElem? (i := 1178) (by decide +kernel)) rfl, tw_in (List.mem_of_getElem? (i := 1179) (by decide +kernel)) rfl, ⟨(RX8, TX8, 19), rfl, rfl⟩, cqX8_count⟩
theorem cvL_17 : CV RL 17 qX8_feed 8 1 := ⟨tw_in (List.mem_of_getElem? (i := 882) (by decide +kernel)) rfl, tw_in (List.mem_of_getElem? (i := 883) (by decide +kernel)) rfl, tw_in (List.mem_of_getElem? (i := 884) (by decide +kernel)) rfl, ⟨(RX8, TX8, 19), rfl, rfl⟩, cqX8_feed⟩
theorem cvL_18 : CV RL 18 qX7_coast 7 0 := ⟨tw_in (List.mem_of_getElem? (i := 251) (by decide +kernel)) rfl, tw_in (List.mem_of_getElem? (i := 252) (by decide +kernel)) rfl, tw_in (List.mem_of_getElem? (i := 253) (by decide +kernel)) rfl, ⟨(RX7, TX7, 9), rfl, rfl⟩, cqX7_coast⟩
theorem cvL_22 : CV RL 22 qX8_coast 8 0 := ⟨tw_in (List.mem_of_getElem? (i := 889) (by decide +kernel)) rfl, tw_in (List.mem_of_getElem? (i := 890) (by decide +kernel)) rfl, tw_in (List.mem_of_getElem? (i := 891) (by decide +kernel)) rfl, ⟨(RX8, TX8, 19), rfl, rfl⟩, cqX8_coast⟩
theorem cvL_23 : CV RL 23 qX7_person 7 2 := ⟨tw_in (List.mem_of_getElem? (i := 349) (by decide +kernel)) rfl, tw_in (List.mem_of_getElem? (i := 350) (by decide +kernel)) rfl, tw_in (List.mem_of_getElem? (i := 351) (by decide +kernel)) rfl, ⟨(RX7, TX7, 9), rfl, rfl⟩, cqX7_person⟩
theorem cvL_27 : CV RL 27 qX8_person 8 2 := ⟨tw_in (List.mem_of_getElem? (i := 926) (by decide +kernel)) rfl, tw_in (List.mem_of_getElem? (i := 927) (by decide +kernel)) rfl, tw_in (List.mem_of_getElem? (i := 928) (by decide +kernel)) rfl, ⟨(RX8, TX8, 19), rfl, rfl⟩, cqX8_person⟩
theorem cvL_28 : CV RL 28 qX7_as 7 2 := ⟨tw_in (List.mem_of_getElem? (i := 361) (by decide +kernel)) rfl, tw_in (List.mem_of_getElem? (i := 362) (by decide +kernel)) rfl, tw_in (List.mem_of_getElem? (i := 363) (by decide +kernel)) rfl, ⟨(RX7, TX7, 9), rfl, rfl⟩, cqX7_as⟩
theorem cvL_31 : CV RL 31 qX8_as 8 2 := ⟨tw_in (List.mem_of_getElem? (i := 934) (by decide +kernel)) rfl, tw_in (List.mem_of_getElem? (i := 935) (by decide +kernel)) rfl, tw_in (List.mem_of_getElem? (i := 936) (by decide +kernel)) rfl, ⟨(RX8, TX8, 19), rfl, rfl⟩, cqX8_as⟩
theorem cvL_32 : CV RL 32 qX7_wrong 7 2 := ⟨tw_in (List.mem_of_getElem? (i := 370) (by decide +kernel)) rfl, tw_in (List.mem_of_getElem? (i := 371) (by decide +kernel)) rfl, tw_in (List.mem_of_getElem? (i := 372) (by decide +kernel)) rfl, ⟨(RX7, TX7, 9), rfl, rfl⟩, cqX7_wrong⟩
theorem cvL_35 : CV RL 35 qX8_wrong 8 2 := ⟨tw_in (List.mem_of_getElem? (i := 938) (by decide +kernel)) rfl, tw_in (List.mem_of_getElem? (i := 939) (by decide +kernel)) rfl, tw_in (List.mem_of_getElem? (i := 940) (by decide +kernel)) rfl, ⟨(RX8, TX8, 19), rfl, rfl⟩, cqX8_wrong⟩
theorem cvL_36 : CV RL 36 qX7_carry 7 2 := ⟨tw_in (List.mem_of_getElem? (i := 388) (by decide +kernel)) rfl, tw_in (List.mem_of_getElem? (i := 389) (by decide +kernel)) rfl, tw_in (List.mem_of_getElem? (i := 390) (by decide +kernel)) rfl, ⟨(RX7, TX7, 9), rfl, rfl⟩, cqX7_carry⟩
theorem cvL_39 : CV RL 39 qX8_carry 8 2 := ⟨tw_in (List.mem_of_getElem? (i := 949) (by decide +kernel)) rfl, tw_in (List.mem_of_getElem? (i := 950) (by decide +kernel)) rfl, tw_in (List.mem_of_getElem? (i := 951) (by decide +kernel)) rfl, ⟨(RX8, TX8, 19), rfl, rfl⟩, cqX8_carry⟩
theorem cvL_40 : CV RL 40 qX7_lend 7 2 := ⟨tw_in (List.mem_of_getElem? (i := 456) (by decide +kernel)) rfl, tw_in (List.mem_of_getElem? (i := 457) (by decide +kernel)) rfl, tw_in (List.mem_of_getElem? (i := 458) (by decide +kernel)) rfl, ⟨(RX7, TX7, 9), rfl, rfl⟩, cqX7_lend⟩
theorem cvL_43 : CV RL 43 qX8_lend 8 2 := ⟨tw_in (List.mem_of_getElem? (i := 985) (by decide +kernel)) rfl, tw_in (List.mem_of_getElem? (i := 986) (by decide +kernel)) rfl, tw_in (List.mem_of_getElem? (i := 987) (by decide +kernel)) rfl, ⟨(RX8, TX8, 19), rfl, rfl⟩, cqX8_lend⟩
theorem cvL_44 : CV RL 44 qX7_sin 7 3 := ⟨tw_in (List.mem_of_getElem? (i := 465) (by decide +kernel)) rfl, tw_in (List.mem_of_getElem? (i := 466) (by decide +kernel)) rfl, tw_in (List.mem_of_getElem? (i := 467) (by decide +kernel)) rfl, ⟨(RX7, TX7, 9), rfl, rfl⟩, cqX7_sin⟩
theorem cvL_48 : CV RL 48 qX8_sin 8 3 := ⟨tw_in (List.mem_of_getElem? (i := 989) (by decide +kernel)) rfl, tw_in (List.mem_of_getElem? (i := 990) (by decide +kernel)) rfl, tw_in (List.mem_of_getElem? (i := 991) (by decide +kernel)) rfl, ⟨(RX8, TX8, 19), rfl, rfl⟩, cqX8_sin⟩
theorem cvL_49 : CV RL 49 qX7_harden 7 2 := ⟨tw_in (List.mem_of_getElem? (i := 470) (by decide +kernel)) rfl, tw_in (List.mem_of_getElem? (i := 471) (by decide +kernel)) rfl, tw_in (List.mem_of_getElem? (i := 472) (by decide +kernel)) rfl, ⟨(RX7, TX7, 9), rfl, rfl⟩, cqX7_harden⟩
theorem cvL_52 : CV RL 52 qX8_harden 8 2 := ⟨tw_in (List.mem_of_getElem? (i := 993) (by decide +kernel)) rfl, tw_in (List.mem_of_getElem? (i := 994) (by decide +kernel)) rfl, tw_in (List.mem_of_getElem? (i := 995) (by decide +kernel)) rfl, ⟨(RX8, TX8, 19), rfl, rfl⟩, cqX8_harden⟩
theorem cvL_53 : CV RL 53 qX7_pass 7 0 := ⟨tw_in (List.mem_of_getElem? (i := 474) (by decide +kernel)) rfl, tw_in (List.mem_of_getElem? (i := 475) (by decide +kernel)) rfl, tw_in (List.mem_of_getElem? (i := 476) (by decide +kernel)) rfl, ⟨(RX7, TX7, 9), rfl, rfl⟩, cqX7_pass⟩
theorem cvL_56 : CV RL 56 qX8_pass 8 0 := ⟨tw_in (List.mem_of_getElem? (i := 997) (by decide +kernel)) rfl, tw_in (List.mem_of_getElem? (i := 998) (by decide +kernel)) rfl, tw_in (List.mem_of_getElem? (i := 999) (by decide +kernel)) rfl, ⟨(RX8, TX8, 19), rfl, rfl⟩, cqX8_pass⟩
theorem cvL_57 : CV RL 57 qX7_undo 7 0 := ⟨tw_in (List.mem_of_getElem? (i := 483) (by decide +kernel)) rfl, tw_in (List.mem_of_getElem? (i := 484) (by decide +kernel)) rfl, tw_in (List.mem_of_getElem? (i := 485) (by decide +kernel)) rfl, ⟨(RX7, TX7, 9), rfl, rfl⟩, cqX7_undo⟩
theorem cvL_60 : CV RL 60 qX8_undo 8 0 := ⟨tw_in (List.mem_of_getElem? (i := 1005) (by decide +kernel)) rfl, tw_in (List.mem_of_getElem? (i := 1006) (by decide +kernel)) rfl, tw_in (List.mem_of_getElem? (i := 1007) (by decide +kernel)) rfl, ⟨(RX8, TX8, 19), rfl, rfl⟩, cqX8_undo⟩
theorem cvL_61 : CV RL 61 qX7_image 7 1 := ⟨tw_in (List.mem_of_getElem? (i := 495) (by decide +kernel)) rfl, tw_in (List.mem_of_getElem? (i := 496) (by decide +kernel)) rfl, tw_in (List.mem_of_getElem? (i := 497) (by decide +kernel)) rfl, ⟨(RX7, TX7, 9), rfl, rfl⟩, cqX7_image⟩
theorem cvL_64 : CV RL 64 qX8_image 8 1 := ⟨tw_in (List.mem_of_getElem? (i := 1009) (by decide +kernel)) rfl, tw_in (List.mem_of_getElem? (i := 1010) (by decide +kernel)) rfl, tw_in (List.mem_of_getElem? (i := 1011) (by decide +kernel)) rfl, ⟨(RX8, TX8, 19), rfl, rfl⟩, cqX8_image⟩
theorem cvL_65 : CV RL 65 qX7_restore 7 1 := ⟨tw_in (List.mem_of_getElem? (i := 503) (by decide +kernel)) rfl, tw_in (List.mem_of_getElem? (i := 504) (by decide +kernel)) rfl, tw_in (List.mem_of_getElem? (i := 505) (by decide +kernel)) rfl, ⟨(RX7, TX7, 9), rfl, rfl⟩, cqX7_restore⟩
theorem cvL_68 : CV RL 68 qX8_restore 8 1 := ⟨tw_in (List.mem_of_getElem? (i := 1013) (by decide +kernel)) rfl, tw_in (List.mem_of_getElem? (i := 1014) (by decide +kernel)) rfl, tw_in (List.mem_of_getElem? (i := 1015) (by decide +kernel)) rfl, ⟨(RX8, TX8, 19), rfl, rfl⟩, cqX8_restore⟩
theorem cvL_69 : CV RL 69 qX7_said 7 2 := ⟨tw_in (List.mem_of_getElem? (i := 507) (by decide +kernel)) rfl, tw_in (List.mem_of_getElem? (i := 508) (by decide +kernel)) rfl, tw_in (List.mem_of_getElem? (i := 509) (by decide +kernel)) rfl, ⟨(RX7, TX7, 9), rfl, rfl⟩, cqX7_said⟩
theorem cvL_72 : CV RL 72 qX8_said 8 2 := ⟨tw_in (List.mem_of_getElem? (i := 1017) (by decide +kernel)) rfl, tw_in (List.mem_of_getElem? (i := 1018) (by decide +kernel)) rfl, tw_in (List.mem_of_getElem? (i := 1019) (by decide +kernel)) rfl, ⟨(RX8, TX8, 19), rfl, rfl⟩, cqX8_said⟩
theorem cvL_73 : CV RL 73 qX7_comes 7 2 := ⟨tw_in (List.mem_of_getElem? (i := 512) (by decide +kernel)) rfl, tw_in (List.mem_of_getElem? (i := 513) (by decide +kernel)) rfl, tw_in (List.mem_of_getElem? (i := 514) (by decide +kernel)) rfl, ⟨(RX7, TX7, 9), rfl, rfl⟩, cqX7_comes⟩
theorem cvL_76 : CV RL 76 qX8_comes 8 2 := ⟨tw_in (List.mem_of_getElem? (i := 1021) (by decide +kernel)) rfl, tw_in (List.mem_of_getElem? (i := 1022) (by decide +kernel)) rfl, tw_in (List.mem_of_getElem? (i := 1023) (by decide +kernel)) rfl, ⟨(RX8, TX8, 19), rfl, rfl⟩, cqX8_comes⟩
theorem cvL_77 : CV RL 77 qX7_least 7 2 := ⟨tw_in (List.mem_of_getElem? (i := 517) (by decide +kernel)) rfl, tw_in (List.mem_of_getElem? (i := 518) (by decide +kernel)) rfl, tw_in (List.mem_of_getElem? (i := 519) (by decide +kernel)) rfl, ⟨(RX7, TX7, 9), rfl, rfl⟩, cqX7_least⟩
theorem cvL_80 : CV RL 80 qX8_least 8 2 := ⟨tw_in (List.mem_of_getElem? (i := 1025) (by decide +kernel)) rfl, tw_in (List.mem_of_getElem? (i := 1026) (by decide +kernel)) rfl, tw_in (List.mem_of_getElem? (i := 1027) (by decide +kernel)) rfl, ⟨(RX8, TX8, 19), rfl, rfl⟩, cqX8_least⟩
theorem cvL_81 : CV RL 81 qX7_match 7 1 := ⟨tw_in (List.mem_of_getElem? (i := 525) (by decide +kernel)) rfl, tw_in (List.mem_of_getElem? (i := 526) (by decide +kernel)) rfl, tw_in (List.mem_of_getElem? (i := 527) (by decide +kernel)) rfl, ⟨(RX7, TX7, 9), rfl, rfl⟩, cqX7_match⟩
theorem cvL_84 : CV RL 84 qX8_match 8 1 := ⟨tw_in (List.mem_of_getElem? (i := 1033) (by decide +kernel)) rfl, tw_in (List.mem_of_getElem? (i := 1034) (by decide +kernel)) rfl, tw_in (List.mem_of_getElem? (i := 1035) (by decide +kernel)) rfl, ⟨(RX8, TX8, 19), rfl, rfl⟩, cqX8_match⟩
theorem cvL_85 : CV RL 85 qX7_chain 7 2 := ⟨tw_in (List.mem_of_getElem? (i := 575) (by decide +kernel)) rfl, tw_in (List.mem_of_getElem? (i := 576) (by decide +kernel)) rfl, tw_in (List.mem_of_getElem? (i := 577) (by decide +kernel)) rfl, ⟨(RX7, TX7, 9), rfl, rfl⟩, cqX7_chain⟩
theorem cvL_88 : CV RL 88 qX8_chain 8 2 := ⟨tw_in (List.mem_of_getElem? (i := 1052) (by decide +kernel)) rfl, tw_in (List.mem_of_getElem? (i := 1053) (by decide +kernel)) rfl, tw_in (List.mem_of_getElem? (i := 1054) (by decide +kernel)) rfl, ⟨(RX8, TX8, 19), rfl, rfl⟩, cqX8_chain⟩
theorem cvL_89 : CV RL 89 qX7_reach 7 2 := ⟨tw_in (List.mem_of_getElem? (i := 592) (by decide +kernel)) rfl, tw_in (List.mem_of_getElem? (i := 593) (by decide +kernel)) rfl, tw_in (List.mem_of_getElem? (i := 594) (by decide +kernel)) rfl, ⟨(RX7, TX7, 9), rfl, rfl⟩, cqX7_reach⟩
theorem cvL_92 : CV RL 92 qX8_reach 8 2 := ⟨tw_in (List.mem_of_getElem? (i := 1060) (by decide +kernel)) rfl, tw_in (List.mem_of_getElem? (i := 1061) (by decide +kernel)) rfl, tw_in (List.mem_of_getElem? (i := 1062) (by decide +kernel)) rfl, ⟨(RX8, TX8, 19), rfl, rfl⟩, cqX8_reach⟩
theorem cvL_93 : CV RL 93 qX7_plan 7 2 := ⟨tw_in (List.mem_of_getElem? (i := 607) (by decide +kernel)) rfl, tw_in (List.mem_of_getElem? (i := 608) (by decide +kernel)) rfl, tw_in (List.mem_of_getElem? (i := 609) (by decide +kernel)) rfl, ⟨(RX7, TX7, 9), rfl, rfl⟩, cqX7_plan⟩
theorem cvL_96 : CV RL 96 qX8_plan 8 2 := ⟨tw_in (List.mem_of_getElem? (i := 1064) (by decide +kernel)) rfl, tw_in (List.mem_of_getElem? (i := 1065) (by decide +kernel)) rfl, tw_in (List.mem_of_getElem? (i := 1066) (by decide +kernel)) rfl, ⟨(RX8, TX8, 19), rfl, rfl⟩, cqX8_plan⟩
theorem cvL_97 : CV RL 97 qX7_gusts 7 4 := ⟨tw_in (List.mem_of_getElem? (i := 637) (by decide +kernel)) rfl, tw_in (List.mem_of_getElem? (i := 638) (by decide +kernel)) rfl, tw_in (List.mem_of_getElem? (i := 639) (by decide +kernel)) rfl, ⟨(RX7, TX7, 9), rfl, rfl⟩, cqX7_gusts⟩
theorem wJ_L_114 : Cond.constantLong RL 114 (4294967295) ∈ tw := tw_in (List.mem_of_getElem? (i := 1181) (by decide +kernel)) rfl
noncomputable def fL_law_j1273 (L : Nat) (xs : Nat → Int32) (j3 : Int32) (u : Um) : Option (Nat × Int32 × Um) :=
  nm (j3 + 7) fun v7 =>
  some (0, v7, u)
set_option maxHeartbeats 4000000 in
set_option maxRecDepth 100000 in
theorem tL_law_j1273 {w : Wc} {X : MX} (hX : OKc w X RL cL_law 13) {L : Nat} {xs : Nat → Int32} {j3 : Int32} (hS : SC w X L xs)  {u : Um} {e : Nat} {s' : Int32 × Um} (K0 : e = 0 → G w X Zl 18 [some (.ref 1000001), some (.ref 0), some (.ref 117), some (.int s'.1)] [] s'.2) (K1 : e ≠ 0 → G w X Zl 1279 [none, none, none, none] [] s'.2) (hf : fL_law_j1273 L xs j3 u = some (e, s')) : G w X Zl 1273 [some (.ref 1000001), some (.ref 0), some (.ref 117), some (.int j3)] [] u := by
  unfold fL_law_j1273 at hf
  refine G_iincF (lvf := fun v7 => [some (.ref 1000001), some (.ref 0), some (.ref 117), some (.int v7)]) hX dL_law_1273 rfl rfl rfl (Nat.le_of_ble_eq_true rfl) (fun _ => rfl) hf (fun v7 hf => ?_)
  refine G_goto (tgt := 18) hX dL_law_1276 rfl ?_
  obtain ⟨rfl, rfl⟩ := ret2 hf
  refine G_mask (lv' := [some (.ref 1000001), some (.ref 0), some (.ref 117), some (.int v7)]) [true, true, true, true] rfl rfl ?_
  exact K0 rfl
noncomputable def fL_law_b18 (L : Nat) (xs : Nat → Int32) (s3 : Int32) (u : Um) : Option (Nat × Int32 × Um) :=
  if ((Int32.ofNat L) - 7) < s3 then
    some (1, s3, u)
  else
    if inb s3 L = true then
    if ((xs s3.toNatClampNeg) &&& 31) = 0 then
      if inb (s3 + 1) L = true then
      bd2 (fX7_feed (xs (s3 + 1).toNatClampNeg) u) fun v2 u3 =>
      if inb (s3 + 1) L = true then
      bd2 (fX8_feed (xs (s3 + 1).toNatClampNeg) u3) fun v5 u6 =>
      if v2 = v5 then
        fL_law_j1273 L xs s3 u6
      else
        none
      else none
      else none
    else if ((xs s3.toNatClampNeg) &&& 31) = 1 then
      bd2 (fX7_coast  u) fun v9 u10 =>
      bd2 (fX8_coast  u10) fun v12 u13 =>
      if v9 = v12 then
        fL_law_j1273 L xs s3 u13
      else
        none
    else if ((xs s3.toNatClampNeg) &&& 31) = 2 then
      if inb (s3 + 1) L = true then
      if inb (s3 + 2) L = true then
      bd1 (fX7_person (xs (s3 + 1).toNatClampNeg) (xs (s3 + 2).toNatClampNeg) u) fun v15 =>
      if inb (s3 + 1) L = true then
      if inb (s3 + 2) L = true then
      bd1 (fX8_person (xs (s3 + 1).toNatClampNeg) (xs (s3 + 2).toNatClampNeg) u) fun v17 =>
      if v15 = v17 then
        fL_law_j1273 L xs s3 u
      else
        none
      else none
      else none
      else none
      else none
    else if ((xs s3.toNatClampNeg) &&& 31) = 3 then
      if inb (s3 + 1) L = true then
      if inb (s3 + 2) L = true then
      bd1 (fX7_as (xs (s3 + 1).toNatClampNeg) (xs (s3 + 2).toNatClampNeg) u) fun v19 =>
      if inb (s3 + 1) L = true then
      if inb (s3 + 2) L = true then
      bd1 (fX8_as (xs (s3 + 1).toNatClampNeg) (xs (s3 + 2).toNatClampNeg) u) fun v21 =>
      if v19 = v21 then
        fL_law_j1273 L xs s3 u
      else
        none
      else none
      else none
      else none
      else none
    else if ((xs s3.toNatClampNeg) &&& 31) = 4 then
      if inb (s3 + 1) L = true then
      if inb (s3 + 2) L = true then
      bd1 (fX7_wrong (xs (s3 + 1).toNatClampNeg) (xs (s3 + 2).toNatClampNeg) u) fun v23 =>
      if inb (s3 + 1) L = true then
      if inb (s3 + 2) L = true then
      bd1 (fX8_wrong (xs (s3 + 1).toNatClampNeg) (xs (s3 + 2).toNatClampNeg) u) fun v25 =>
      if v23 = v25 then
        fL_law_j1273 L xs s3 u
      else
        none
      else none
      else none
      else none
      else none
    else if ((xs s3.toNatClampNeg) &&& 31) = 5 then
      if inb (s3 + 1) L = true then
      if inb (s3 + 2) L = true then
      bd2 (fX7_carry (xs (s3 + 1).toNatClampNeg) (xs (s3 + 2).toNatClampNeg) u) fun v27 u28 =>
      if inb (s3 + 1) L = true then
      if inb (s3 + 2) L = true then
      bd2 (fX8_carry (xs (s3 + 1).toNatClampNeg) (xs (s3 + 2).toNatClampNeg) u28) fun v30 u31 =>
      if v27 = v30 then
        fL_law_j1273 L xs s3 u31
      else
        none
      else none
      else none
      else none
      else none
    else if ((xs s3.toNatClampNeg) &&& 31) = 6 then
      if inb (s3 + 1) L = true then
      if inb (s3 + 2) L = true then
      bd2 (fX7_lend (xs (s3 + 1).toNatClampNeg) (xs (s3 + 2).toNatClampNeg) u) fun v33 u34 =>
      if inb (s3 + 1) L = true then
      if inb (s3 + 2) L = true then
      bd2 (fX8_lend (xs (s3 + 1).toNatClampNeg) (xs (s3 + 2).toNatClampNeg) u34) fun v36 u37 =>
      if v33 = v36 then
        fL_law_j1273 L xs s3 u37
      else
        none
      else none
      else none
      else none
      else none
    else if ((xs s3.toNatClampNeg) &&& 31) = 7 then
      if inb (s3 + 1) L = true then
      if inb (s3 + 2) L = true then
      if inb (s3 + 3) L = true then
      bd2 (fX7_sin (xs (s3 + 1).toNatClampNeg) (xs (s3 + 2).toNatClampNeg) (xs (s3 + 3).toNatClampNeg) u) fun v39 u40 =>
      if inb (s3 + 1) L = true then
      if inb (s3 + 2) L = true then
      if inb (s3 + 3) L = true then
      bd2 (fX8_sin (xs (s3 + 1).toNatClampNeg) (xs (s3 + 2).toNatClampNeg) (xs (s3 + 3).toNatClampNeg) u40) fun v42 u43 =>
      if v39 = v42 then
        fL_law_j1273 L xs s3 u43
      else
        none
      else none
      else none
      else none
      else none
      else none
      else none
    else if ((xs s3.toNatClampNeg) &&& 31) = 8 then
      if inb (s3 + 1) L = true then
      if inb (s3 + 2) L = true then
      bd2 (fX7_harden (xs (s3 + 1).toNatClampNeg) (xs (s3 + 2).toNatClampNeg) u) fun v45 u46 =>
      if inb (s3 + 1) L = true then
      if inb (s3 + 2) L = true then
      bd2 (fX8_harden (xs (s3 + 1).toNatClampNeg) (xs (s3 + 2).toNatClampNeg) u46) fun v48 u49 =>
      if v45 = v48 then
        fL_law_j1273 L xs s3 u49
      else
        none
      else none
      else none
      else none
      else none
    else if ((xs s3.toNatClampNeg) &&& 31) = 9 then
      bd2 (fX7_pass  u) fun v51 u52 =>
      bd2 (fX8_pass  u52) fun v54 u55 =>
      if v51 = v54 then
        fL_law_j1273 L xs s3 u55
      else
        none
    else if ((xs s3.toNatClampNeg) &&& 31) = 10 then
      bd2 (fX7_undo  u) fun v57 u58 =>
      bd2 (fX8_undo  u58) fun v60 u61 =>
      if v57 = v60 then
        fL_law_j1273 L xs s3 u61
      else
        none
    else if ((xs s3.toNatClampNeg) &&& 31) = 11 then
      if inb (s3 + 1) L = true then
      bd2 (fX7_image (xs (s3 + 1).toNatClampNeg) u) fun v63 u64 =>
      if inb (s3 + 1) L = true then
      bd2 (fX8_image (xs (s3 + 1).toNatClampNeg) u64) fun v66 u67 =>
      if v63 = v66 then
        fL_law_j1273 L xs s3 u67
      else
        none
      else none
      else none
    else if ((xs s3.toNatClampNeg) &&& 31) = 12 then
      if inb (s3 + 1) L = true then
      bd2 (fX7_restore (xs (s3 + 1).toNatClampNeg) u) fun v69 u70 =>
      if inb (s3 + 1) L = true then
      bd2 (fX8_restore (xs (s3 + 1).toNatClampNeg) u70) fun v72 u73 =>
      if v69 = v72 then
        fL_law_j1273 L xs s3 u73
      else
        none
      else none
      else none
    else if ((xs s3.toNatClampNeg) &&& 31) = 13 then
      if inb (s3 + 1) L = true then
      if inb (s3 + 2) L = true then
      bd1 (fX7_said (xs (s3 + 1).toNatClampNeg) (xs (s3 + 2).toNatClampNeg) u) fun v75 =>
      if inb (s3 + 1) L = true then
      if inb (s3 + 2) L = true then
      bd1 (fX8_said (xs (s3 + 1).toNatClampNeg) (xs (s3 + 2).toNatClampNeg) u) fun v77 =>
      if v75 = v77 then
        fL_law_j1273 L xs s3 u
      else
        none
      else none
      else none
      else none
      else none
    else if ((xs s3.toNatClampNeg) &&& 31) = 14 then
      if inb (s3 + 1) L = true then
      if inb (s3 + 2) L = true then
      bd1 (fX7_comes (xs (s3 + 1).toNatClampNeg) (xs (s3 + 2).toNatClampNeg) u) fun v79 =>
      if inb (s3 + 1) L = true then
      if inb (s3 + 2) L = true then
      bd1 (fX8_comes (xs (s3 + 1).toNatClampNeg) (xs (s3 + 2).toNatClampNeg) u) fun v81 =>
      if v79 = v81 then
        fL_law_j1273 L xs s3 u
      else
        none
      else none
      else none
      else none
      else none
    else if ((xs s3.toNatClampNeg) &&& 31) = 15 then
      if inb (s3 + 1) L = true then
      if inb (s3 + 2) L = true then
      bd1 (fX7_least (xs (s3 + 1).toNatClampNeg) (xs (s3 + 2).toNatClampNeg) u) fun v83 =>
      if inb (s3 + 1) L = true then
      if inb (s3 + 2) L = true then
      bd2 (fX8_least (xs (s3 + 1).toNatClampNeg) (xs (s3 + 2).toNatClampNeg) u) fun v85 u86 =>
      if v83 = v85 then
        fL_law_j1273 L xs s3 u86
      else
        none
      else none
      else none
      else none
      else none
    else if ((xs s3.toNatClampNeg) &&& 31) = 16 then
      if inb (s3 + 1) L = true then
      bd2 (fX7_match (xs (s3 + 1).toNatClampNeg) u) fun v88 u89 =>
      if inb (s3 + 1) L = true then
      bd2 (fX8_match (xs (s3 + 1).toNatClampNeg) u89) fun v91 u92 =>
      if v88 = v91 then
        fL_law_j1273 L xs s3 u92
      else
        none
      else none
      else none
    else if ((xs s3.toNatClampNeg) &&& 31) = 17 then
      if inb (s3 + 1) L = true then
      if inb (s3 + 2) L = true then
      bd1 (fX7_chain (xs (s3 + 1).toNatClampNeg) (xs (s3 + 2).toNatClampNeg) u) fun v94 =>
      if inb (s3 + 1) L = true then
      if inb (s3 + 2) L = true then
      bd1 (fX8_chain (xs (s3 + 1).toNatClampNeg) (xs (s3 + 2).toNatClampNeg) u) fun v96 =>
      if v94 = v96 then
        fL_law_j1273 L xs s3 u
      else
        none
      else none
      else none
      else none
      else none
    else if ((xs s3.toNatClampNeg) &&& 31) = 18 then
      if inb (s3 + 1) L = true then
      if inb (s3 + 2) L = true then
      bd1 (fX7_reach (xs (s3 + 1).toNatClampNeg) (xs (s3 + 2).toNatClampNeg) u) fun v98 =>
      if inb (s3 + 1) L = true then
      if inb (s3 + 2) L = true then
      bd2 (fX8_reach (xs (s3 + 1).toNatClampNeg) (xs (s3 + 2).toNatClampNeg) u) fun v100 u101 =>
      if v98 = v100 then
        fL_law_j1273 L xs s3 u101
      else
        none
      else none
      else none
      else none
      else none
    else if ((xs s3.toNatClampNeg) &&& 31) = 19 then
      if inb (s3 + 1) L = true then
      if inb (s3 + 2) L = true then
      bd2 (fX7_plan (xs (s3 + 1).toNatClampNeg) (xs (s3 + 2).toNatClampNeg) u) fun v103 u104 =>
      if inb (s3 + 1) L = true then
      if inb (s3 + 2) L = true then
      bd2 (fX8_plan (xs (s3 + 1).toNatClampNeg) (xs (s3 + 2).toNatClampNeg) u104) fun v106 u107 =>
      if v103 = v106 then
        fL_law_j1273 L xs s3 u107
      else
        none
      else none
      else none
      else none
      else none
    else if ((xs s3.toNatClampNeg) &&& 31) = 20 then
      if inb (s3 + 1) L = true then
      if inb (s3 + 2) L = true then
      if inb (s3 + 3) L = true then
      if inb (s3 + 4) L = true then
      bd1 (fX7_gusts (xs (s3 + 1).toNatClampNeg) (xs (s3 + 2).toNatClampNeg) (xs (s3 + 3).toNatClampNeg) (xs (s3 + 4).toNatClampNeg) u) fun v109 =>
      if inb (s3 + 1) L = true then
      if inb (s3 + 2) L = true then
      if inb (s3 + 3) L = true then
      if inb (s3 + 4) L = true then
      bd1 (fX8_gusts (xs (s3 + 1).toNatClampNeg) (xs (s3 + 2).toNatClampNeg) (xs (s3 + 3).toNatClampNeg) (xs (s3 + 4).toNatClampNeg) u) fun v111 =>
      if v109 = v111 then
        fL_law_j1273 L xs s3 u
      else
        none
      else none
      else none
      else none
      else none
      else none
      else none
      else none
      else none
    else if ((xs s3.toNatClampNeg) &&& 31) = 21 then
      if inb (s3 + 1) L = true then
      if inb (s3 + 2) L = true then
      if inb (s3 + 3) L = true then
      bd2 (fX7_decades (xs (s3 + 1).toNatClampNeg) (xs (s3 + 2).toNatClampNeg) (xs (s3 + 3).toNatClampNeg) u) fun v113 u114 =>
      if inb (s3 + 1) L = true then
      if inb (s3 + 2) L = true then
      if inb (s3 + 3) L = true then
      bd2 (fX8_decades (xs (s3 + 1).toNatClampNeg) (xs (s3 + 2).toNatClampNeg) (xs (s3 + 3).toNatClampNeg) u114) fun v116 u117 =>
      if v113 = v116 then
        fL_law_j1273 L xs s3 u117
      else
        none
      else none
      else none
      else none
      else none
      else none
      else none
    else if ((xs s3.toNatClampNeg) &&& 31) = 22 then
      if inb (s3 + 1) L = true then
      if inb (s3 + 2) L = true then
      if inb (s3 + 3) L = true then
      bd2 (fX7_sheet (xs (s3 + 1).toNatClampNeg) (xs (s3 + 2).toNatClampNeg) (xs (s3 + 3).toNatClampNeg) u) fun v119 u120 =>
      if inb (s3 + 1) L = true then
      if inb (s3 + 2) L = true then
      if inb (s3 + 3) L = true then
      bd2 (fX8_sheet (xs (s3 + 1).toNatClampNeg) (xs (s3 + 2).toNatClampNeg) (xs (s3 + 3).toNatClampNeg) u120) fun v122 u123 =>
      if v119 = v122 then
        fL_law_j1273 L xs s3 u123
      else
        none
      else none
      else none
      else none
      else none
      else none
      else none
    else if ((xs s3.toNatClampNeg) &&& 31) = 23 then
      if inb (s3 + 1) L = true then
      bd2 (fX7_drop (xs (s3 + 1).toNatClampNeg) u) fun v125 u126 =>
      if inb (s3 + 1) L = true then
      bd2 (fX8_drop (xs (s3 + 1).toNatClampNeg) u126) fun v128 u129 =>
      if v125 = v128 then
        fL_law_j1273 L xs s3 u129
      else
        none
      else none
      else none
    else if ((xs s3.toNatClampNeg) &&& 31) = 24 then
      if inb (s3 + 1) L = true then
      if inb (s3 + 2) L = true then
      if inb (s3 + 3) L = true then
      if inb (s3 + 4) L = true then
      if inb (s3 + 5) L = true then
      bd2 (fX7_item (xs (s3 + 1).toNatClampNeg) (xs (s3 + 2).toNatClampNeg) (xs (s3 + 3).toNatClampNeg) (((((xs (s3 + 4).toNatClampNeg) : Int32).toInt64) <<< ((32 : Int32).toInt64 &&& 63)) ||| ((((xs (s3 + 5).toNatClampNeg) : Int32).toInt64) &&& 4294967295)) u) fun v131 u132 =>
      if inb (s3 + 1) L = true then
      if inb (s3 + 2) L = true then
      if inb (s3 + 3) L = true then
      if inb (s3 + 4) L = true then
      if inb (s3 + 5) L = true then
      bd2 (fX8_item (xs (s3 + 1).toNatClampNeg) (xs (s3 + 2).toNatClampNeg) (xs (s3 + 3).toNatClampNeg) (((((xs (s3 + 4).toNatClampNeg) : Int32).toInt64) <<< ((32 : Int32).toInt64 &&& 63)) ||| ((((xs (s3 + 5).toNatClampNeg) : Int32).toInt64) &&& 4294967295)) u132) fun v134 u135 =>
      if (lg_cmp v131 v134) = 0 then
        fL_law_j1273 L xs s3 u135
      else
        none
      else none
      else none
      else none
      else none
      else none
      else none
      else none
      else none
      else none
      else none
    else if ((xs s3.toNatClampNeg) &&& 31) = 25 then
      if inb (s3 + 1) L = true then
      if inb (s3 + 2) L = true then
      if inb (s3 + 3) L = true then
      if inb (s3 + 4) L = true then
      if inb (s3 + 5) L = true then
      bd2 (fX7_copy (xs (s3 + 1).toNatClampNeg) (xs (s3 + 2).toNatClampNeg) (xs (s3 + 3).toNatClampNeg) (xs (s3 + 4).toNatClampNeg) (xs (s3 + 5).toNatClampNeg) u) fun v137 u138 =>
      if inb (s3 + 1) L = true then
      if inb (s3 + 2) L = true then
      if inb (s3 + 3) L = true then
      if inb (s3 + 4) L = true then
      if inb (s3 + 5) L = true then
      bd2 (fX8_copy (xs (s3 + 1).toNatClampNeg) (xs (s3 + 2).toNatClampNeg) (xs (s3 + 3).toNatClampNeg) (xs (s3 + 4).toNatClampNeg) (xs (s3 + 5).toNatClampNeg) u138) fun v140 u141 =>
      if v137 = v140 then
        fL_law_j1273 L xs s3 u141
      else
        none
      else none
      else none
      else none
      else none
      else none
      else none
      else none
      else none
      else none
      else none
    else if ((xs s3.toNatClampNeg) &&& 31) = 26 then
      if inb (s3 + 1) L = true then
      if inb (s3 + 2) L = true then
      if inb (s3 + 3) L = true then
      if inb (s3 + 4) L = true then
      bd2 (fX7_log (xs (s3 + 1).toNatClampNeg) (xs (s3 + 2).toNatClampNeg) (xs (s3 + 3).toNatClampNeg) (xs (s3 + 4).toNatClampNeg) u) fun v143 u144 =>
      if inb (s3 + 1) L = true then
      if inb (s3 + 2) L = true then
      if inb (s3 + 3) L = true then
      if inb (s3 + 4) L = true then
      bd2 (fX8_log (xs (s3 + 1).toNatClampNeg) (xs (s3 + 2).toNatClampNeg) (xs (s3 + 3).toNatClampNeg) (xs (s3 + 4).toNatClampNeg) u144) fun v146 u147 =>
      if v143 = v146 then
        fL_law_j1273 L xs s3 u147
      else
        none
      else none
      else none
      else none
      else none
      else none
      else none
      else none
      else none
    else if ((xs s3.toNatClampNeg) &&& 31) = 27 then
      if inb (s3 + 1) L = true then
      if inb (s3 + 2) L = true then
      if inb (s3 + 3) L = true then
      if inb (s3 + 4) L = true then
      if inb (s3 + 5) L = true then
      if inb (s3 + 6) L = true then
      bd2 (fX7_skills (xs (s3 + 1).toNatClampNeg) (xs (s3 + 2).toNatClampNeg) (xs (s3 + 3).toNatClampNeg) (xs (s3 + 4).toNatClampNeg) (xs (s3 + 5).toNatClampNeg) (xs (s3 + 6).toNatClampNeg) u) fun v149 u150 =>
      if inb (s3 + 1) L = true then
      if inb (s3 + 2) L = true then
      if inb (s3 + 3) L = true then
      if inb (s3 + 4) L = true then
      if inb (s3 + 5) L = true then
      if inb (s3 + 6) L = true then
      bd2 (fX8_skills (xs (s3 + 1).toNatClampNeg) (xs (s3 + 2).toNatClampNeg) (xs (s3 + 3).toNatClampNeg) (xs (s3 + 4).toNatClampNeg) (xs (s3 + 5).toNatClampNeg) (xs (s3 + 6).toNatClampNeg) u150) fun v152 u153 =>
      if v149 = v152 then
        fL_law_j1273 L xs s3 u153
      else
        none
      else none
      else none
      else none
      else none
      else none
      else none
      else none
      else none
      else none
      else none
      else none
      else none
    else if ((xs s3.toNatClampNeg) &&& 31) = 28 then
      if inb (s3 + 1) L = true then
      if inb (s3 + 2) L = true then
      if inb (s3 + 3) L = true then
      if inb (s3 + 4) L = true then
      if inb (s3 + 5) L = true then
      if inb (s3 + 6) L = true then
      bd2 (fX7_kinds (xs (s3 + 1).toNatClampNeg) (xs (s3 + 2).toNatClampNeg) (xs (s3 + 3).toNatClampNeg) (xs (s3 + 4).toNatClampNeg) (xs (s3 + 5).toNatClampNeg) (xs (s3 + 6).toNatClampNeg) u) fun v155 u156 =>
      if inb (s3 + 1) L = true then
      if inb (s3 + 2) L = true then
      if inb (s3 + 3) L = true then
      if inb (s3 + 4) L = true then
      if inb (s3 + 5) L = true then
      if inb (s3 + 6) L = true then
      bd2 (fX8_kinds (xs (s3 + 1).toNatClampNeg) (xs (s3 + 2).toNatClampNeg) (xs (s3 + 3).toNatClampNeg) (xs (s3 + 4).toNatClampNeg) (xs (s3 + 5).toNatClampNeg) (xs (s3 + 6).toNatClampNeg) u156) fun v158 u159 =>
      if v155 = v158 then
        fL_law_j1273 L xs s3 u159
      else
        none
      else none
      else none
      else none
      else none
      else none
      else none
      else none
      else none
      else none
      else none
      else none
      else none
    else if ((xs s3.toNatClampNeg) &&& 31) = 29 then
      if inb (s3 + 1) L = true then
      bd1 (fX7_count (xs (s3 + 1).toNatClampNeg) u) fun v161 =>
      if inb (s3 + 1) L = true then
      bd1 (fX8_count (xs (s3 + 1).toNatClampNeg) u) fun v163 =>
      if v161 = v163 then
        fL_law_j1273 L xs s3 u
      else
        none
      else none
      else none
    else 
    fL_law_j1273 L xs s3 u
    else none
set_option maxHeartbeats 4000000 in
set_option maxRecDepth 100000 in
theorem tL_law_b18 {w : Wc} {X : MX} (hX : OKc w X RL cL_law 13) {L : Nat} {xs : Nat → Int32} (hS : SC w X L xs) {s : Int32 × Um} {e : Nat} {s' : Int32 × Um} (hf : fL_law_b18 L xs s.1 s.2 = some (e, s')) (K0 : e = 0 → G w X Zl 18 [some (.ref 1000001), some (.ref 0), some (.ref 117), some (.int s'.1)] [] s'.2) (K1 : e ≠ 0 → G w X Zl 1279 [none, none, none, none] [] s'.2) : G w X Zl 18 [some (.ref 1000001), some (.ref 0), some (.ref 117), some (.int s.1)] [] s.2 := by
  obtain ⟨s3, u⟩ := s
  unfold fL_law_b18 at hf
  try dsimp only at hf ⊢
  refine G_iload_n hX dL_law_18 rfl ?_
  refine G_aload_n hX dL_law_19 rfl ?_
  refine G_lenS hX hS dL_law_20 ?_
  refine G_bipush (v := 7) hX dL_law_21 rfl ?_
  refine G_isub hX dL_law_23 ?_
  refine G_icmp_gt (tgt := 1279) hX dL_law_24 rfl hf (fun hf => ?_) (fun hf => ?_)
  · obtain ⟨rfl, rfl⟩ := ret2 hf
    refine G_mask (lv' := [none, none, none, none]) [false, false, false, false] rfl rfl ?_
    exact K1 (by decide)
  · refine G_aload_n hX dL_law_27 rfl ?_
    refine G_iload_n hX dL_law_28 rfl ?_
    refine G_ldS hX hS dL_law_29 hf (fun hf => ?_)
    refine G_bipush (v := 31) hX dL_law_30 rfl ?_
    refine G_iand hX dL_law_32 ?_
    by_cases c33_0 : ((xs s3.toNatClampNeg) &&& 31) = 0
    · rw [if_pos c33_0] at hf
      refine G_tswIn (tgt := 168) hX dL_law_33 (by rw [c33_0]; decide) (by rw [c33_0]; decide) (by rw [c33_0]; rfl) rfl ?_
      refine G_aload_n hX dL_law_168 rfl ?_
      refine G_aload_n hX dL_law_169 rfl ?_
      refine G_iload_n hX dL_law_170 rfl ?_
      refine G_iconst (v := 1) hX dL_law_171 rfl ?_
      refine G_iadd hX dL_law_172 ?_
      refine G_ldS hX hS dL_law_173 hf (fun hf => ?_)
      obtain ⟨v2, u3, h1, hf⟩ := bd2_some hf
      refine G_cVl (as := [.int (xs (s3 + 1).toNatClampNeg)]) (rest := []) hX hS cvL_13 (mX7_feed w h1) (Nat.le_of_ble_eq_true rfl) kK0 (Nat.le_of_ble_eq_true rfl) (Nat.le_of_ble_eq_true rfl) rfl rfl (Nat.le_of_ble_eq_true rfl) dL_law_174 (st' := [.int v2]) rfl ?_
      refine G_aload_n hX dL_law_177 rfl ?_
      refine G_aload_n hX dL_law_178 rfl ?_
      refine G_iload_n hX dL_law_179 rfl ?_
      refine G_iconst (v := 1) hX dL_law_180 rfl ?_
      refine G_iadd hX dL_law_181 ?_
      refine G_ldS hX hS dL_law_182 hf (fun hf => ?_)
      obtain ⟨v5, u6, h4, hf⟩ := bd2_some hf
      refine G_cVl (as := [.int (xs (s3 + 1).toNatClampNeg)]) (rest := [.int v2]) hX hS cvL_17 (mX8_feed w h4) (Nat.le_of_ble_eq_true rfl) kK117 (Nat.le_of_ble_eq_true rfl) (Nat.le_of_ble_eq_true rfl) rfl rfl (Nat.le_of_ble_eq_true rfl) dL_law_183 (st' := [.int v5, .int v2]) rfl ?_
      refine G_icmp_eq (tgt := 1273) hX dL_law_186 rfl hf (fun hf => ?_) (fun hf => ?_)
      · refine G_mask (lv' := [some (.ref 1000001), some (.ref 0), some (.ref 117), some (.int s3)]) [true, true, true, true] rfl rfl ?_
        exact tL_law_j1273 hX hS K0 K1 hf
      · cases hf
    rw [if_neg c33_0] at hf
    by_cases c33_1 : ((xs s3.toNatClampNeg) &&& 31) = 1
    · rw [if_pos c33_1] at hf
      refine G_tswIn (tgt := 191) hX dL_law_33 (by rw [c33_1]; decide) (by rw [c33_1]; decide) (by rw [c33_1]; rfl) rfl ?_
      refine G_aload_n hX dL_law_191 rfl ?_
      obtain ⟨v9, u10, h8, hf⟩ := bd2_some hf
      refine G_cVl (as := []) (rest := []) hX hS cvL_18 (mX7_coast w h8) (Nat.le_of_ble_eq_true rfl) kK0 (Nat.le_of_ble_eq_true rfl) (Nat.le_of_ble_eq_true rfl) rfl rfl (Nat.le_of_ble_eq_true rfl) dL_law_192 (st' := [.int v9]) rfl ?_
      refine G_aload_n hX dL_law_195 rfl ?_
      obtain ⟨v12, u13, h11, hf⟩ := bd2_some hf
      refine G_cVl (as := []) (rest := [.int v9]) hX hS cvL_22 (mX8_coast w h11) (Nat.le_of_ble_eq_true rfl) kK117 (Nat.le_of_ble_eq_true rfl) (Nat.le_of_ble_eq_true rfl) rfl rfl (Nat.le_of_ble_eq_true rfl) dL_law_196 (st' := [.int v12, .int v9]) rfl ?_
      refine G_icmp_eq (tgt := 1273) hX dL_law_199 rfl hf (fun hf => ?_) (fun hf => ?_)
      · refine G_mask (lv' := [some (.ref 1000001), some (.ref 0), some (.ref 117), some (.int s3)]) [true, true, true, true] rfl rfl ?_
        exact tL_law_j1273 hX hS K0 K1 hf
      · cases hf
    rw [if_neg c33_1] at hf
    by_cases c33_2 : ((xs s3.toNatClampNeg) &&& 31) = 2
    · rw [if_pos c33_2] at hf
      refine G_tswIn (tgt := 204) hX dL_law_33 (by rw [c33_2]; decide) (by rw [c33_2]; decide) (by rw [c33_2]; rfl) rfl ?_
      refine G_aload_n hX dL_law_204 rfl ?_
      refine G_aload_n hX dL_law_205 rfl ?_
      refine G_iload_n hX dL_law_206 rfl ?_
      refine G_iconst (v := 1) hX dL_law_207 rfl ?_
      refine G_iadd hX dL_law_208 ?_
      refine G_ldS hX hS dL_law_209 hf (fun hf => ?_)
      refine G_aload_n hX dL_law_210 rfl ?_
      refine G_iload_n hX dL_law_211 rfl ?_
      refine G_iconst (v := 2) hX dL_law_212 rfl ?_
      refine G_iadd hX dL_law_213 ?_
      refine G_ldS hX hS dL_law_214 hf (fun hf => ?_)
      obtain ⟨v15, h14, hf⟩ := bd1_some hf
      refine G_cVl (as := [.int (xs (s3 + 1).toNatClampNeg), .int (xs (s3 + 2).toNatClampNeg)]) (rest := []) hX hS cvL_23 (mX7_person w h14) (Nat.le_of_ble_eq_true rfl) kK0 (Nat.le_of_ble_eq_true rfl) (Nat.le_of_ble_eq_true rfl) rfl rfl (Nat.le_of_ble_eq_true rfl) dL_law_215 (st' := [.int v15]) rfl ?_
      refine G_aload_n hX dL_law_218 rfl ?_
      refine G_aload_n hX dL_law_219 rfl ?_
      refine G_iload_n hX dL_law_220 rfl ?_
      refine G_iconst (v := 1) hX dL_law_221 rfl ?_
      refine G_iadd hX dL_law_222 ?_
      refine G_ldS hX hS dL_law_223 hf (fun hf => ?_)
      refine G_aload_n hX dL_law_224 rfl ?_
      refine G_iload_n hX dL_law_225 rfl ?_
      refine G_iconst (v := 2) hX dL_law_226 rfl ?_
      refine G_iadd hX dL_law_227 ?_
      refine G_ldS hX hS dL_law_228 hf (fun hf => ?_)
      obtain ⟨v17, h16, hf⟩ := bd1_some hf
      refine G_cVl (as := [.int (xs (s3 + 1).toNatClampNeg), .int (xs (s3 + 2).toNatClampNeg)]) (rest := [.int v15]) hX hS cvL_27 (mX8_person w h16) (Nat.le_of_ble_eq_true rfl) kK117 (Nat.le_of_ble_eq_true rfl) (Nat.le_of_ble_eq_true rfl) rfl rfl (Nat.le_of_ble_eq_true rfl) dL_law_229 (st' := [.int v17, .int v15]) rfl ?_
      refine G_icmp_eq (tgt := 1273) hX dL_law_232 rfl hf (fun hf => ?_) (fun hf => ?_)
      · refine G_mask (lv' := [some (.ref 1000001), some (.ref 0), some (.ref 117), some (.int s3)]) [true, true, true, true] rfl rfl ?_
        exact tL_law_j1273 hX hS K0 K1 hf
      · cases hf
    rw [if_neg c33_2] at hf
    by_cases c33_3 : ((xs s3.toNatClampNeg) &&& 31) = 3
    · rw [if_pos c33_3] at hf
      refine G_tswIn (tgt := 237) hX dL_law_33 (by rw [c33_3]; decide) (by rw [c33_3]; decide) (by rw [c33_3]; rfl) rfl ?_
      refine G_aload_n hX dL_law_237 rfl ?_
      refine G_aload_n hX dL_law_238 rfl ?_
      refine G_iload_n hX dL_law_239 rfl ?_
      refine G_iconst (v := 1) hX dL_law_240 rfl ?_
      refine G_iadd hX dL_law_241 ?_
      refine G_ldS hX hS dL_law_242 hf (fun hf => ?_)
      refine G_aload_n hX dL_law_243 rfl ?_
      refine G_iload_n hX dL_law_244 rfl ?_
      refine G_iconst (v := 2) hX dL_law_245 rfl ?_
      refine G_iadd hX dL_law_246 ?_
      refine G_ldS hX hS dL_law_247 hf (fun hf => ?_)
      obtain ⟨v19, h18, hf⟩ := bd1_some hf
      refine G_cVl (as := [.int (xs (s3 + 1).toNatClampNeg), .int (xs (s3 + 2).toNatClampNeg)]) (rest := []) hX hS cvL_28 (mX7_as w h18) (Nat.le_of_ble_eq_true rfl) kK0 (Nat.le_of_ble_eq_true rfl) (Nat.le_of_ble_eq_true rfl) rfl rfl (Nat.le_of_ble_eq_true rfl) dL_law_248 (st' := [.int v19]) rfl ?_
      refine G_aload_n hX dL_law_251 rfl ?_
      refine G_aload_n hX dL_law_252 rfl ?_
      refine G_iload_n hX dL_law_253 rfl ?_
      refine G_iconst (v := 1) hX dL_law_254 rfl ?_
      refine G_iadd hX dL_law_255 ?_
      refine G_ldS hX hS dL_law_256 hf (fun hf => ?_)
      refine G_aload_n hX dL_law_257 rfl ?_
      refine G_iload_n hX dL_law_258 rfl ?_
      refine G_iconst (v := 2) hX dL_law_259 rfl ?_
      refine G_iadd hX dL_law_260 ?_
      refine G_ldS hX hS dL_law_261 hf (fun hf => ?_)
      obtain ⟨v21, h20, hf⟩ := bd1_some hf
      refine G_cVl (as := [.int (xs (s3 + 1).toNatClampNeg), .int (xs (s3 + 2).toNatClampNeg)]) (rest := [.int v19]) hX hS cvL_31 (mX8_as w h20) (Nat.le_of_ble_eq_true rfl) kK117 (Nat.le_of_ble_eq_true rfl) (Nat.le_of_ble_eq_true rfl) rfl rfl (Nat.le_of_ble_eq_true rfl) dL_law_262 (st' := [.int v21, .int v19]) rfl ?_
      refine G_icmp_eq (tgt := 1273) hX dL_law_265 rfl hf (fun hf => ?_) (fun hf => ?_)
      · refine G_mask (lv' := [some (.ref 1000001), some (.ref 0), some (.ref 117), some (.int s3)]) [true, true, true, true] rfl rfl ?_
        exact tL_law_j1273 hX hS K0 K1 hf
      · cases hf
    rw [if_neg c33_3] at hf
    by_cases c33_4 : ((xs s3.toNatClampNeg) &&& 31) = 4
    · rw [if_pos c33_4] at hf
      refine G_tswIn (tgt := 270) hX dL_law_33 (by rw [c33_4]; decide) (by rw [c33_4]; decide) (by rw [c33_4]; rfl) rfl ?_
      refine G_aload_n hX dL_law_270 rfl ?_
      refine G_aload_n hX dL_law_271 rfl ?_
      refine G_iload_n hX dL_law_272 rfl ?_
      refine G_iconst (v := 1) hX dL_law_273 rfl ?_
      refine G_iadd hX dL_law_274 ?_
      refine G_ldS hX hS dL_law_275 hf (fun hf => ?_)
      refine G_aload_n hX dL_law_276 rfl ?_
      refine G_iload_n hX dL_law_277 rfl ?_
      refine G_iconst (v := 2) hX dL_law_278 rfl ?_
      refine G_iadd hX dL_law_279 ?_
      refine G_ldS hX hS dL_law_280 hf (fun hf => ?_)
      obtain ⟨v23, h22, hf⟩ := bd1_some hf
      refine G_cVl (as := [.int (xs (s3 + 1).toNatClampNeg), .int (xs (s3 + 2).toNatClampNeg)]) (rest := []) hX hS cvL_32 (mX7_wrong w h22) (Nat.le_of_ble_eq_true rfl) kK0 (Nat.le_of_ble_eq_true rfl) (Nat.le_of_ble_eq_true rfl) rfl rfl (Nat.le_of_ble_eq_true rfl) dL_law_281 (st' := [.int v23]) rfl ?_
      refine G_aload_n hX dL_law_284 rfl ?_
      refine G_aload_n hX dL_law_285 rfl ?_
      refine G_iload_n hX dL_law_286 rfl ?_
      refine G_iconst (v := 1) hX dL_law_287 rfl ?_
      refine G_iadd hX dL_law_288 ?_
      refine G_ldS hX hS dL_law_289 hf (fun hf => ?_)
      refine G_aload_n hX dL_law_290 rfl ?_
      refine G_iload_n hX dL_law_291 rfl ?_
      refine G_iconst (v := 2) hX dL_law_292 rfl ?_
      refine G_iadd hX dL_law_293 ?_
      refine G_ldS hX hS dL_law_294 hf (fun hf => ?_)
      obtain ⟨v25, h24, hf⟩ := bd1_some hf
      refine G_cVl (as := [.int (xs (s3 + 1).toNatClampNeg), .int (xs (s3 + 2).toNatClampNeg)]) (rest := [.int v23]) hX hS cvL_35 (mX8_wrong w h24) (Nat.le_of_ble_eq_true rfl) kK117 (Nat.le_of_ble_eq_true rfl) (Nat.le_of_ble_eq_true rfl) rfl rfl (Nat.le_of_ble_eq_true rfl) dL_law_295 (st' := [.int v25, .int v23]) rfl ?_
      refine G_icmp_eq (tgt := 1273) hX dL_law_298 rfl hf (fun hf => ?_) (fun hf => ?_)
      · refine G_mask (lv' := [some (.ref 1000001), some (.ref 0), some (.ref 117), some (.int s3)]) [true, true, true, true] rfl rfl ?_
        exact tL_law_j1273 hX hS K0 K1 hf
      · cases hf
    rw [if_neg c33_4] at hf
    by_cases c33_5 : ((xs s3.toNatClampNeg) &&& 31) = 5
    · rw [if_pos c33_5] at hf
      refine G_tswIn (tgt := 303) hX dL_law_33 (by rw [c33_5]; decide) (by rw [c33_5]; decide) (by rw [c33_5]; rfl) rfl ?_
      refine G_aload_n hX dL_law_303 rfl ?_
      refine G_aload_n hX dL_law_304 rfl ?_
      refine G_iload_n hX dL_law_305 rfl ?_
      refine G_iconst (v := 1) hX dL_law_306 rfl ?_
      refine G_iadd hX dL_law_307 ?_
      refine G_ldS hX hS dL_law_308 hf (fun hf => ?_)
      refine G_aload_n hX dL_law_309 rfl ?_
      refine G_iload_n hX dL_law_310 rfl ?_
      refine G_iconst (v := 2) hX dL_law_311 rfl ?_
      refine G_iadd hX dL_law_312 ?_
      refine G_ldS hX hS dL_law_313 hf (fun hf => ?_)
      obtain ⟨v27, u28, h26, hf⟩ := bd2_some hf
      refine G_cVl (as := [.int (xs (s3 + 1).toNatClampNeg), .int (xs (s3 + 2).toNatClampNeg)]) (rest := []) hX hS cvL_36 (mX7_carry w h26) (Nat.le_of_ble_eq_true rfl) kK0 (Nat.le_of_ble_eq_true rfl) (Nat.le_of_ble_eq_true rfl) rfl rfl (Nat.le_of_ble_eq_true rfl) dL_law_314 (st' := [.int v27]) rfl ?_
      refine G_aload_n hX dL_law_317 rfl ?_
      refine G_aload_n hX dL_law_318 rfl ?_
      refine G_iload_n hX dL_law_319 rfl ?_
      refine G_iconst (v := 1) hX dL_law_320 rfl ?_
      refine G_iadd hX dL_law_321 ?_
      refine G_ldS hX hS dL_law_322 hf (fun hf => ?_)
      refine G_aload_n hX dL_law_323 rfl ?_
      refine G_iload_n hX dL_law_324 rfl ?_
      refine G_iconst (v := 2) hX dL_law_325 rfl ?_
      refine G_iadd hX dL_law_326 ?_
      refine G_ldS hX hS dL_law_327 hf (fun hf => ?_)
      obtain ⟨v30, u31, h29, hf⟩ := bd2_some hf
      refine G_cVl (as := [.int (xs (s3 + 1).toNatClampNeg), .int (xs (s3 + 2).toNatClampNeg)]) (rest := [.int v27]) hX hS cvL_39 (mX8_carry w h29) (Nat.le_of_ble_eq_true rfl) kK117 (Nat.le_of_ble_eq_true rfl) (Nat.le_of_ble_eq_true rfl) rfl rfl (Nat.le_of_ble_eq_true rfl) dL_law_328 (st' := [.int v30, .int v27]) rfl ?_
      refine G_icmp_eq (tgt := 1273) hX dL_law_331 rfl hf (fun hf => ?_) (fun hf => ?_)
      · refine G_mask (lv' := [some (.ref 1000001), some (.ref 0), some (.ref 117), some (.int s3)]) [true, true, true, true] rfl rfl ?_
        exact tL_law_j1273 hX hS K0 K1 hf
      · cases hf
    rw [if_neg c33_5] at hf
    by_cases c33_6 : ((xs s3.toNatClampNeg) &&& 31) = 6
    · rw [if_pos c33_6] at hf
      refine G_tswIn (tgt := 336) hX dL_law_33 (by rw [c33_6]; decide) (by rw [c33_6]; decide) (by rw [c33_6]; rfl) rfl ?_
      refine G_aload_n hX dL_law_336 rfl ?_
      refine G_aload_n hX dL_law_337 rfl ?_
      refine G_iload_n hX dL_law_338 rfl ?_
      refine G_iconst (v := 1) hX dL_law_339 rfl ?_
      refine G_iadd hX dL_law_340 ?_
      refine G_ldS hX hS dL_law_341 hf (fun hf => ?_)
      refine G_aload_n hX dL_law_342 rfl ?_
      refine G_iload_n hX dL_law_343 rfl ?_
      refine G_iconst (v := 2) hX dL_law_344 rfl ?_
      refine G_iadd hX dL_law_345 ?_
      refine G_ldS hX hS dL_law_346 hf (fun hf => ?_)
      obtain ⟨v33, u34, h32, hf⟩ := bd2_some hf
      refine G_cVl (as := [.int (xs (s3 + 1).toNatClampNeg), .int (xs (s3 + 2).toNatClampNeg)]) (rest := []) hX hS cvL_40 (mX7_lend w h32) (Nat.le_of_ble_eq_true rfl) kK0 (Nat.le_of_ble_eq_true rfl) (Nat.le_of_ble_eq_true rfl) rfl rfl (Nat.le_of_ble_eq_true rfl) dL_law_347 (st' := [.int v33]) rfl ?_
      refine G_aload_n hX dL_law_350 rfl ?_
      refine G_aload_n hX dL_law_351 rfl ?_
      refine G_iload_n hX dL_law_352 rfl ?_
      refine G_iconst (v := 1) hX dL_law_353 rfl ?_
      refine G_iadd hX dL_law_354 ?_
      refine G_ldS hX hS dL_law_355 hf (fun hf => ?_)
      refine G_aload_n hX dL_law_356 rfl ?_
      refine G_iload_n hX dL_law_357 rfl ?_
      refine G_iconst (v := 2) hX dL_law_358 rfl ?_
      refine G_iadd hX dL_law_359 ?_
      refine G_ldS hX hS dL_law_360 hf (fun hf => ?_)
      obtain ⟨v36, u37, h35, hf⟩ := bd2_some hf
      refine G_cVl (as := [.int (xs (s3 + 1).toNatClampNeg), .int (xs (s3 + 2).toNatClampNeg)]) (rest := [.int v33]) hX hS cvL_43 (mX8_lend w h35) (Nat.le_of_ble_eq_true rfl) kK117 (Nat.le_of_ble_eq_true rfl) (Nat.le_of_ble_eq_true rfl) rfl rfl (Nat.le_of_ble_eq_true rfl) dL_law_361 (st' := [.int v36, .int v33]) rfl ?_
      refine G_icmp_eq (tgt := 1273) hX dL_law_364 rfl hf (fun hf => ?_) (fun hf => ?_)
      · refine G_mask (lv' := [some (.ref 1000001), some (.ref 0), some (.ref 117), some (.int s3)]) [true, true, true, true] rfl rfl ?_
        exact tL_law_j1273 hX hS K0 K1 hf
      · cases hf
    rw [if_neg c33_6] at hf
    by_cases c33_7 : ((xs s3.toNatClampNeg) &&& 31) = 7
    · rw [if_pos c33_7] at hf
      refine G_tswIn (tgt := 369) hX dL_law_33 (by rw [c33_7]; decide) (by rw [c33_7]; decide) (by rw [c33_7]; rfl) rfl ?_
      refine G_aload_n hX dL_law_369 rfl ?_
      refine G_aload_n hX dL_law_370 rfl ?_
      refine G_iload_n hX dL_law_371 rfl ?_
      refine G_iconst (v := 1) hX dL_law_372 rfl ?_
      refine G_iadd hX dL_law_373 ?_
      refine G_ldS hX hS dL_law_374 hf (fun hf => ?_)
      refine G_aload_n hX dL_law_375 rfl ?_
      refine G_iload_n hX dL_law_376 rfl ?_
      refine G_iconst (v := 2) hX dL_law_377 rfl ?_
      refine G_iadd hX dL_law_378 ?_
      refine G_ldS hX hS dL_law_379 hf (fun hf => ?_)
      refine G_aload_n hX dL_law_380 rfl ?_
      refine G_iload_n hX dL_law_381 rfl ?_
      refine G_iconst (v := 3) hX dL_law_382 rfl ?_
      refine G_iadd hX dL_law_383 ?_
      refine G_ldS hX hS dL_law_384 hf (fun hf => ?_)
      obtain ⟨v39, u40, h38, hf⟩ := bd2_some hf
      refine G_cVl (as := [.int (xs (s3 + 1).toNatClampNeg), .int (xs (s3 + 2).toNatClampNeg), .int (xs (s3 + 3).toNatClampNeg)]) (rest := []) hX hS cvL_44 (mX7_sin w h38) (Nat.le_of_ble_eq_true rfl) kK0 (Nat.le_of_ble_eq_true rfl) (Nat.le_of_ble_eq_true rfl) rfl rfl (Nat.le_of_ble_eq_true rfl) dL_law_385 (st' := [.int v39]) rfl ?_
      refine G_aload_n hX dL_law_388 rfl ?_
      refine G_aload_n hX dL_law_389 rfl ?_
      refine G_iload_n hX dL_law_390 rfl ?_
      refine G_iconst (v := 1) hX dL_law_391 rfl ?_
      refine G_iadd hX dL_law_392 ?_
      refine G_ldS hX hS dL_law_393 hf (fun hf => ?_)
      refine G_aload_n hX dL_law_394 rfl ?_
      refine G_iload_n hX dL_law_395 rfl ?_
      refine G_iconst (v := 2) hX dL_law_396 rfl ?_
      refine G_iadd hX dL_law_397 ?_
      refine G_ldS hX hS dL_law_398 hf (fun hf => ?_)
      refine G_aload_n hX dL_law_399 rfl ?_
      refine G_iload_n hX dL_law_400 rfl ?_
      refine G_iconst (v := 3) hX dL_law_401 rfl ?_
      refine G_iadd hX dL_law_402 ?_
      refine G_ldS hX hS dL_law_403 hf (fun hf => ?_)
      obtain ⟨v42, u43, h41, hf⟩ := bd2_some hf
      refine G_cVl (as := [.int (xs (s3 + 1).toNatClampNeg), .int (xs (s3 + 2).toNatClampNeg), .int (xs (s3 + 3).toNatClampNeg)]) (rest := [.int v39]) hX hS cvL_48 (mX8_sin w h41) (Nat.le_of_ble_eq_true rfl) kK117 (Nat.le_of_ble_eq_true rfl) (Nat.le_of_ble_eq_true rfl) rfl rfl (Nat.le_of_ble_eq_true rfl) dL_law_404 (st' := [.int v42, .int v39]) rfl ?_
      refine G_icmp_eq (tgt := 1273) hX dL_law_407 rfl hf (fun hf => ?_) (fun hf => ?_)
      · refine G_mask (lv' := [some (.ref 1000001), some (.ref 0), some (.ref 117), some (.int s3)]) [true, true, true, true] rfl rfl ?_
        exact tL_law_j1273 hX hS K0 K1 hf
      · cases hf
    rw [if_neg c33_7] at hf
    by_cases c33_8 : ((xs s3.toNatClampNeg) &&& 31) = 8
    · rw [if_pos c33_8] at hf
      refine G_tswIn (tgt := 412) hX dL_law_33 (by rw [c33_8]; decide) (by rw [c33_8]; decide) (by rw [c33_8]; rfl) rfl ?_
      refine G_aload_n hX dL_law_412 rfl ?_
      refine G_aload_n hX dL_law_413 rfl ?_
      refine G_iload_n hX dL_law_414 rfl ?_
      refine G_iconst (v := 1) hX dL_law_415 rfl ?_
      refine G_iadd hX dL_law_416 ?_
      refine G_ldS hX hS dL_law_417 hf (fun hf => ?_)
      refine G_aload_n hX dL_law_418 rfl ?_
      refine G_iload_n hX dL_law_419 rfl ?_
      refine G_iconst (v := 2) hX dL_law_420 rfl ?_
      refine G_iadd hX dL_law_421 ?_
      refine G_ldS hX hS dL_law_422 hf (fun hf => ?_)
      obtain ⟨v45, u46, h44, hf⟩ := bd2_some hf
      refine G_cVl (as := [.int (xs (s3 + 1).toNatClampNeg), .int (xs (s3 + 2).toNatClampNeg)]) (rest := []) hX hS cvL_49 (mX7_harden w h44) (Nat.le_of_ble_eq_true rfl) kK0 (Nat.le_of_ble_eq_true rfl) (Nat.le_of_ble_eq_true rfl) rfl rfl (Nat.le_of_ble_eq_true rfl) dL_law_423 (st' := [.int v45]) rfl ?_
      refine G_aload_n hX dL_law_426 rfl ?_
      refine G_aload_n hX dL_law_427 rfl ?_
      refine G_iload_n hX dL_law_428 rfl ?_
      refine G_iconst (v := 1) hX dL_law_429 rfl ?_
      refine G_iadd hX dL_law_430 ?_
      refine G_ldS hX hS dL_law_431 hf (fun hf => ?_)
      refine G_aload_n hX dL_law_432 rfl ?_
      refine G_iload_n hX dL_law_433 rfl ?_
      refine G_iconst (v := 2) hX dL_law_434 rfl ?_
      refine G_iadd hX dL_law_435 ?_
      refine G_ldS hX hS dL_law_436 hf (fun hf => ?_)
      obtain ⟨v48, u49, h47, hf⟩ := bd2_some hf
      refine G_cVl (as := [.int (xs (s3 + 1).toNatClampNeg), .int (xs (s3 + 2).toNatClampNeg)]) (rest := [.int v45]) hX hS cvL_52 (mX8_harden w h47) (Nat.le_of_ble_eq_true rfl) kK117 (Nat.le_of_ble_eq_true rfl) (Nat.le_of_ble_eq_true rfl) rfl rfl (Nat.le_of_ble_eq_true rfl) dL_law_437 (st' := [.int v48, .int v45]) rfl ?_
      refine G_icmp_eq (tgt := 1273) hX dL_law_440 rfl hf (fun hf => ?_) (fun hf => ?_)
      · refine G_mask (lv' := [some (.ref 1000001), some (.ref 0), some (.ref 117), some (.int s3)]) [true, true, true, true] rfl rfl ?_
        exact tL_law_j1273 hX hS K0 K1 hf
      · cases hf
    rw [if_neg c33_8] at hf
    by_cases c33_9 : ((xs s3.toNatClampNeg) &&& 31) = 9
    · rw [if_pos c33_9] at hf
      refine G_tswIn (tgt := 445) hX dL_law_33 (by rw [c33_9]; decide) (by rw [c33_9]; decide) (by rw [c33_9]; rfl) rfl ?_
      refine G_aload_n hX dL_law_445 rfl ?_
      obtain ⟨v51, u52, h50, hf⟩ := bd2_some hf
      refine G_cVl (as := []) (rest := []) hX hS cvL_53 (mX7_pass w h50) (Nat.le_of_ble_eq_true rfl) kK0 (Nat.le_of_ble_eq_true rfl) (Nat.le_of_ble_eq_true rfl) rfl rfl (Nat.le_of_ble_eq_true rfl) dL_law_446 (st' := [.int v51]) rfl ?_
      refine G_aload_n hX dL_law_449 rfl ?_
      obtain ⟨v54, u55, h53, hf⟩ := bd2_some hf
      refine G_cVl (as := []) (rest := [.int v51]) hX hS cvL_56 (mX8_pass w h53) (Nat.le_of_ble_eq_true rfl) kK117 (Nat.le_of_ble_eq_true rfl) (Nat.le_of_ble_eq_true rfl) rfl rfl (Nat.le_of_ble_eq_true rfl) dL_law_450 (st' := [.int v54, .int v51]) rfl ?_
      refine G_icmp_eq (tgt := 1273) hX dL_law_453 rfl hf (fun hf => ?_) (fun hf => ?_)
      · refine G_mask (lv' := [some (.ref 1000001), some (.ref 0), some (.ref 117), some (.int s3)]) [true, true, true, true] rfl rfl ?_
        exact tL_law_j1273 hX hS K0 K1 hf
      · cases hf
    rw [if_neg c33_9] at hf
    by_cases c33_10 : ((xs s3.toNatClampNeg) &&& 31) = 10
    · rw [if_pos c33_10] at hf
      refine G_tswIn (tgt := 458) hX dL_law_33 (by rw [c33_10]; decide) (by rw [c33_10]; decide) (by rw [c33_10]; rfl) rfl ?_
      refine G_aload_n hX dL_law_458 rfl ?_
      obtain ⟨v57, u58, h56, hf⟩ := bd2_some hf
      refine G_cVl (as := []) (rest := []) hX hS cvL_57 (mX7_undo w h56) (Nat.le_of_ble_eq_true rfl) kK0 (Nat.le_of_ble_eq_true rfl) (Nat.le_of_ble_eq_true rfl) rfl rfl (Nat.le_of_ble_eq_true rfl) dL_law_459 (st' := [.int v57]) rfl ?_
      refine G_aload_n hX dL_law_462 rfl ?_
      obtain ⟨v60, u61, h59, hf⟩ := bd2_some hf
      refine G_cVl (as := []) (rest := [.int v57]) hX hS cvL_60 (mX8_undo w h59) (Nat.le_of_ble_eq_true rfl) kK117 (Nat.le_of_ble_eq_true rfl) (Nat.le_of_ble_eq_true rfl) rfl rfl (Nat.le_of_ble_eq_true rfl) dL_law_463 (st' := [.int v60, .int v57]) rfl ?_
      refine G_icmp_eq (tgt := 1273) hX dL_law_466 rfl hf (fun hf => ?_) (fun hf => ?_)
      · refine G_mask (lv' := [some (.ref 1000001), some (.ref 0), some (.ref 117), some (.int s3)]) [true, true, true, true] rfl rfl ?_
        exact tL_law_j1273 hX hS K0 K1 hf
      · cases hf
    rw [if_neg c33_10] at hf
    by_cases c33_11 : ((xs s3.toNatClampNeg) &&& 31) = 11
    · rw [if_pos c33_11] at hf
      refine G_tswIn (tgt := 471) hX dL_law_33 (by rw [c33_11]; decide) (by rw [c33_11]; decide) (by rw [c33_11]; rfl) rfl ?_
      refine G_aload_n hX dL_law_471 rfl ?_
      refine G_aload_n hX dL_law_472 rfl ?_
      refine G_iload_n hX dL_law_473 rfl ?_
      refine G_iconst (v := 1) hX dL_law_474 rfl ?_
      refine G_iadd hX dL_law_475 ?_
      refine G_ldS hX hS dL_law_476 hf (fun hf => ?_)
      obtain ⟨v63, u64, h62, hf⟩ := bd2_some hf
      refine G_cVl (as := [.int (xs (s3 + 1).toNatClampNeg)]) (rest := []) hX hS cvL_61 (mX7_image w h62) (Nat.le_of_ble_eq_true rfl) kK0 (Nat.le_of_ble_eq_true rfl) (Nat.le_of_ble_eq_true rfl) rfl rfl (Nat.le_of_ble_eq_true rfl) dL_law_477 (st' := [.int v63]) rfl ?_
      refine G_aload_n hX dL_law_480 rfl ?_
      refine G_aload_n hX dL_law_481 rfl ?_
      refine G_iload_n hX dL_law_482 rfl ?_
      refine G_iconst (v := 1) hX dL_law_483 rfl ?_
      refine G_iadd hX dL_law_484 ?_
      refine G_ldS hX hS dL_law_485 hf (fun hf => ?_)
      obtain ⟨v66, u67, h65, hf⟩ := bd2_some hf
      refine G_cVl (as := [.int (xs (s3 + 1).toNatClampNeg)]) (rest := [.int v63]) hX hS cvL_64 (mX8_image w h65) (Nat.le_of_ble_eq_true rfl) kK117 (Nat.le_of_ble_eq_true rfl) (Nat.le_of_ble_eq_true rfl) rfl rfl (Nat.le_of_ble_eq_true rfl) dL_law_486 (st' := [.int v66, .int v63]) rfl ?_
      refine G_icmp_eq (tgt := 1273) hX dL_law_489 rfl hf (fun hf => ?_) (fun hf => ?_)
      · refine G_mask (lv' := [some (.ref 1000001), some (.ref 0), some (.ref 117), some (.int s3)]) [true, true, true, true] rfl rfl ?_
        exact tL_law_j1273 hX hS K0 K1 hf
      · cases hf
    rw [if_neg c33_11] at hf
    by_cases c33_12 : ((xs s3.toNatClampNeg) &&& 31) = 12
    · rw [if_pos c33_12] at hf
      refine G_tswIn (tgt := 494) hX dL_law_33 (by rw [c33_12]; decide) (by rw [c33_12]; decide) (by rw [c33_12]; rfl) rfl ?_
      refine G_aload_n hX dL_law_494 rfl ?_
      refine G_aload_n hX dL_law_495 rfl ?_
      refine G_iload_n hX dL_law_496 rfl ?_
      refine G_iconst (v := 1) hX dL_law_497 rfl ?_
      refine G_iadd hX dL_law_498 ?_
      refine G_ldS hX hS dL_law_499 hf (fun hf => ?_)
      obtain ⟨v69, u70, h68, hf⟩ := bd2_some hf
      refine G_cVl (as := [.int (xs (s3 + 1).toNatClampNeg)]) (rest := []) hX hS cvL_65 (mX7_restore w h68) (Nat.le_of_ble_eq_true rfl) kK0 (Nat.le_of_ble_eq_true rfl) (Nat.le_of_ble_eq_true rfl) rfl rfl (Nat.le_of_ble_eq_true rfl) dL_law_500 (st' := [.int v69]) rfl ?_
      refine G_aload_n hX dL_law_503 rfl ?_
      refine G_aload_n hX dL_law_504 rfl ?_
      refine G_iload_n hX dL_law_505 rfl ?_
      refine G_iconst (v := 1) hX dL_law_506 rfl ?_
      refine G_iadd hX dL_law_507 ?_
      refine G_ldS hX hS dL_law_508 hf (fun hf => ?_)
      obtain ⟨v72, u73, h71, hf⟩ := bd2_some hf
      refine G_cVl (as := [.int (xs (s3 + 1).toNatClampNeg)]) (rest := [.int v69]) hX hS cvL_68 (mX8_restore w h71) (Nat.le_of_ble_eq_true rfl) kK117 (Nat.le_of_ble_eq_true rfl) (Nat.le_of_ble_eq_true rfl) rfl rfl (Nat.le_of_ble_eq_true rfl) dL_law_509 (st' := [.int v72, .int v69]) rfl ?_
      refine G_icmp_eq (tgt := 1273) hX dL_law_512 rfl hf (fun hf => ?_) (fun hf => ?_)
      · refine G_mask (lv' := [some (.ref 1000001), some (.ref 0), some (.ref 117), some (.int s3)]) [true, true, true, true] rfl rfl ?_
        exact tL_law_j1273 hX hS K0 K1 hf
      · cases hf
    rw [if_neg c33_12] at hf
    by_cases c33_13 : ((xs s3.toNatClampNeg) &&& 31) = 13
    · rw [if_pos c33_13] at hf
      refine G_tswIn (tgt := 517) hX dL_law_33 (by rw [c33_13]; decide) (by rw [c33_13]; decide) (by rw [c33_13]; rfl) rfl ?_
      refine G_aload_n hX dL_law_517 rfl ?_
      refine G_aload_n hX dL_law_518 rfl ?_
      refine G_iload_n hX dL_law_519 rfl ?_
      refine G_iconst (v := 1) hX dL_law_520 rfl ?_
      refine G_iadd hX dL_law_521 ?_
      refine G_ldS hX hS dL_law_522 hf (fun hf => ?_)
      refine G_aload_n hX dL_law_523 rfl ?_
      refine G_iload_n hX dL_law_524 rfl ?_
      refine G_iconst (v := 2) hX dL_law_525 rfl ?_
      refine G_iadd hX dL_law_526 ?_
      refine G_ldS hX hS dL_law_527 hf (fun hf => ?_)
      obtain ⟨v75, h74, hf⟩ := bd1_some hf
      refine G_cVl (as := [.int (xs (s3 + 1).toNatClampNeg), .int (xs (s3 + 2).toNatClampNeg)]) (rest := []) hX hS cvL_69 (mX7_said w h74) (Nat.le_of_ble_eq_true rfl) kK0 (Nat.le_of_ble_eq_true rfl) (Nat.le_of_ble_eq_true rfl) rfl rfl (Nat.le_of_ble_eq_true rfl) dL_law_528 (st' := [.int v75]) rfl ?_
      refine G_aload_n hX dL_law_531 rfl ?_
      refine G_aload_n hX dL_law_532 rfl ?_
      refine G_iload_n hX dL_law_533 rfl ?_
      refine G_iconst (v := 1) hX dL_law_534 rfl ?_
      refine G_iadd hX dL_law_535 ?_
      refine G_ldS hX hS dL_law_536 hf (fun hf => ?_)
      refine G_aload_n hX dL_law_537 rfl ?_
      refine G_iload_n hX dL_law_538 rfl ?_
      refine G_iconst (v := 2) hX dL_law_539 rfl ?_
      refine G_iadd hX dL_law_540 ?_
      refine G_ldS hX hS dL_law_541 hf (fun hf => ?_)
      obtain ⟨v77, h76, hf⟩ := bd1_some hf
      refine G_cVl (as := [.int (xs (s3 + 1).toNatClampNeg), .int (xs (s3 + 2).toNatClampNeg)]) (rest := [.int v75]) hX hS cvL_72 (mX8_said w h76) (Nat.le_of_ble_eq_true rfl) kK117 (Nat.le_of_ble_eq_true rfl) (Nat.le_of_ble_eq_true rfl) rfl rfl (Nat.le_of_ble_eq_true rfl) dL_law_542 (st' := [.int v77, .int v75]) rfl ?_
      refine G_icmp_eq (tgt := 1273) hX dL_law_545 rfl hf (fun hf => ?_) (fun hf => ?_)
      · refine G_mask (lv' := [some (.ref 1000001), some (.ref 0), some (.ref 117), some (.int s3)]) [true, true, true, true] rfl rfl ?_
        exact tL_law_j1273 hX hS K0 K1 hf
      · cases hf
    rw [if_neg c33_13] at hf
    by_cases c33_14 : ((xs s3.toNatClampNeg) &&& 31) = 14
    · rw [if_pos c33_14] at hf
      refine G_tswIn (tgt := 550) hX dL_law_33 (by rw [c33_14]; decide) (by rw [c33_14]; decide) (by rw [c33_14]; rfl) rfl ?_
      refine G_aload_n hX dL_law_550 rfl ?_
      refine G_aload_n hX dL_law_551 rfl ?_
      refine G_iload_n hX dL_law_552 rfl ?_
      refine G_iconst (v := 1) hX dL_law_553 rfl ?_
      refine G_iadd hX dL_law_554 ?_
      refine G_ldS hX hS dL_law_555 hf (fun hf => ?_)
      refine G_aload_n hX dL_law_556 rfl ?_
      refine G_iload_n hX dL_law_557 rfl ?_
      refine G_iconst (v := 2) hX dL_law_558 rfl ?_
      refine G_iadd hX dL_law_559 ?_
      refine G_ldS hX hS dL_law_560 hf (fun hf => ?_)
      obtain ⟨v79, h78, hf⟩ := bd1_some hf
      refine G_cVl (as := [.int (xs (s3 + 1).toNatClampNeg), .int (xs (s3 + 2).toNatClampNeg)]) (rest := []) hX hS cvL_73 (mX7_comes w h78) (Nat.le_of_ble_eq_true rfl) kK0 (Nat.le_of_ble_eq_true rfl) (Nat.le_of_ble_eq_true rfl) rfl rfl (Nat.le_of_ble_eq_true rfl) dL_law_561 (st' := [.int v79]) rfl ?_
      refine G_aload_n hX dL_law_564 rfl ?_
      refine G_aload_n hX dL_law_565 rfl ?_
      refine G_iload_n hX dL_law_566 rfl ?_
      refine G_iconst (v := 1) hX dL_law_567 rfl ?_
      refine G_iadd hX dL_law_568 ?_
      refine G_ldS hX hS dL_law_569 hf (fun hf => ?_)
      refine G_aload_n hX dL_law_570 rfl ?_
      refine G_iload_n hX dL_law_571 rfl ?_
      refine G_iconst (v := 2) hX dL_law_572 rfl ?_
      refine G_iadd hX dL_law_573 ?_
      refine G_ldS hX hS dL_law_574 hf (fun hf => ?_)
      obtain ⟨v81, h80, hf⟩ := bd1_some hf
      refine G_cVl (as := [.int (xs (s3 + 1).toNatClampNeg), .int (xs (s3 + 2).toNatClampNeg)]) (rest := [.int v79]) hX hS cvL_76 (mX8_comes w h80) (Nat.le_of_ble_eq_true rfl) kK117 (Nat.le_of_ble_eq_true rfl) (Nat.le_of_ble_eq_true rfl) rfl rfl (Nat.le_of_ble_eq_true rfl) dL_law_575 (st' := [.int v81, .int v79]) rfl ?_
      refine G_icmp_eq (tgt := 1273) hX dL_law_578 rfl hf (fun hf => ?_) (fun hf => ?_)
      · refine G_mask (lv' := [some (.ref 1000001), some (.ref 0), some (.ref 117), some (.int s3)]) [true, true, true, true] rfl rfl ?_
        exact tL_law_j1273 hX hS K0 K1 hf
      · cases hf
    rw [if_neg c33_14] at hf
    by_cases c33_15 : ((xs s3.toNatClampNeg) &&& 31) = 15
    · rw [if_pos c33_15] at hf
      refine G_tswIn (tgt := 583) hX dL_law_33 (by rw [c33_15]; decide) (by rw [c33_15]; decide) (by rw [c33_15]; rfl) rfl ?_
      refine G_aload_n hX dL_law_583 rfl ?_
      refine G_aload_n hX dL_law_584 rfl ?_
      refine G_iload_n hX dL_law_585 rfl ?_
      refine G_iconst (v := 1) hX dL_law_586 rfl ?_
      refine G_iadd hX dL_law_587 ?_
      refine G_ldS hX hS dL_law_588 hf (fun hf => ?_)
      refine G_aload_n hX dL_law_589 rfl ?_
      refine G_iload_n hX dL_law_590 rfl ?_
      refine G_iconst (v := 2) hX dL_law_591 rfl ?_
      refine G_iadd hX dL_law_592 ?_
      refine G_ldS hX hS dL_law_593 hf (fun hf => ?_)
      obtain ⟨v83, h82, hf⟩ := bd1_some hf
      refine G_cVl (as := [.int (xs (s3 + 1).toNatClampNeg), .int (xs (s3 + 2).toNatClampNeg)]) (rest := []) hX hS cvL_77 (mX7_least w h82) (Nat.le_of_ble_eq_true rfl) kK0 (Nat.le_of_ble_eq_true rfl) (Nat.le_of_ble_eq_true rfl) rfl rfl (Nat.le_of_ble_eq_true rfl) dL_law_594 (st' := [.int v83]) rfl ?_
      refine G_aload_n hX dL_law_597 rfl ?_
      refine G_aload_n hX dL_law_598 rfl ?_
      refine G_iload_n hX dL_law_599 rfl ?_
      refine G_iconst (v := 1) hX dL_law_600 rfl ?_
      refine G_iadd hX dL_law_601 ?_
      refine G_ldS hX hS dL_law_602 hf (fun hf => ?_)
      refine G_aload_n hX dL_law_603 rfl ?_
      refine G_iload_n hX dL_law_604 rfl ?_
      refine G_iconst (v := 2) hX dL_law_605 rfl ?_
      refine G_iadd hX dL_law_606 ?_
      refine G_ldS hX hS dL_law_607 hf (fun hf => ?_)
      obtain ⟨v85, u86, h84, hf⟩ := bd2_some hf
      refine G_cVl (as := [.int (xs (s3 + 1).toNatClampNeg), .int (xs (s3 + 2).toNatClampNeg)]) (rest := [.int v83]) hX hS cvL_80 (mX8_least w h84) (Nat.le_of_ble_eq_true rfl) kK117 (Nat.le_of_ble_eq_true rfl) (Nat.le_of_ble_eq_true rfl) rfl rfl (Nat.le_of_ble_eq_true rfl) dL_law_608 (st' := [.int v85, .int v83]) rfl ?_
      refine G_icmp_eq (tgt := 1273) hX dL_law_611 rfl hf (fun hf => ?_) (fun hf => ?_)
      · refine G_mask (lv' := [some (.ref 1000001), some (.ref 0), some (.ref 117), some (.int s3)]) [true, true, true, true] rfl rfl ?_
        exact tL_law_j1273 hX hS K0 K1 hf
      · cases hf
    rw [if_neg c33_15] at hf
    by_cases c33_16 : ((xs s3.toNatClampNeg) &&& 31) = 16
    · rw [if_pos c33_16] at hf
      refine G_tswIn (tgt := 616) hX dL_law_33 (by rw [c33_16]; decide) (by rw [c33_16]; decide) (by rw [c33_16]; rfl) rfl ?_
      refine G_aload_n hX dL_law_616 rfl ?_
      refine G_aload_n hX dL_law_617 rfl ?_
      refine G_iload_n hX dL_law_618 rfl ?_
      refine G_iconst (v := 1) hX dL_law_619 rfl ?_
      refine G_iadd hX dL_law_620 ?_
      refine G_ldS hX hS dL_law_621 hf (fun hf => ?_)
      obtain ⟨v88, u89, h87, hf⟩ := bd2_some hf
      refine G_cVl (as := [.int (xs (s3 + 1).toNatClampNeg)]) (rest := []) hX hS cvL_81 (mX7_match w h87) (Nat.le_of_ble_eq_true rfl) kK0 (Nat.le_of_ble_eq_true rfl) (Nat.le_of_ble_eq_true rfl) rfl rfl (Nat.le_of_ble_eq_true rfl) dL_law_622 (st' := [.int v88]) rfl ?_
      refine G_aload_n hX dL_law_625 rfl ?_
      refine G_aload_n hX dL_law_626 rfl ?_
      refine G_iload_n hX dL_law_627 rfl ?_
      refine G_iconst (v := 1) hX dL_law_628 rfl ?_
      refine G_iadd hX dL_law_629 ?_
      refine G_ldS hX hS dL_law_630 hf (fun hf => ?_)
      obtain ⟨v91, u92, h90, hf⟩ := bd2_some hf
      refine G_cVl (as := [.int (xs (s3 + 1).toNatClampNeg)]) (rest := [.int v88]) hX hS cvL_84 (mX8_match w h90) (Nat.le_of_ble_eq_true rfl) kK117 (Nat.le_of_ble_eq_true rfl) (Nat.le_of_ble_eq_true rfl) rfl rfl (Nat.le_of_ble_eq_true rfl) dL_law_631 (st' := [.int v91, .int v88]) rfl ?_
      refine G_icmp_eq (tgt := 1273) hX dL_law_634 rfl hf (fun hf => ?_) (fun hf => ?_)
      · refine G_mask (lv' := [some (.ref 1000001), some (.ref 0), some (.ref 117), some (.int s3)]) [true, true, true, true] rfl rfl ?_
        exact tL_law_j1273 hX hS K0 K1 hf
      · cases hf
    rw [if_neg c33_16] at hf
    by_cases c33_17 : ((xs s3.toNatClampNeg) &&& 31) = 17
    · rw [if_pos c33_17] at hf
      refine G_tswIn (tgt := 639) hX dL_law_33 (by rw [c33_17]; decide) (by rw [c33_17]; decide) (by rw [c33_17]; rfl) rfl ?_
      refine G_aload_n hX dL_law_639 rfl ?_
      refine G_aload_n hX dL_law_640 rfl ?_
      refine G_iload_n hX dL_law_641 rfl ?_
      refine G_iconst (v := 1) hX dL_law_642 rfl ?_
      refine G_iadd hX dL_law_643 ?_
      refine G_ldS hX hS dL_law_644 hf (fun hf => ?_)
      refine G_aload_n hX dL_law_645 rfl ?_
      refine G_iload_n hX dL_law_646 rfl ?_
      refine G_iconst (v := 2) hX dL_law_647 rfl ?_
      refine G_iadd hX dL_law_648 ?_
      refine G_ldS hX hS dL_law_649 hf (fun hf => ?_)
      obtain ⟨v94, h93, hf⟩ := bd1_some hf
      refine G_cVl (as := [.int (xs (s3 + 1).toNatClampNeg), .int (xs (s3 + 2).toNatClampNeg)]) (rest := []) hX hS cvL_85 (mX7_chain w h93) (Nat.le_of_ble_eq_true rfl) kK0 (Nat.le_of_ble_eq_true rfl) (Nat.le_of_ble_eq_true rfl) rfl rfl (Nat.le_of_ble_eq_true rfl) dL_law_650 (st' := [.int v94]) rfl ?_
      refine G_aload_n hX dL_law_653 rfl ?_
      refine G_aload_n hX dL_law_654 rfl ?_
      refine G_iload_n hX dL_law_655 rfl ?_
      refine G_iconst (v := 1) hX dL_law_656 rfl ?_
      refine G_iadd hX dL_law_657 ?_
      refine G_ldS hX hS dL_law_658 hf (fun hf => ?_)
      refine G_aload_n hX dL_law_659 rfl ?_
      refine G_iload_n hX dL_law_660 rfl ?_
      refine G_iconst (v := 2) hX dL_law_661 rfl ?_
      refine G_iadd hX dL_law_662 ?_
      refine G_ldS hX hS dL_law_663 hf (fun hf => ?_)
      obtain ⟨v96, h95, hf⟩ := bd1_some hf
      refine G_cVl (as := [.int (xs (s3 + 1).toNatClampNeg), .int (xs (s3 + 2).toNatClampNeg)]) (rest := [.int v94]) hX hS cvL_88 (mX8_chain w h95) (Nat.le_of_ble_eq_true rfl) kK117 (Nat.le_of_ble_eq_true rfl) (Nat.le_of_ble_eq_true rfl) rfl rfl (Nat.le_of_ble_eq_true rfl) dL_law_664 (st' := [.int v96, .int v94]) rfl ?_
      refine G_icmp_eq (tgt := 1273) hX dL_law_667 rfl hf (fun hf => ?_) (fun hf => ?_)
      · refine G_mask (lv' := [some (.ref 1000001), some (.ref 0), some (.ref 117), some (.int s3)]) [true, true, true, true] rfl rfl ?_
        exact tL_law_j1273 hX hS K0 K1 hf
      · cases hf
    rw [if_neg c33_17] at hf
    by_cases c33_18 : ((xs s3.toNatClampNeg) &&& 31) = 18
    · rw [if_pos c33_18] at hf
      refine G_tswIn (tgt := 672) hX dL_law_33 (by rw [c33_18]; decide) (by rw [c33_18]; decide) (by rw [c33_18]; rfl) rfl ?_
      refine G_aload_n hX dL_law_672 rfl ?_
      refine G_aload_n hX dL_law_673 rfl ?_
      refine G_iload_n hX dL_law_674 rfl ?_
      refine G_iconst (v := 1) hX dL_law_675 rfl ?_
      refine G_iadd hX dL_law_676 ?_
      refine G_ldS hX hS dL_law_677 hf (fun hf => ?_)
      refine G_aload_n hX dL_law_678 rfl ?_
      refine G_iload_n hX dL_law_679 rfl ?_
      refine G_iconst (v := 2) hX dL_law_680 rfl ?_
      refine G_iadd hX dL_law_681 ?_
      refine G_ldS hX hS dL_law_682 hf (fun hf => ?_)
      obtain ⟨v98, h97, hf⟩ := bd1_some hf
      refine G_cVl (as := [.int (xs (s3 + 1).toNatClampNeg), .int (xs (s3 + 2).toNatClampNeg)]) (rest := []) hX hS cvL_89 (mX7_reach w h97) (Nat.le_of_ble_eq_true rfl) kK0 (Nat.le_of_ble_eq_true rfl) (Nat.le_of_ble_eq_true rfl) rfl rfl (Nat.le_of_ble_eq_true rfl) dL_law_683 (st' := [.int v98]) rfl ?_
      refine G_aload_n hX dL_law_686 rfl ?_
      refine G_aload_n hX dL_law_687 rfl ?_
      refine G_iload_n hX dL_law_688 rfl ?_
      refine G_iconst (v := 1) hX dL_law_689 rfl ?_
      refine G_iadd hX dL_law_690 ?_
      refine G_ldS hX hS dL_law_691 hf (fun hf => ?_)
      refine G_aload_n hX dL_law_692 rfl ?_
      refine G_iload_n hX dL_law_693 rfl ?_
      refine G_iconst (v := 2) hX dL_law_694 rfl ?_
      refine G_iadd hX dL_law_695 ?_
      refine G_ldS hX hS dL_law_696 hf (fun hf => ?_)
      obtain ⟨v100, u101, h99, hf⟩ := bd2_some hf
      refine G_cVl (as := [.int (xs (s3 + 1).toNatClampNeg), .int (xs (s3 + 2).toNatClampNeg)]) (rest := [.int v98]) hX hS cvL_92 (mX8_reach w h99) (Nat.le_of_ble_eq_true rfl) kK117 (Nat.le_of_ble_eq_true rfl) (Nat.le_of_ble_eq_true rfl) rfl rfl (Nat.le_of_ble_eq_true rfl) dL_law_697 (st' := [.int v100, .int v98]) rfl ?_
      refine G_icmp_eq (tgt := 1273) hX dL_law_700 rfl hf (fun hf => ?_) (fun hf => ?_)
      · refine G_mask (lv' := [some (.ref 1000001), some (.ref 0), some (.ref 117), some (.int s3)]) [true, true, true, true] rfl rfl ?_
        exact tL_law_j1273 hX hS K0 K1 hf
      · cases hf
    rw [if_neg c33_18] at hf
    by_cases c33_19 : ((xs s3.toNatClampNeg) &&& 31) = 19
    · rw [if_pos c33_19] at hf
      refine G_tswIn (tgt := 705) hX dL_law_33 (by rw [c33_19]; decide) (by rw [c33_19]; decide) (by rw [c33_19]; rfl) rfl ?_
      refine G_aload_n hX dL_law_705 rfl ?_
      refine G_aload_n hX dL_law_706 rfl ?_
      refine G_iload_n hX dL_law_707 rfl ?_
      refine G_iconst (v := 1) hX dL_law_708 rfl ?_
      refine G_iadd hX dL_law_709 ?_
      refine G_ldS hX hS dL_law_710 hf (fun hf => ?_)
      refine G_aload_n hX dL_law_711 rfl ?_
      refine G_iload_n hX dL_law_712 rfl ?_
      refine G_iconst (v := 2) hX dL_law_713 rfl ?_
      refine G_iadd hX dL_law_714 ?_
      refine G_ldS hX hS dL_law_715 hf (fun hf => ?_)
      obtain ⟨v103, u104, h102, hf⟩ := bd2_some hf
      refine G_cVl (as := [.int (xs (s3 + 1).toNatClampNeg), .int (xs (s3 + 2).toNatClampNeg)]) (rest := []) hX hS cvL_93 (mX7_plan w h102) (Nat.le_of_ble_eq_true rfl) kK0 (Nat.le_of_ble_eq_true rfl) (Nat.le_of_ble_eq_true rfl) rfl rfl (Nat.le_of_ble_eq_true rfl) dL_law_716 (st' := [.int v103]) rfl ?_
      refine G_aload_n hX dL_law_719 rfl ?_
      refine G_aload_n hX dL_law_720 rfl ?_
      refine G_iload_n hX dL_law_721 rfl ?_
      refine G_iconst (v := 1) hX dL_law_722 rfl ?_
      refine G_iadd hX dL_law_723 ?_
      refine G_ldS hX hS dL_law_724 hf (fun hf => ?_)
      refine G_aload_n hX dL_law_725 rfl ?_
      refine G_iload_n hX dL_law_726 rfl ?_
      refine G_iconst (v := 2) hX dL_law_727 rfl ?_
      refine G_iadd hX dL_law_728 ?_
      refine G_ldS hX hS dL_law_729 hf (fun hf => ?_)
      obtain ⟨v106, u107, h105, hf⟩ := bd2_some hf
      refine G_cVl (as := [.int (xs (s3 + 1).toNatClampNeg), .int (xs (s3 + 2).toNatClampNeg)]) (rest := [.int v103]) hX hS cvL_96 (mX8_plan w h105) (Nat.le_of_ble_eq_true rfl) kK117 (Nat.le_of_ble_eq_true rfl) (Nat.le_of_ble_eq_true rfl) rfl rfl (Nat.le_of_ble_eq_true rfl) dL_law_730 (st' := [.int v106, .int v103]) rfl ?_
      refine G_icmp_eq (tgt := 1273) hX dL_law_733 rfl hf (fun hf => ?_) (fun hf => ?_)
      · refine G_mask (lv' := [some (.ref 1000001), some (.ref 0), some (.ref 117), some (.int s3)]) [true, true, true, true] rfl rfl ?_
        exact tL_law_j1273 hX hS K0 K1 hf
      · cases hf
    rw [if_neg c33_19] at hf
    by_cases c33_20 : ((xs s3.toNatClampNeg) &&& 31) = 20
    · rw [if_pos c33_20] at hf
      refine G_tswIn (tgt := 738) hX dL_law_33 (by rw [c33_20]; decide) (by rw [c33_20]; decide) (by rw [c33_20]; rfl) rfl ?_
      refine G_aload_n hX dL_law_738 rfl ?_
      refine G_aload_n hX dL_law_739 rfl ?_
      refine G_iload_n hX dL_law_740 rfl ?_
      refine G_iconst (v := 1) hX dL_law_741 rfl ?_
      refine G_iadd hX dL_law_742 ?_
      refine G_ldS hX hS dL_law_743 hf (fun hf => ?_)
      refine G_aload_n hX dL_law_744 rfl ?_
      refine G_iload_n hX dL_law_745 rfl ?_
      refine G_iconst (v := 2) hX dL_law_746 rfl ?_
      refine G_iadd hX dL_law_747 ?_
      refine G_ldS hX hS dL_law_748 hf (fun hf => ?_)
      refine G_aload_n hX dL_law_749 rfl ?_
      refine G_iload_n hX dL_law_750 rfl ?_
      refine G_iconst (v := 3) hX dL_law_751 rfl ?_
      refine G_iadd hX dL_law_752 ?_
      refine G_ldS hX hS dL_law_753 hf (fun hf => ?_)
      refine G_aload_n hX dL_law_754 rfl ?_
      refine G_iload_n hX dL_law_755 rfl ?_
      refine G_iconst (v := 4) hX dL_law_756 rfl ?_
      refine G_iadd hX dL_law_757 ?_
      refine G_ldS hX hS dL_law_758 hf (fun hf => ?_)
      obtain ⟨v109, h108, hf⟩ := bd1_some hf
      refine G_cVl (as := [.int (xs (s3 + 1).toNatClampNeg), .int (xs (s3 + 2).toNatClampNeg), .int (xs (s3 + 3).toNatClampNeg), .int (xs (s3 + 4).toNatClampNeg)]) (rest := []) hX hS cvL_97 (mX7_gusts w h108) (Nat.le_of_ble_eq_true rfl) kK0 (Nat.le_of_ble_eq_true rfl) (Nat.le_of_ble_eq_true rfl) rfl rfl (Nat.le_of_ble_eq_true rfl) dL_law_759 (st' := [.int v109]) rfl ?_
      refine G_aload_n hX dL_law_762 rfl ?_
      refine G_aload_n hX dL_law_763 rfl ?_
      refine G_iload_n hX dL_law_764 rfl ?_
      refine G_iconst (v := 1) hX dL_law_765 rfl ?_
      refine G_iadd hX dL_law_766 ?_
      refine G_ldS hX hS dL_law_767 hf (fun hf => ?_)
      refine G_aload_n hX dL_law_768 rfl ?_
      refine G_iload_n hX dL_law_769 rfl ?_
      refine G_iconst (v := 2) hX dL_law_770 rfl ?_
      refine G_iadd hX dL_law_771 ?_
      refine G_ldS hX hS dL_law_772 hf (fun hf => ?_)
      refine G_aload_n hX dL_law_773 rfl ?_
      refine G_iload_n hX dL_law_774 rfl ?_
      refine G_iconst (v := 3) hX dL_law_775 rfl ?_
      refine G_iadd hX dL_law_776 ?_
      refine G_ldS hX hS dL_law_777 hf (fun hf => ?_)
      refine G_aload_n hX dL_law_778 rfl ?_
      refine G_iload_n hX dL_law_779 rfl ?_
      refine G_iconst (v := 4) hX dL_law_780 rfl ?_
      refine G_iadd hX dL_law_781 ?_
      refine G_ldS hX hS dL_law_782 hf (fun hf => ?_)
      obtain ⟨v111, h110, hf⟩ := bd1_some hf
      refine G_cVl (as := [.int (xs (s3 + 1).toNatClampNeg), .int (xs (s3 + 2).toNatClampNeg), .int (xs (s3 + 3).toNatClampNeg), .int (xs (s3 + 4).toNatClampNeg)]) (rest := [.int v109]) hX hS cvL_101 (mX8_gusts w h110) (Nat.le_of_ble_eq_true rfl) kK117 (Nat.le_of_ble_eq_true rfl) (Nat.le_of_ble_eq_true rfl) rfl rfl (Nat.le_of_ble_eq_true rfl) dL_law_783 (st' := [.int v111, .int v109]) rfl ?_
      refine G_icmp_eq (tgt := 1273) hX dL_law_786 rfl hf (fun hf => ?_) (fun hf => ?_)
      · refine G_mask (lv' := [some (.ref 1000001), some (.ref 0), some (.ref 117), some (.int s3)]) [true, true, true, true] rfl rfl ?_
        exact tL_law_j1273 hX hS K0 K1 hf
      · cases hf
    rw [if_neg c33_20] at hf
    by_cases c33_21 : ((xs s3.toNatClampNeg) &&& 31) = 21
    · rw [if_pos c33_21] at hf
      refine G_tswIn (tgt := 791) hX dL_law_33 (by rw [c33_21]; decide) (by rw [c33_21]; decide) (by rw [c33_21]; rfl) rfl ?_
      refine G_aload_n hX dL_law_791 rfl ?_
      refine G_aload_n hX dL_law_792 rfl ?_
      refine G_iload_n hX dL_law_793 rfl ?_
      refine G_iconst (v := 1) hX dL_law_794 rfl ?_
      refine G_iadd hX dL_law_795 ?_
      refine G_ldS hX hS dL_law_796 hf (fun hf => ?_)
      refine G_aload_n hX dL_law_797 rfl ?_
      refine G_iload_n hX dL_law_798 rfl ?_
      refine G_iconst (v := 2) hX dL_law_799 rfl ?_
      refine G_iadd hX dL_law_800 ?_
      refine G_ldS hX hS dL_law_801 hf (fun hf => ?_)
      refine G_aload_n hX dL_law_802 rfl ?_
      refine G_iload_n hX dL_law_803 rfl ?_
      refine G_iconst (v := 3) hX dL_law_804 rfl ?_
      refine G_iadd hX dL_law_805 ?_
      refine G_ldS hX hS dL_law_806 hf (fun hf => ?_)
      obtain ⟨v113, u114, h112, hf⟩ := bd2_some hf
      refine G_cVl (as := [.int (xs (s3 + 1).toNatClampNeg), .int (xs (s3 + 2).toNatClampNeg), .int (xs (s3 + 3).toNatClampNeg)]) (rest := []) hX hS cvL_102 (mX7_decades w h112) (Nat.le_of_ble_eq_true rfl) kK0 (Nat.le_of_ble_eq_true rfl) (Nat.le_of_ble_eq_true rfl) rfl rfl (Nat.le_of_ble_eq_true rfl) dL_law_807 (st' := [.int v113]) rfl ?_
      refine G_aload_n hX dL_law_810 rfl ?_
      refine G_aload_n hX dL_law_811 rfl ?_
      refine G_iload_n hX dL_law_812 rfl ?_
      refine G_iconst (v := 1) hX dL_law_813 rfl ?_
      refine G_iadd hX dL_law_814 ?_
      refine G_ldS hX hS dL_law_815 hf (fun hf => ?_)
      refine G_aload_n hX dL_law_816 rfl ?_
      refine G_iload_n hX dL_law_817 rfl ?_
      refine G_iconst (v := 2) hX dL_law_818 rfl ?_
      refine G_iadd hX dL_law_819 ?_
      refine G_ldS hX hS dL_law_820 hf (fun hf => ?_)
      refine G_aload_n hX dL_law_821 rfl ?_
      refine G_iload_n hX dL_law_822 rfl ?_
      refine G_iconst (v := 3) hX dL_law_823 rfl ?_
      refine G_iadd hX dL_law_824 ?_
      refine G_ldS hX hS dL_law_825 hf (fun hf => ?_)
      obtain ⟨v116, u117, h115, hf⟩ := bd2_some hf
      refine G_cVl (as := [.int (xs (s3 + 1).toNatClampNeg), .int (xs (s3 + 2).toNatClampNeg), .int (xs (s3 + 3).toNatClampNeg)]) (rest := [.int v113]) hX hS cvL_105 (mX8_decades w h115) (Nat.le_of_ble_eq_true rfl) kK117 (Nat.le_of_ble_eq_true rfl) (Nat.le_of_ble_eq_true rfl) rfl rfl (Nat.le_of_ble_eq_true rfl) dL_law_826 (st' := [.int v116, .int v113]) rfl ?_
      refine G_icmp_eq (tgt := 1273) hX dL_law_829 rfl hf (fun hf => ?_) (fun hf => ?_)
      · refine G_mask (lv' := [some (.ref 1000001), some (.ref 0), some (.ref 117), some (.int s3)]) [true, true, true, true] rfl rfl ?_
        exact tL_law_j1273 hX hS K0 K1 hf
      · cases hf
    rw [if_neg c33_21] at hf
    by_cases c33_22 : ((xs s3.toNatClampNeg) &&& 31) = 22
    · rw [if_pos c33_22] at hf
      refine G_tswIn (tgt := 834) hX dL_law_33 (by rw [c33_22]; decide) (by rw [c33_22]; decide) (by rw [c33_22]; rfl) rfl ?_
      refine G_aload_n hX dL_law_834 rfl ?_
      refine G_aload_n hX dL_law_835 rfl ?_
      refine G_iload_n hX dL_law_836 rfl ?_
      refine G_iconst (v := 1) hX dL_law_837 rfl ?_
      refine G_iadd hX dL_law_838 ?_
      refine G_ldS hX hS dL_law_839 hf (fun hf => ?_)
      refine G_aload_n hX dL_law_840 rfl ?_
      refine G_iload_n hX dL_law_841 rfl ?_
      refine G_iconst (v := 2) hX dL_law_842 rfl ?_
      refine G_iadd hX dL_law_843 ?_
      refine G_ldS hX hS dL_law_844 hf (fun hf => ?_)
      refine G_aload_n hX dL_law_845 rfl ?_
      refine G_iload_n hX dL_law_846 rfl ?_
      refine G_iconst (v := 3) hX dL_law_847 rfl ?_
      refine G_iadd hX dL_law_848 ?_
      refine G_ldS hX hS dL_law_849 hf (fun hf => ?_)
      obtain ⟨v119, u120, h118, hf⟩ := bd2_some hf
      refine G_cVl (as := [.int (xs (s3 + 1).toNatClampNeg), .int (xs (s3 + 2).toNatClampNeg), .int (xs (s3 + 3).toNatClampNeg)]) (rest := []) hX hS cvL_106 (mX7_sheet w h118) (Nat.le_of_ble_eq_true rfl) kK0 (Nat.le_of_ble_eq_true rfl) (Nat.le_of_ble_eq_true rfl) rfl rfl (Nat.le_of_ble_eq_true rfl) dL_law_850 (st' := [.int v119]) rfl ?_
      refine G_aload_n hX dL_law_853 rfl ?_
      refine G_aload_n hX dL_law_854 rfl ?_
      refine G_iload_n hX dL_law_855 rfl ?_
      refine G_iconst (v := 1) hX dL_law_856 rfl ?_
      refine G_iadd hX dL_law_857 ?_
      refine G_ldS hX hS dL_law_858 hf (fun hf => ?_)
      refine G_aload_n hX dL_law_859 rfl ?_
      refine G_iload_n hX dL_law_860 rfl ?_
      refine G_iconst (v := 2) hX dL_law_861 rfl ?_
      refine G_iadd hX dL_law_862 ?_
      refine G_ldS hX hS dL_law_863 hf (fun hf => ?_)
      refine G_aload_n hX dL_law_864 rfl ?_
      refine G_iload_n hX dL_law_865 rfl ?_
      refine G_iconst (v := 3) hX dL_law_866 rfl ?_
      refine G_iadd hX dL_law_867 ?_
      refine G_ldS hX hS dL_law_868 hf (fun hf => ?_)
      obtain ⟨v122, u123, h121, hf⟩ := bd2_some hf
      refine G_cVl (as := [.int (xs (s3 + 1).toNatClampNeg), .int (xs (s3 + 2).toNatClampNeg), .int (xs (s3 + 3).toNatClampNeg)]) (rest := [.int v119]) hX hS cvL_109 (mX8_sheet w h121) (Nat.le_of_ble_eq_true rfl) kK117 (Nat.le_of_ble_eq_true rfl) (Nat.le_of_ble_eq_true rfl) rfl rfl (Nat.le_of_ble_eq_true rfl) dL_law_869 (st' := [.int v122, .int v119]) rfl ?_
      refine G_icmp_eq (tgt := 1273) hX dL_law_872 rfl hf (fun hf => ?_) (fun hf => ?_)
      · refine G_mask (lv' := [some (.ref 1000001), some (.ref 0), some (.ref 117), some (.int s3)]) [true, true, true, true] rfl rfl ?_
        exact tL_law_j1273 hX hS K0 K1 hf
      · cases hf
    rw [if_neg c33_22] at hf
    by_cases c33_23 : ((xs s3.toNatClampNeg) &&& 31) = 23
    · rw [if_pos c33_23] at hf
      refine G_tswIn (tgt := 877) hX dL_law_33 (by rw [c33_23]; decide) (by rw [c33_23]; decide) (by rw [c33_23]; rfl) rfl ?_
      refine G_aload_n hX dL_law_877 rfl ?_
      refine G_aload_n hX dL_law_878 rfl ?_
      refine G_iload_n hX dL_law_879 rfl ?_
      refine G_iconst (v := 1) hX dL_law_880 rfl ?_
      refine G_iadd hX dL_law_881 ?_
      refine G_ldS hX hS dL_law_882 hf (fun hf => ?_)
      obtain ⟨v125, u126, h124, hf⟩ := bd2_some hf
      refine G_cVl (as := [.int (xs (s3 + 1).toNatClampNeg)]) (rest := []) hX hS cvL_110 (mX7_drop w h124) (Nat.le_of_ble_eq_true rfl) kK0 (Nat.le_of_ble_eq_true rfl) (Nat.le_of_ble_eq_true rfl) rfl rfl (Nat.le_of_ble_eq_true rfl) dL_law_883 (st' := [.int v125]) rfl ?_
      refine G_aload_n hX dL_law_886 rfl ?_
      refine G_aload_n hX dL_law_887 rfl ?_
      refine G_iload_n hX dL_law_888 rfl ?_
      refine G_iconst (v := 1) hX dL_law_889 rfl ?_
      refine G_iadd hX dL_law_890 ?_
      refine G_ldS hX hS dL_law_891 hf (fun hf => ?_)
      obtain ⟨v128, u129, h127, hf⟩ := bd2_some hf
      refine G_cVl (as := [.int (xs (s3 + 1).toNatClampNeg)]) (rest := [.int v125]) hX hS cvL_113 (mX8_drop w h127) (Nat.le_of_ble_eq_true rfl) kK117 (Nat.le_of_ble_eq_true rfl) (Nat.le_of_ble_eq_true rfl) rfl rfl (Nat.le_of_ble_eq_true rfl) dL_law_892 (st' := [.int v128, .int v125]) rfl ?_
      refine G_icmp_eq (tgt := 1273) hX dL_law_895 rfl hf (fun hf => ?_) (fun hf => ?_)
      · refine G_mask (lv' := [some (.ref 1000001), some (.ref 0), some (.ref 117), some (.int s3)]) [true, true, true, true] rfl rfl ?_
        exact tL_law_j1273 hX hS K0 K1 hf
      · cases hf
    rw [if_neg c33_23] at hf
    by_cases c33_24 : ((xs s3.toNatClampNeg) &&& 31) = 24
    · rw [if_pos c33_24] at hf
      refine G_tswIn (tgt := 900) hX dL_law_33 (by rw [c33_24]; decide) (by rw [c33_24]; decide) (by rw [c33_24]; rfl) rfl ?_
      refine G_aload_n hX dL_law_900 rfl ?_
      refine G_aload_n hX dL_law_901 rfl ?_
      refine G_iload_n hX dL_law_902 rfl ?_
      refine G_iconst (v := 1) hX dL_law_903 rfl ?_
      refine G_iadd hX dL_law_904 ?_
      refine G_ldS hX hS dL_law_905 hf (fun hf => ?_)
      refine G_aload_n hX dL_law_906 rfl ?_
      refine G_iload_n hX dL_law_907 rfl ?_
      refine G_iconst (v := 2) hX dL_law_908 rfl ?_
      refine G_iadd hX dL_law_909 ?_
      refine G_ldS hX hS dL_law_910 hf (fun hf => ?_)
      refine G_aload_n hX dL_law_911 rfl ?_
      refine G_iload_n hX dL_law_912 rfl ?_
      refine G_iconst (v := 3) hX dL_law_913 rfl ?_
      refine G_iadd hX dL_law_914 ?_
      refine G_ldS hX hS dL_law_915 hf (fun hf => ?_)
      refine G_aload_n hX dL_law_916 rfl ?_
      refine G_iload_n hX dL_law_917 rfl ?_
      refine G_iconst (v := 4) hX dL_law_918 rfl ?_
      refine G_iadd hX dL_law_919 ?_
      refine G_ldS hX hS dL_law_920 hf (fun hf => ?_)
      refine G_i2l hX dL_law_921 ?_
      refine G_bipush (v := 32) hX dL_law_922 rfl ?_
      refine G_lshl hX dL_law_924 ?_
      refine G_aload_n hX dL_law_925 rfl ?_
      refine G_iload_n hX dL_law_926 rfl ?_
      refine G_iconst (v := 5) hX dL_law_927 rfl ?_
      refine G_iadd hX dL_law_928 ?_
      refine G_ldS hX hS dL_law_929 hf (fun hf => ?_)
      refine G_i2l hX dL_law_930 ?_
      refine G_ldc2 (v := 4294967295) hX dL_law_931 wJ_L_114 ?_
      refine G_land hX dL_law_934 ?_
      refine G_lor hX dL_law_935 ?_
      obtain ⟨v131, u132, h130, hf⟩ := bd2_some hf
      refine G_cVl (as := [.int (xs (s3 + 1).toNatClampNeg), .int (xs (s3 + 2).toNatClampNeg), .int (xs (s3 + 3).toNatClampNeg), .long (((((xs (s3 + 4).toNatClampNeg) : Int32).toInt64) <<< ((32 : Int32).toInt64 &&& 63)) ||| ((((xs (s3 + 5).toNatClampNeg) : Int32).toInt64) &&& 4294967295))]) (rest := []) hX hS cvL_116 (mX7_item w h130) (Nat.le_of_ble_eq_true rfl) kK0 (Nat.le_of_ble_eq_true rfl) (Nat.le_of_ble_eq_true rfl) rfl rfl (Nat.le_of_ble_eq_true rfl) dL_law_936 (st' := [.long v131]) rfl ?_
      refine G_aload_n hX dL_law_939 rfl ?_
      refine G_aload_n hX dL_law_940 rfl ?_
      refine G_iload_n hX dL_law_941 rfl ?_
      refine G_iconst (v := 1) hX dL_law_942 rfl ?_
      refine G_iadd hX dL_law_943 ?_
      refine G_ldS hX hS dL_law_944 hf (fun hf => ?_)
      refine G_aload_n hX dL_law_945 rfl ?_
      refine G_iload_n hX dL_law_946 rfl ?_
      refine G_iconst (v := 2) hX dL_law_947 rfl ?_
      refine G_iadd hX dL_law_948 ?_
      refine G_ldS hX hS dL_law_949 hf (fun hf => ?_)
      refine G_aload_n hX dL_law_950 rfl ?_
      refine G_iload_n hX dL_law_951 rfl ?_
      refine G_iconst (v := 3) hX dL_law_952 rfl ?_
      refine G_iadd hX dL_law_953 ?_
      refine G_ldS hX hS dL_law_954 hf (fun hf => ?_)
      refine G_aload_n hX dL_law_955 rfl ?_
      refine G_iload_n hX dL_law_956 rfl ?_
      refine G_iconst (v := 4) hX dL_law_957 rfl ?_
      refine G_iadd hX dL_law_958 ?_
      refine G_ldS hX hS dL_law_959 hf (fun hf => ?_)
      refine G_i2l hX dL_law_960 ?_
      refine G_bipush (v := 32) hX dL_law_961 rfl ?_
      refine G_lshl hX dL_law_963 ?_
      refine G_aload_n hX dL_law_964 rfl ?_
      refine G_iload_n hX dL_law_965 rfl ?_
      refine G_iconst (v := 5) hX dL_law_966 rfl ?_
      refine G_iadd hX dL_law_967 ?_
      refine G_ldS hX hS dL_law_968 hf (fun hf => ?_)
      refine G_i2l hX dL_law_969 ?_
      refine G_ldc2 (v := 4294967295) hX dL_law_970 wJ_L_114 ?_
      refine G_land hX dL_law_973 ?_
      refine G_lor hX dL_law_974 ?_
      obtain ⟨v134, u135, h133, hf⟩ := bd2_some hf
      refine G_cVl (as := [.int (xs (s3 + 1).toNatClampNeg), .int (xs (s3 + 2).toNatClampNeg), .int (xs (s3 + 3).toNatClampNeg), .long (((((xs (s3 + 4).toNatClampNeg) : Int32).toInt64) <<< ((32 : Int32).toInt64 &&& 63)) ||| ((((xs (s3 + 5).toNatClampNeg) : Int32).toInt64) &&& 4294967295))]) (rest := [.long v131]) hX hS cvL_120 (mX8_item w h133) (Nat.le_of_ble_eq_true rfl) kK117 (Nat.le_of_ble_eq_true rfl) (Nat.le_of_ble_eq_true rfl) rfl rfl (Nat.le_of_ble_eq_true rfl) dL_law_975 (st' := [.long v134, .long v131]) rfl ?_
      refine G_lcmp hX dL_law_978 ?_
      refine G_if_eq (tgt := 1273) hX dL_law_979 rfl hf (fun hf => ?_) (fun hf => ?_)
      · refine G_mask (lv' := [some (.ref 1000001), some (.ref 0), some (.ref 117), some (.int s3)]) [true, true, true, true] rfl rfl ?_
        exact tL_law_j1273 hX hS K0 K1 hf
      · cases hf
    rw [if_neg c33_24] at hf
    by_cases c33_25 : ((xs s3.toNatClampNeg) &&& 31) = 25
    · rw [if_pos c33_25] at hf
      refine G_tswIn (tgt := 984) hX dL_law_33 (by rw [c33_25]; decide) (by rw [c33_25]; decide) (by rw [c33_25]; rfl) rfl ?_
      refine G_aload_n hX dL_law_984 rfl ?_
      refine G_aload_n hX dL_law_985 rfl ?_
      refine G_iload_n hX dL_law_986 rfl ?_
      refine G_iconst (v := 1) hX dL_law_987 rfl ?_
      refine G_iadd hX dL_law_988 ?_
      refine G_ldS hX hS dL_law_989 hf (fun hf => ?_)
      refine G_aload_n hX dL_law_990 rfl ?_
      refine G_iload_n hX dL_law_991 rfl ?_
      refine G_iconst (v := 2) hX dL_law_992 rfl ?_
      refine G_iadd hX dL_law_993 ?_
      refine G_ldS hX hS dL_law_994 hf (fun hf => ?_)
      refine G_aload_n hX dL_law_995 rfl ?_
      refine G_iload_n hX dL_law_996 rfl ?_
      refine G_iconst (v := 3) hX dL_law_997 rfl ?_
      refine G_iadd hX dL_law_998 ?_
      refine G_ldS hX hS dL_law_999 hf (fun hf => ?_)
      refine G_aload_n hX dL_law_1000 rfl ?_
      refine G_iload_n hX dL_law_1001 rfl ?_
      refine G_iconst (v := 4) hX dL_law_1002 rfl ?_
      refine G_iadd hX dL_law_1003 ?_
      refine G_ldS hX hS dL_law_1004 hf (fun hf => ?_)
      refine G_aload_n hX dL_law_1005 rfl ?_
      refine G_iload_n hX dL_law_1006 rfl ?_
      refine G_iconst (v := 5) hX dL_law_1007 rfl ?_
      refine G_iadd hX dL_law_1008 ?_
      refine G_ldS hX hS dL_law_1009 hf (fun hf => ?_)
      obtain ⟨v137, u138, h136, hf⟩ := bd2_some hf
      refine G_cVl (as := [.int (xs (s3 + 1).toNatClampNeg), .int (xs (s3 + 2).toNatClampNeg), .int (xs (s3 + 3).toNatClampNeg), .int (xs (s3 + 4).toNatClampNeg), .int (xs (s3 + 5).toNatClampNeg)]) (rest := []) hX hS cvL_121 (mX7_copy w h136) (Nat.le_of_ble_eq_true rfl) kK0 (Nat.le_of_ble_eq_true rfl) (Nat.le_of_ble_eq_true rfl) rfl rfl (Nat.le_of_ble_eq_true rfl) dL_law_1010 (st' := [.int v137]) rfl ?_
      refine G_aload_n hX dL_law_1013 rfl ?_
      refine G_aload_n hX dL_law_1014 rfl ?_
      refine G_iload_n hX dL_law_1015 rfl ?_
      refine G_iconst (v := 1) hX dL_law_1016 rfl ?_
      refine G_iadd hX dL_law_1017 ?_
      refine G_ldS hX hS dL_law_1018 hf (fun hf => ?_)
      refine G_aload_n hX dL_law_1019 rfl ?_
      refine G_iload_n hX dL_law_1020 rfl ?_
      refine G_iconst (v := 2) hX dL_law_1021 rfl ?_
      refine G_iadd hX dL_law_1022 ?_
      refine G_ldS hX hS dL_law_1023 hf (fun hf => ?_)
      refine G_aload_n hX dL_law_1024 rfl ?_
      refine G_iload_n hX dL_law_1025 rfl ?_
      refine G_iconst (v := 3) hX dL_law_1026 rfl ?_
      refine G_iadd hX dL_law_1027 ?_
      refine G_ldS hX hS dL_law_1028 hf (fun hf => ?_)
      refine G_aload_n hX dL_law_1029 rfl ?_
      refine G_iload_n hX dL_law_1030 rfl ?_
      refine G_iconst (v := 4) hX dL_law_1031 rfl ?_
      refine G_iadd hX dL_law_1032 ?_
      refine G_ldS hX hS dL_law_1033 hf (fun hf => ?_)
      refine G_aload_n hX dL_law_1034 rfl ?_
      refine G_iload_n hX dL_law_1035 rfl ?_
      refine G_iconst (v := 5) hX dL_law_1036 rfl ?_
      refine G_iadd hX dL_law_1037 ?_
      refine G_ldS hX hS dL_law_1038 hf (fun hf => ?_)
      obtain ⟨v140, u141, h139, hf⟩ := bd2_some hf
      refine G_cVl (as := [.int (xs (s3 + 1).toNatClampNeg), .int (xs (s3 + 2).toNatClampNeg), .int (xs (s3 + 3).toNatClampNeg), .int (xs (s3 + 4).toNatClampNeg), .int (xs (s3 + 5).toNatClampNeg)]) (rest := [.int v137]) hX hS cvL_125 (mX8_copy w h139) (Nat.le_of_ble_eq_true rfl) kK117 (Nat.le_of_ble_eq_true rfl) (Nat.le_of_ble_eq_true rfl) rfl rfl (Nat.le_of_ble_eq_true rfl) dL_law_1039 (st' := [.int v140, .int v137]) rfl ?_
      refine G_icmp_eq (tgt := 1273) hX dL_law_1042 rfl hf (fun hf => ?_) (fun hf => ?_)
      · refine G_mask (lv' := [some (.ref 1000001), some (.ref 0), some (.ref 117), some (.int s3)]) [true, true, true, true] rfl rfl ?_
        exact tL_law_j1273 hX hS K0 K1 hf
      · cases hf
    rw [if_neg c33_25] at hf
    by_cases c33_26 : ((xs s3.toNatClampNeg) &&& 31) = 26
    · rw [if_pos c33_26] at hf
      refine G_tswIn (tgt := 1047) hX dL_law_33 (by rw [c33_26]; decide) (by rw [c33_26]; decide) (by rw [c33_26]; rfl) rfl ?_
      refine G_aload_n hX dL_law_1047 rfl ?_
      refine G_aload_n hX dL_law_1048 rfl ?_
      refine G_iload_n hX dL_law_1049 rfl ?_
      refine G_iconst (v := 1) hX dL_law_1050 rfl ?_
      refine G_iadd hX dL_law_1051 ?_
      refine G_ldS hX hS dL_law_1052 hf (fun hf => ?_)
      refine G_aload_n hX dL_law_1053 rfl ?_
      refine G_iload_n hX dL_law_1054 rfl ?_
      refine G_iconst (v := 2) hX dL_law_1055 rfl ?_
      refine G_iadd hX dL_law_1056 ?_
      refine G_ldS hX hS dL_law_1057 hf (fun hf => ?_)
      refine G_aload_n hX dL_law_1058 rfl ?_
      refine G_iload_n hX dL_law_1059 rfl ?_
      refine G_iconst (v := 3) hX dL_law_1060 rfl ?_
      refine G_iadd hX dL_law_1061 ?_
      refine G_ldS hX hS dL_law_1062 hf (fun hf => ?_)
      refine G_aload_n hX dL_law_1063 rfl ?_
      refine G_iload_n hX dL_law_1064 rfl ?_
      refine G_iconst (v := 4) hX dL_law_1065 rfl ?_
      refine G_iadd hX dL_law_1066 ?_
      refine G_ldS hX hS dL_law_1067 hf (fun hf => ?_)
      obtain ⟨v143, u144, h142, hf⟩ := bd2_some hf
      refine G_cVl (as := [.int (xs (s3 + 1).toNatClampNeg), .int (xs (s3 + 2).toNatClampNeg), .int (xs (s3 + 3).toNatClampNeg), .int (xs (s3 + 4).toNatClampNeg)]) (rest := []) hX hS cvL_126 (mX7_log w h142) (Nat.le_of_ble_eq_true rfl) kK0 (Nat.le_of_ble_eq_true rfl) (Nat.le_of_ble_eq_true rfl) rfl rfl (Nat.le_of_ble_eq_true rfl) dL_law_1068 (st' := [.int v143]) rfl ?_
      refine G_aload_n hX dL_law_1071 rfl ?_
      refine G_aload_n hX dL_law_1072 rfl ?_
      refine G_iload_n hX dL_law_1073 rfl ?_
      refine G_iconst (v := 1) hX dL_law_1074 rfl ?_
      refine G_iadd hX dL_law_1075 ?_
      refine G_ldS hX hS dL_law_1076 hf (fun hf => ?_)
      refine G_aload_n hX dL_law_1077 rfl ?_
      refine G_iload_n hX dL_law_1078 rfl ?_
      refine G_iconst (v := 2) hX dL_law_1079 rfl ?_
      refine G_iadd hX dL_law_1080 ?_
      refine G_ldS hX hS dL_law_1081 hf (fun hf => ?_)
      refine G_aload_n hX dL_law_1082 rfl ?_
      refine G_iload_n hX dL_law_1083 rfl ?_
      refine G_iconst (v := 3) hX dL_law_1084 rfl ?_
      refine G_iadd hX dL_law_1085 ?_
      refine G_ldS hX hS dL_law_1086 hf (fun hf => ?_)
      refine G_aload_n hX dL_law_1087 rfl ?_
      refine G_iload_n hX dL_law_1088 rfl ?_
      refine G_iconst (v := 4) hX dL_law_1089 rfl ?_
      refine G_iadd hX dL_law_1090 ?_
      refine G_ldS hX hS dL_law_1091 hf (fun hf => ?_)
      obtain ⟨v146, u147, h145, hf⟩ := bd2_some hf
      refine G_cVl (as := [.int (xs (s3 + 1).toNatClampNeg), .int (xs (s3 + 2).toNatClampNeg), .int (xs (s3 + 3).toNatClampNeg), .int (xs (s3 + 4).toNatClampNeg)]) (rest := [.int v143]) hX hS cvL_129 (mX8_log w h145) (Nat.le_of_ble_eq_true rfl) kK117 (Nat.le_of_ble_eq_true rfl) (Nat.le_of_ble_eq_true rfl) rfl rfl (Nat.le_of_ble_eq_true rfl) dL_law_1092 (st' := [.int v146, .int v143]) rfl ?_
      refine G_icmp_eq (tgt := 1273) hX dL_law_1095 rfl hf (fun hf => ?_) (fun hf => ?_)
      · refine G_mask (lv' := [some (.ref 1000001), some (.ref 0), some (.ref 117), some (.int s3)]) [true, true, true, true] rfl rfl ?_
        exact tL_law_j1273 hX hS K0 K1 hf
      · cases hf
    rw [if_neg c33_26] at hf
    by_cases c33_27 : ((xs s3.toNatClampNeg) &&& 31) = 27
    · rw [if_pos c33_27] at hf
      refine G_tswIn (tgt := 1100) hX dL_law_33 (by rw [c33_27]; decide) (by rw [c33_27]; decide) (by rw [c33_27]; rfl) rfl ?_
      refine G_aload_n hX dL_law_1100 rfl ?_
      refine G_aload_n hX dL_law_1101 rfl ?_
      refine G_iload_n hX dL_law_1102 rfl ?_
      refine G_iconst (v := 1) hX dL_law_1103 rfl ?_
      refine G_iadd hX dL_law_1104 ?_
      refine G_ldS hX hS dL_law_1105 hf (fun hf => ?_)
      refine G_aload_n hX dL_law_1106 rfl ?_
      refine G_iload_n hX dL_law_1107 rfl ?_
      refine G_iconst (v := 2) hX dL_law_1108 rfl ?_
      refine G_iadd hX dL_law_1109 ?_
      refine G_ldS hX hS dL_law_1110 hf (fun hf => ?_)
      refine G_aload_n hX dL_law_1111 rfl ?_
      refine G_iload_n hX dL_law_1112 rfl ?_
      refine G_iconst (v := 3) hX dL_law_1113 rfl ?_
      refine G_iadd hX dL_law_1114 ?_
      refine G_ldS hX hS dL_law_1115 hf (fun hf => ?_)
      refine G_aload_n hX dL_law_1116 rfl ?_
      refine G_iload_n hX dL_law_1117 rfl ?_
      refine G_iconst (v := 4) hX dL_law_1118 rfl ?_
      refine G_iadd hX dL_law_1119 ?_
      refine G_ldS hX hS dL_law_1120 hf (fun hf => ?_)
      refine G_aload_n hX dL_law_1121 rfl ?_
      refine G_iload_n hX dL_law_1122 rfl ?_
      refine G_iconst (v := 5) hX dL_law_1123 rfl ?_
      refine G_iadd hX dL_law_1124 ?_
      refine G_ldS hX hS dL_law_1125 hf (fun hf => ?_)
      refine G_aload_n hX dL_law_1126 rfl ?_
      refine G_iload_n hX dL_law_1127 rfl ?_
      refine G_bipush (v := 6) hX dL_law_1128 rfl ?_
      refine G_iadd hX dL_law_1130 ?_
      refine G_ldS hX hS dL_law_1131 hf (fun hf => ?_)
      obtain ⟨v149, u150, h148, hf⟩ := bd2_some hf
      refine G_cVl (as := [.int (xs (s3 + 1).toNatClampNeg), .int (xs (s3 + 2).toNatClampNeg), .int (xs (s3 + 3).toNatClampNeg), .int (xs (s3 + 4).toNatClampNeg), .int (xs (s3 + 5).toNatClampNeg), .int (xs (s3 + 6).toNatClampNeg)]) (rest := []) hX hS cvL_130 (mX7_skills w h148) (Nat.le_of_ble_eq_true rfl) kK0 (Nat.le_of_ble_eq_true rfl) (Nat.le_of_ble_eq_true rfl) rfl rfl (Nat.le_of_ble_eq_true rfl) dL_law_1132 (st' := [.int v149]) rfl ?_
      refine G_aload_n hX dL_law_1135 rfl ?_
      refine G_aload_n hX dL_law_1136 rfl ?_
      refine G_iload_n hX dL_law_1137 rfl ?_
      refine G_iconst (v := 1) hX dL_law_1138 rfl ?_
      refine G_iadd hX dL_law_1139 ?_
      refine G_ldS hX hS dL_law_1140 hf (fun hf => ?_)
      refine G_aload_n hX dL_law_1141 rfl ?_
      refine G_iload_n hX dL_law_1142 rfl ?_
      refine G_iconst (v := 2) hX dL_law_1143 rfl ?_
      refine G_iadd hX dL_law_1144 ?_
      refine G_ldS hX hS dL_law_1145 hf (fun hf => ?_)
      refine G_aload_n hX dL_law_1146 rfl ?_
      refine G_iload_n hX dL_law_1147 rfl ?_
      refine G_iconst (v := 3) hX dL_law_1148 rfl ?_
      refine G_iadd hX dL_law_1149 ?_
      refine G_ldS hX hS dL_law_1150 hf (fun hf => ?_)
      refine G_aload_n hX dL_law_1151 rfl ?_
      refine G_iload_n hX dL_law_1152 rfl ?_
      refine G_iconst (v := 4) hX dL_law_1153 rfl ?_
      refine G_iadd hX dL_law_1154 ?_
      refine G_ldS hX hS dL_law_1155 hf (fun hf => ?_)
      refine G_aload_n hX dL_law_1156 rfl ?_
      refine G_iload_n hX dL_law_1157 rfl ?_
      refine G_iconst (v := 5) hX dL_law_1158 rfl ?_
      refine G_iadd hX dL_law_1159 ?_
      refine G_ldS hX hS dL_law_1160 hf (fun hf => ?_)
      refine G_aload_n hX dL_law_1161 rfl ?_
      refine G_iload_n hX dL_law_1162 rfl ?_
      refine G_bipush (v := 6) hX dL_law_1163 rfl ?_
      refine G_iadd hX dL_law_1165 ?_
      refine G_ldS hX hS dL_law_1166 hf (fun hf => ?_)
      obtain ⟨v152, u153, h151, hf⟩ := bd2_some hf
      refine G_cVl (as := [.int (xs (s3 + 1).toNatClampNeg), .int (xs (s3 + 2).toNatClampNeg), .int (xs (s3 + 3).toNatClampNeg), .int (xs (s3 + 4).toNatClampNeg), .int (xs (s3 + 5).toNatClampNeg), .int (xs (s3 + 6).toNatClampNeg)]) (rest := [.int v149]) hX hS cvL_134 (mX8_skills w h151) (Nat.le_of_ble_eq_true rfl) kK117 (Nat.le_of_ble_eq_true rfl) (Nat.le_of_ble_eq_true rfl) rfl rfl (Nat.le_of_ble_eq_true rfl) dL_law_1167 (st' := [.int v152, .int v149]) rfl ?_
      refine G_icmp_eq (tgt := 1273) hX dL_law_1170 rfl hf (fun hf => ?_) (fun hf => ?_)
      · refine G_mask (lv' := [some (.ref 1000001), some (.ref 0), some (.ref 117), some (.int s3)]) [true, true, true, true] rfl rfl ?_
        exact tL_law_j1273 hX hS K0 K1 hf
      · cases hf
    rw [if_neg c33_27] at hf
    by_cases c33_28 : ((xs s3.toNatClampNeg) &&& 31) = 28
    · rw [if_pos c33_28] at hf
      refine G_tswIn (tgt := 1175) hX dL_law_33 (by rw [c33_28]; decide) (by rw [c33_28]; decide) (by rw [c33_28]; rfl) rfl ?_
      refine G_aload_n hX dL_law_1175 rfl ?_
      refine G_aload_n hX dL_law_1176 rfl ?_
      refine G_iload_n hX dL_law_1177 rfl ?_
      refine G_iconst (v := 1) hX dL_law_1178 rfl ?_
      refine G_iadd hX dL_law_1179 ?_
      refine G_ldS hX hS dL_law_1180 hf (fun hf => ?_)
      refine G_aload_n hX dL_law_1181 rfl ?_
      refine G_iload_n hX dL_law_1182 rfl ?_
      refine G_iconst (v := 2) hX dL_law_1183 rfl ?_
      refine G_iadd hX dL_law_1184 ?_
      refine G_ldS hX hS dL_law_1185 hf (fun hf => ?_)
      refine G_aload_n hX dL_law_1186 rfl ?_
      refine G_iload_n hX dL_law_1187 rfl ?_
      refine G_iconst (v := 3) hX dL_law_1188 rfl ?_
      refine G_iadd hX dL_law_1189 ?_
      refine G_ldS hX hS dL_law_1190 hf (fun hf => ?_)
      refine G_aload_n hX dL_law_1191 rfl ?_
      refine G_iload_n hX dL_law_1192 rfl ?_
      refine G_iconst (v := 4) hX dL_law_1193 rfl ?_
      refine G_iadd hX dL_law_1194 ?_
      refine G_ldS hX hS dL_law_1195 hf (fun hf => ?_)
      refine G_aload_n hX dL_law_1196 rfl ?_
      refine G_iload_n hX dL_law_1197 rfl ?_
      refine G_iconst (v := 5) hX dL_law_1198 rfl ?_
      refine G_iadd hX dL_law_1199 ?_
      refine G_ldS hX hS dL_law_1200 hf (fun hf => ?_)
      refine G_aload_n hX dL_law_1201 rfl ?_
      refine G_iload_n hX dL_law_1202 rfl ?_
      refine G_bipush (v := 6) hX dL_law_1203 rfl ?_
      refine G_iadd hX dL_law_1205 ?_
      refine G_ldS hX hS dL_law_1206 hf (fun hf => ?_)
      obtain ⟨v155, u156, h154, hf⟩ := bd2_some hf
      refine G_cVl (as := [.int (xs (s3 + 1).toNatClampNeg), .int (xs (s3 + 2).toNatClampNeg), .int (xs (s3 + 3).toNatClampNeg), .int (xs (s3 + 4).toNatClampNeg), .int (xs (s3 + 5).toNatClampNeg), .int (xs (s3 + 6).toNatClampNeg)]) (rest := []) hX hS cvL_135 (mX7_kinds w h154) (Nat.le_of_ble_eq_true rfl) kK0 (Nat.le_of_ble_eq_true rfl) (Nat.le_of_ble_eq_true rfl) rfl rfl (Nat.le_of_ble_eq_true rfl) dL_law_1207 (st' := [.int v155]) rfl ?_
      refine G_aload_n hX dL_law_1210 rfl ?_
      refine G_aload_n hX dL_law_1211 rfl ?_
      refine G_iload_n hX dL_law_1212 rfl ?_
      refine G_iconst (v := 1) hX dL_law_1213 rfl ?_
      refine G_iadd hX dL_law_1214 ?_
      refine G_ldS hX hS dL_law_1215 hf (fun hf => ?_)
      refine G_aload_n hX dL_law_1216 rfl ?_
      refine G_iload_n hX dL_law_1217 rfl ?_
      refine G_iconst (v := 2) hX dL_law_1218 rfl ?_
      refine G_iadd hX dL_law_1219 ?_
      refine G_ldS hX hS dL_law_1220 hf (fun hf => ?_)
      refine G_aload_n hX dL_law_1221 rfl ?_
      refine G_iload_n hX dL_law_1222 rfl ?_
      refine G_iconst (v := 3) hX dL_law_1223 rfl ?_
      refine G_iadd hX dL_law_1224 ?_
      refine G_ldS hX hS dL_law_1225 hf (fun hf => ?_)
      refine G_aload_n hX dL_law_1226 rfl ?_
      refine G_iload_n hX dL_law_1227 rfl ?_
      refine G_iconst (v := 4) hX dL_law_1228 rfl ?_
      refine G_iadd hX dL_law_1229 ?_
      refine G_ldS hX hS dL_law_1230 hf (fun hf => ?_)
      refine G_aload_n hX dL_law_1231 rfl ?_
      refine G_iload_n hX dL_law_1232 rfl ?_
      refine G_iconst (v := 5) hX dL_law_1233 rfl ?_
      refine G_iadd hX dL_law_1234 ?_
      refine G_ldS hX hS dL_law_1235 hf (fun hf => ?_)
      refine G_aload_n hX dL_law_1236 rfl ?_
      refine G_iload_n hX dL_law_1237 rfl ?_
      refine G_bipush (v := 6) hX dL_law_1238 rfl ?_
      refine G_iadd hX dL_law_1240 ?_
      refine G_ldS hX hS dL_law_1241 hf (fun hf => ?_)
      obtain ⟨v158, u159, h157, hf⟩ := bd2_some hf
      refine G_cVl (as := [.int (xs (s3 + 1).toNatClampNeg), .int (xs (s3 + 2).toNatClampNeg), .int (xs (s3 + 3).toNatClampNeg), .int (xs (s3 + 4).toNatClampNeg), .int (xs (s3 + 5).toNatClampNeg), .int (xs (s3 + 6).toNatClampNeg)]) (rest := [.int v155]) hX hS cvL_138 (mX8_kinds w h157) (Nat.le_of_ble_eq_true rfl) kK117 (Nat.le_of_ble_eq_true rfl) (Nat.le_of_ble_eq_true rfl) rfl rfl (Nat.le_of_ble_eq_true rfl) dL_law_1242 (st' := [.int v158, .int v155]) rfl ?_
      refine G_icmp_eq (tgt := 1273) hX dL_law_1245 rfl hf (fun hf => ?_) (fun hf => ?_)
      · refine G_mask (lv' := [some (.ref 1000001), some (.ref 0), some (.ref 117), some (.int s3)]) [true, true, true, true] rfl rfl ?_
        exact tL_law_j1273 hX hS K0 K1 hf
      · cases hf
    rw [if_neg c33_28] at hf
    by_cases c33_29 : ((xs s3.toNatClampNeg) &&& 31) = 29
    · rw [if_pos c33_29] at hf
      refine G_tswIn (tgt := 1250) hX dL_law_33 (by rw [c33_29]; decide) (by rw [c33_29]; decide) (by rw [c33_29]; rfl) rfl ?_
      refine G_aload_n hX dL_law_1250 rfl ?_
      refine G_aload_n hX dL_law_1251 rfl ?_
      refine G_iload_n hX dL_law_1252 rfl ?_
      refine G_iconst (v := 1) hX dL_law_1253 rfl ?_
      refine G_iadd hX dL_law_1254 ?_
      refine G_ldS hX hS dL_law_1255 hf (fun hf => ?_)
      obtain ⟨v161, h160, hf⟩ := bd1_some hf
      refine G_cVl (as := [.int (xs (s3 + 1).toNatClampNeg)]) (rest := []) hX hS cvL_139 (mX7_count w h160) (Nat.le_of_ble_eq_true rfl) kK0 (Nat.le_of_ble_eq_true rfl) (Nat.le_of_ble_eq_true rfl) rfl rfl (Nat.le_of_ble_eq_true rfl) dL_law_1256 (st' := [.int v161]) rfl ?_
      refine G_aload_n hX dL_law_1259 rfl ?_
      refine G_aload_n hX dL_law_1260 rfl ?_
      refine G_iload_n hX dL_law_1261 rfl ?_
      refine G_iconst (v := 1) hX dL_law_1262 rfl ?_
      refine G_iadd hX dL_law_1263 ?_
      refine G_ldS hX hS dL_law_1264 hf (fun hf => ?_)
      obtain ⟨v163, h162, hf⟩ := bd1_some hf
      refine G_cVl (as := [.int (xs (s3 + 1).toNatClampNeg)]) (rest := [.int v161]) hX hS cvL_142 (mX8_count w h162) (Nat.le_of_ble_eq_true rfl) kK117 (Nat.le_of_ble_eq_true rfl) (Nat.le_of_ble_eq_true rfl) rfl rfl (Nat.le_of_ble_eq_true rfl) dL_law_1265 (st' := [.int v163, .int v161]) rfl ?_
      refine G_icmp_eq (tgt := 1273) hX dL_law_1268 rfl hf (fun hf => ?_) (fun hf => ?_)
      · refine G_mask (lv' := [some (.ref 1000001), some (.ref 0), some (.ref 117), some (.int s3)]) [true, true, true, true] rfl rfl ?_
        exact tL_law_j1273 hX hS K0 K1 hf
      · cases hf
    rw [if_neg c33_29] at hf
    have n33_0 := lv_neT (a := 0) c33_0 rfl
    have n33_1 := lv_neT (a := 1) c33_1 rfl
    have n33_2 := lv_neT (a := 2) c33_2 rfl
    have n33_3 := lv_neT (a := 3) c33_3 rfl
    have n33_4 := lv_neT (a := 4) c33_4 rfl
    have n33_5 := lv_neT (a := 5) c33_5 rfl
    have n33_6 := lv_neT (a := 6) c33_6 rfl
    have n33_7 := lv_neT (a := 7) c33_7 rfl
    have n33_8 := lv_neT (a := 8) c33_8 rfl
    have n33_9 := lv_neT (a := 9) c33_9 rfl
    have n33_10 := lv_neT (a := 10) c33_10 rfl
    have n33_11 := lv_neT (a := 11) c33_11 rfl
    have n33_12 := lv_neT (a := 12) c33_12 rfl
    have n33_13 := lv_neT (a := 13) c33_13 rfl
    have n33_14 := lv_neT (a := 14) c33_14 rfl
    have n33_15 := lv_neT (a := 15) c33_15 rfl
    have n33_16 := lv_neT (a := 16) c33_16 rfl
    have n33_17 := lv_neT (a := 17) c33_17 rfl
    have n33_18 := lv_neT (a := 18) c33_18 rfl
    have n33_19 := lv_neT (a := 19) c33_19 rfl
    have n33_20 := lv_neT (a := 20) c33_20 rfl
    have n33_21 := lv_neT (a := 21) c33_21 rfl
    have n33_22 := lv_neT (a := 22) c33_22 rfl
    have n33_23 := lv_neT (a := 23) c33_23 rfl
    have n33_24 := lv_neT (a := 24) c33_24 rfl
    have n33_25 := lv_neT (a := 25) c33_25 rfl
    have n33_26 := lv_neT (a := 26) c33_26 rfl
    have n33_27 := lv_neT (a := 27) c33_27 rfl
    have n33_28 := lv_neT (a := 28) c33_28 rfl
    have n33_29 := lv_neT (a := 29) c33_29 rfl
    refine G_tswOut (tgt := 1273) hX dL_law_33 (by omega) rfl ?_
    refine G_mask (lv' := [some (.ref 1000001), some (.ref 0), some (.ref 117), some (.int s3)]) [true, true, true, true] rfl rfl ?_
    exact tL_law_j1273 hX hS K0 K1 hf
