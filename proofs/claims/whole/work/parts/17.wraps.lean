theorem vw_L_100 : mh_Vw RL 100 RX11 yX11_best := ⟨mh_in 1053 (by decide +kernel) (by decide +kernel), mh_in 1054 (by decide +kernel) (by decide +kernel), mh_in 1055 (by decide +kernel) (by decide +kernel)⟩
theorem vw_L_103 : mh_Vw RL 103 RX11 yX11_open := ⟨mh_in 1086 (by decide +kernel) (by decide +kernel), mh_in 1087 (by decide +kernel) (by decide +kernel), mh_in 1088 (by decide +kernel) (by decide +kernel)⟩
theorem vw_L_107 : mh_Vw RL 107 RX11 yX11_fill := ⟨mh_in 1099 (by decide +kernel) (by decide +kernel), mh_in 1100 (by decide +kernel) (by decide +kernel), mh_in 1101 (by decide +kernel) (by decide +kernel)⟩
theorem vw_L_110 : mh_Vw RL 110 RX11 yX11_has := ⟨mh_in 1107 (by decide +kernel) (by decide +kernel), mh_in 1108 (by decide +kernel) (by decide +kernel), mh_in 1109 (by decide +kernel) (by decide +kernel)⟩
theorem vw_L_113 : mh_Vw RL 113 RX11 yX11_pays := ⟨mh_in 1114 (by decide +kernel) (by decide +kernel), mh_in 1115 (by decide +kernel) (by decide +kernel), mh_in 1116 (by decide +kernel) (by decide +kernel)⟩
theorem vw_L_116 : mh_Vw RL 116 RX11 yX11_holes := ⟨mh_in 1158 (by decide +kernel) (by decide +kernel), mh_in 1159 (by decide +kernel) (by decide +kernel), mh_in 1160 (by decide +kernel) (by decide +kernel)⟩
theorem vw_L_119 : mh_Vw RL 119 RX11 yX11_change := ⟨mh_in 1169 (by decide +kernel) (by decide +kernel), mh_in 1170 (by decide +kernel) (by decide +kernel), mh_in 1171 (by decide +kernel) (by decide +kernel)⟩
theorem vw_L_122 : mh_Vw RL 122 RX11 yX11_deal := ⟨mh_in 1190 (by decide +kernel) (by decide +kernel), mh_in 1191 (by decide +kernel) (by decide +kernel), mh_in 1192 (by decide +kernel) (by decide +kernel)⟩
theorem vw_L_15 : mh_Vw RL 15 RX11 yX11_fewest := ⟨mh_in 544 (by decide +kernel) (by decide +kernel), mh_in 545 (by decide +kernel) (by decide +kernel), mh_in 546 (by decide +kernel) (by decide +kernel)⟩
theorem vw_L_21 : mh_Vw RL 21 RX11 yX11_with := ⟨mh_in 647 (by decide +kernel) (by decide +kernel), mh_in 648 (by decide +kernel) (by decide +kernel), mh_in 649 (by decide +kernel) (by decide +kernel)⟩
theorem vw_L_25 : mh_Vw RL 25 RX11 yX11_greedy := ⟨mh_in 674 (by decide +kernel) (by decide +kernel), mh_in 675 (by decide +kernel) (by decide +kernel), mh_in 676 (by decide +kernel) (by decide +kernel)⟩
theorem vw_L_28 : mh_Vw RL 28 RX11 yX11_always := ⟨mh_in 686 (by decide +kernel) (by decide +kernel), mh_in 687 (by decide +kernel) (by decide +kernel), mh_in 688 (by decide +kernel) (by decide +kernel)⟩
theorem vw_L_32 : mh_Vw RL 32 RX11 yX11_fails := ⟨mh_in 699 (by decide +kernel) (by decide +kernel), mh_in 700 (by decide +kernel) (by decide +kernel), mh_in 701 (by decide +kernel) (by decide +kernel)⟩
theorem vw_L_36 : mh_Vw RL 36 RX11 yX11_divisor := ⟨mh_in 706 (by decide +kernel) (by decide +kernel), mh_in 707 (by decide +kernel) (by decide +kernel), mh_in 708 (by decide +kernel) (by decide +kernel)⟩
theorem vw_L_39 : mh_Vw RL 39 RX11 yX11_many := ⟨mh_in 718 (by decide +kernel) (by decide +kernel), mh_in 719 (by decide +kernel) (by decide +kernel), mh_in 720 (by decide +kernel) (by decide +kernel)⟩
theorem vw_L_43 : mh_Vw RL 43 RX11 yX11_last := ⟨mh_in 748 (by decide +kernel) (by decide +kernel), mh_in 749 (by decide +kernel) (by decide +kernel), mh_in 750 (by decide +kernel) (by decide +kernel)⟩
theorem vw_L_46 : mh_Vw RL 46 RX11 yX11_gap := ⟨mh_in 764 (by decide +kernel) (by decide +kernel), mh_in 765 (by decide +kernel) (by decide +kernel), mh_in 766 (by decide +kernel) (by decide +kernel)⟩
theorem vw_L_49 : mh_Vw RL 49 RX11 yX11_rest := ⟨mh_in 782 (by decide +kernel) (by decide +kernel), mh_in 783 (by decide +kernel) (by decide +kernel), mh_in 784 (by decide +kernel) (by decide +kernel)⟩
theorem vw_L_52 : mh_Vw RL 52 RX11 yX11_mirror := ⟨mh_in 792 (by decide +kernel) (by decide +kernel), mh_in 793 (by decide +kernel) (by decide +kernel), mh_in 794 (by decide +kernel) (by decide +kernel)⟩
theorem vw_L_55 : mh_Vw RL 55 RX11 yX11_needed := ⟨mh_in 799 (by decide +kernel) (by decide +kernel), mh_in 800 (by decide +kernel) (by decide +kernel), mh_in 801 (by decide +kernel) (by decide +kernel)⟩
theorem vw_L_58 : mh_Vw RL 58 RX11 yX11_same := ⟨mh_in 837 (by decide +kernel) (by decide +kernel), mh_in 838 (by decide +kernel) (by decide +kernel), mh_in 839 (by decide +kernel) (by decide +kernel)⟩
theorem vw_L_62 : mh_Vw RL 62 RX11 yX11_join := ⟨mh_in 846 (by decide +kernel) (by decide +kernel), mh_in 847 (by decide +kernel) (by decide +kernel), mh_in 848 (by decide +kernel) (by decide +kernel)⟩
theorem vw_L_66 : mh_Vw RL 66 RX11 yX11_part := ⟨mh_in 857 (by decide +kernel) (by decide +kernel), mh_in 858 (by decide +kernel) (by decide +kernel), mh_in 859 (by decide +kernel) (by decide +kernel)⟩
theorem vw_L_69 : mh_Vw RL 69 RX11 yX11_factor := ⟨mh_in 878 (by decide +kernel) (by decide +kernel), mh_in 879 (by decide +kernel) (by decide +kernel), mh_in 880 (by decide +kernel) (by decide +kernel)⟩
theorem vw_L_7 : mh_Vw RL 7 RX11 yX11_at := ⟨mh_in 460 (by decide +kernel) (by decide +kernel), mh_in 461 (by decide +kernel) (by decide +kernel), mh_in 462 (by decide +kernel) (by decide +kernel)⟩
theorem vw_L_72 : mh_Vw RL 72 RX11 yX11_ways := ⟨mh_in 886 (by decide +kernel) (by decide +kernel), mh_in 887 (by decide +kernel) (by decide +kernel), mh_in 888 (by decide +kernel) (by decide +kernel)⟩
theorem vw_L_76 : mh_Vw RL 76 RX11 yX11_of := ⟨mh_in 927 (by decide +kernel) (by decide +kernel), mh_in 928 (by decide +kernel) (by decide +kernel), mh_in 929 (by decide +kernel) (by decide +kernel)⟩
theorem vw_L_80 : mh_Vw RL 80 RX11 yX11_hand := ⟨mh_in 947 (by decide +kernel) (by decide +kernel), mh_in 948 (by decide +kernel) (by decide +kernel), mh_in 949 (by decide +kernel) (by decide +kernel)⟩
theorem vw_L_83 : mh_Vw RL 83 RX11 yX11_put := ⟨mh_in 961 (by decide +kernel) (by decide +kernel), mh_in 962 (by decide +kernel) (by decide +kernel), mh_in 963 (by decide +kernel) (by decide +kernel)⟩
theorem vw_L_86 : mh_Vw RL 86 RX11 yX11_rank := ⟨mh_in 970 (by decide +kernel) (by decide +kernel), mh_in 971 (by decide +kernel) (by decide +kernel), mh_in 972 (by decide +kernel) (by decide +kernel)⟩
theorem vw_L_90 : mh_Vw RL 90 RX11 yX11_apart := ⟨mh_in 989 (by decide +kernel) (by decide +kernel), mh_in 990 (by decide +kernel) (by decide +kernel), mh_in 991 (by decide +kernel) (by decide +kernel)⟩
theorem vw_L_93 : mh_Vw RL 93 RX11 yX11_stamps := ⟨mh_in 1022 (by decide +kernel) (by decide +kernel), mh_in 1023 (by decide +kernel) (by decide +kernel), mh_in 1024 (by decide +kernel) (by decide +kernel)⟩
theorem vw_L_96 : mh_Vw RL 96 RX11 yX11_span := ⟨mh_in 1035 (by decide +kernel) (by decide +kernel), mh_in 1036 (by decide +kernel) (by decide +kernel), mh_in 1037 (by decide +kernel) (by decide +kernel)⟩
theorem yw_X11_always : mh_Yw yX11_always cX11_always 2 (some .boolean) 1 := ⟨mh_in 61 (by decide +kernel) (by decide +kernel), mh_in 689 (by decide +kernel) (by decide +kernel), by decide +kernel, by decide +kernel, by decide +kernel⟩
theorem yw_X11_apart : mh_Yw yX11_apart cX11_apart 6 (some .int) 2 := ⟨mh_in 61 (by decide +kernel) (by decide +kernel), mh_in 992 (by decide +kernel) (by decide +kernel), by decide +kernel, by decide +kernel, by decide +kernel⟩
theorem yw_X11_at : mh_Yw yX11_at cX11_at 4 (some .int) 2 := ⟨mh_in 61 (by decide +kernel) (by decide +kernel), mh_in 463 (by decide +kernel) (by decide +kernel), by decide +kernel, by decide +kernel, by decide +kernel⟩
theorem yw_X11_best : mh_Yw yX11_best cX11_best 4 (some .int) 3 := ⟨mh_in 61 (by decide +kernel) (by decide +kernel), mh_in 1056 (by decide +kernel) (by decide +kernel), by decide +kernel, by decide +kernel, by decide +kernel⟩
theorem yw_X11_change : mh_Yw yX11_change cX11_change 5 (some .int) 3 := ⟨mh_in 61 (by decide +kernel) (by decide +kernel), mh_in 1172 (by decide +kernel) (by decide +kernel), by decide +kernel, by decide +kernel, by decide +kernel⟩
theorem yw_X11_deal : mh_Yw yX11_deal cX11_deal 6 (some .int) 3 := ⟨mh_in 61 (by decide +kernel) (by decide +kernel), mh_in 1193 (by decide +kernel) (by decide +kernel), by decide +kernel, by decide +kernel, by decide +kernel⟩
theorem yw_X11_divisor : mh_Yw yX11_divisor cX11_divisor 2 (some .int) 1 := ⟨mh_in 61 (by decide +kernel) (by decide +kernel), mh_in 709 (by decide +kernel) (by decide +kernel), by decide +kernel, by decide +kernel, by decide +kernel⟩
theorem yw_X11_factor : mh_Yw yX11_factor cX11_factor 6 (some .int) 3 := ⟨mh_in 61 (by decide +kernel) (by decide +kernel), mh_in 881 (by decide +kernel) (by decide +kernel), by decide +kernel, by decide +kernel, by decide +kernel⟩
theorem yw_X11_fails : mh_Yw yX11_fails cX11_fails 2 (some .int) 1 := ⟨mh_in 61 (by decide +kernel) (by decide +kernel), mh_in 702 (by decide +kernel) (by decide +kernel), by decide +kernel, by decide +kernel, by decide +kernel⟩
theorem yw_X11_fewest : mh_Yw yX11_fewest cX11_fewest 5 (some .long) 2 := ⟨mh_in 61 (by decide +kernel) (by decide +kernel), mh_in 547 (by decide +kernel) (by decide +kernel), by decide +kernel, by decide +kernel, by decide +kernel⟩
theorem yw_X11_fill : mh_Yw yX11_fill cX11_fill 7 (some .int) 3 := ⟨mh_in 61 (by decide +kernel) (by decide +kernel), mh_in 1102 (by decide +kernel) (by decide +kernel), by decide +kernel, by decide +kernel, by decide +kernel⟩
theorem yw_X11_gap : mh_Yw yX11_gap cX11_gap 4 (some .int) 2 := ⟨mh_in 61 (by decide +kernel) (by decide +kernel), mh_in 767 (by decide +kernel) (by decide +kernel), by decide +kernel, by decide +kernel, by decide +kernel⟩
theorem yw_X11_greedy : mh_Yw yX11_greedy cX11_greedy 5 (some .long) 2 := ⟨mh_in 61 (by decide +kernel) (by decide +kernel), mh_in 677 (by decide +kernel) (by decide +kernel), by decide +kernel, by decide +kernel, by decide +kernel⟩
theorem yw_X11_hand : mh_Yw yX11_hand cX11_hand 2 (some .int) 1 := ⟨mh_in 61 (by decide +kernel) (by decide +kernel), mh_in 950 (by decide +kernel) (by decide +kernel), by decide +kernel, by decide +kernel, by decide +kernel⟩
theorem yw_X11_has : mh_Yw yX11_has cX11_has 5 (some .int) 2 := ⟨mh_in 61 (by decide +kernel) (by decide +kernel), mh_in 1110 (by decide +kernel) (by decide +kernel), by decide +kernel, by decide +kernel, by decide +kernel⟩
theorem yw_X11_holes : mh_Yw yX11_holes cX11_holes 2 (some .int) 1 := ⟨mh_in 61 (by decide +kernel) (by decide +kernel), mh_in 1161 (by decide +kernel) (by decide +kernel), by decide +kernel, by decide +kernel, by decide +kernel⟩
theorem yw_X11_join : mh_Yw yX11_join cX11_join 6 (some .int) 3 := ⟨mh_in 61 (by decide +kernel) (by decide +kernel), mh_in 849 (by decide +kernel) (by decide +kernel), by decide +kernel, by decide +kernel, by decide +kernel⟩
theorem yw_X11_last : mh_Yw yX11_last cX11_last 2 (some .int) 1 := ⟨mh_in 61 (by decide +kernel) (by decide +kernel), mh_in 751 (by decide +kernel) (by decide +kernel), by decide +kernel, by decide +kernel, by decide +kernel⟩
theorem yw_X11_many : mh_Yw yX11_many cX11_many 3 (some .long) 1 := ⟨mh_in 61 (by decide +kernel) (by decide +kernel), mh_in 721 (by decide +kernel) (by decide +kernel), by decide +kernel, by decide +kernel, by decide +kernel⟩
theorem yw_X11_mirror : mh_Yw yX11_mirror cX11_mirror 3 (some .boolean) 1 := ⟨mh_in 61 (by decide +kernel) (by decide +kernel), mh_in 795 (by decide +kernel) (by decide +kernel), by decide +kernel, by decide +kernel, by decide +kernel⟩
theorem yw_X11_needed : mh_Yw yX11_needed cX11_needed 5 (some .int) 1 := ⟨mh_in 61 (by decide +kernel) (by decide +kernel), mh_in 802 (by decide +kernel) (by decide +kernel), by decide +kernel, by decide +kernel, by decide +kernel⟩
theorem yw_X11_of : mh_Yw yX11_of cX11_of 6 (some .boolean) 3 := ⟨mh_in 61 (by decide +kernel) (by decide +kernel), mh_in 930 (by decide +kernel) (by decide +kernel), by decide +kernel, by decide +kernel, by decide +kernel⟩
theorem yw_X11_open : mh_Yw yX11_open cX11_open 3 none 2 := ⟨mh_in 61 (by decide +kernel) (by decide +kernel), mh_in 1089 (by decide +kernel) (by decide +kernel), by decide +kernel, by decide +kernel, by decide +kernel⟩
theorem yw_X11_part : mh_Yw yX11_part cX11_part 6 (some .int) 3 := ⟨mh_in 61 (by decide +kernel) (by decide +kernel), mh_in 860 (by decide +kernel) (by decide +kernel), by decide +kernel, by decide +kernel, by decide +kernel⟩
theorem yw_X11_pays : mh_Yw yX11_pays cX11_pays 3 (some .int) 2 := ⟨mh_in 61 (by decide +kernel) (by decide +kernel), mh_in 1117 (by decide +kernel) (by decide +kernel), by decide +kernel, by decide +kernel, by decide +kernel⟩
theorem yw_X11_put : mh_Yw yX11_put cX11_put 4 (some .int) 2 := ⟨mh_in 61 (by decide +kernel) (by decide +kernel), mh_in 964 (by decide +kernel) (by decide +kernel), by decide +kernel, by decide +kernel, by decide +kernel⟩
theorem yw_X11_rank : mh_Yw yX11_rank cX11_rank 2 (some .long) 0 := ⟨mh_in 61 (by decide +kernel) (by decide +kernel), mh_in 973 (by decide +kernel) (by decide +kernel), by decide +kernel, by decide +kernel, by decide +kernel⟩
theorem yw_X11_rest : mh_Yw yX11_rest cX11_rest 5 (some .int) 2 := ⟨mh_in 61 (by decide +kernel) (by decide +kernel), mh_in 785 (by decide +kernel) (by decide +kernel), by decide +kernel, by decide +kernel, by decide +kernel⟩
theorem yw_X11_same : mh_Yw yX11_same cX11_same 5 (some .boolean) 2 := ⟨mh_in 61 (by decide +kernel) (by decide +kernel), mh_in 840 (by decide +kernel) (by decide +kernel), by decide +kernel, by decide +kernel, by decide +kernel⟩
theorem yw_X11_span : mh_Yw yX11_span cX11_span 5 (some .long) 3 := ⟨mh_in 61 (by decide +kernel) (by decide +kernel), mh_in 1038 (by decide +kernel) (by decide +kernel), by decide +kernel, by decide +kernel, by decide +kernel⟩
theorem yw_X11_stamps : mh_Yw yX11_stamps cX11_stamps 4 (some .int) 2 := ⟨mh_in 61 (by decide +kernel) (by decide +kernel), mh_in 1025 (by decide +kernel) (by decide +kernel), by decide +kernel, by decide +kernel, by decide +kernel⟩
theorem yw_X11_ways : mh_Yw yX11_ways cX11_ways 4 (some .long) 2 := ⟨mh_in 61 (by decide +kernel) (by decide +kernel), mh_in 889 (by decide +kernel) (by decide +kernel), by decide +kernel, by decide +kernel, by decide +kernel⟩
theorem yw_X11_with : mh_Yw yX11_with cX11_with 6 (some .long) 3 := ⟨mh_in 61 (by decide +kernel) (by decide +kernel), mh_in 650 (by decide +kernel) (by decide +kernel), by decide +kernel, by decide +kernel, by decide +kernel⟩
def f_L_at_e (o0 : Nat) (x1 : Int32) (x2 : Int32) (o3 : Nat) (h : mh_H) : Option (Int32 × mh_H) :=
  mh_bc (mh_cal h o0 11 (f_X11_at_e o0 x1 x2 h)) (fun k h2 => if k = 1 then (some ((1 : Int32), h2)) else none) fun v3 h1 =>
  (mh_sJ h1 o3 (0 : Int32) ((v3).toInt64)).bind fun h4 =>
  some ((0 : Int32), h4)
set_option maxRecDepth 100000 in
set_option maxHeartbeats 4000000 in
theorem w_L_at_e {p : Program} {l : Launch} {e : Env} {s : State} {m : MethodId} {args : Array Value} {below : List Frame} {meth : Method} {c : Code} {D : va_G} {ks : Nat → ClassId} {L : List Nat} {r : Int32} {h' : mh_H} (cx : mh_C p m c cL_at 5 s args RL meth D ks (mh_A L s.heap.size)) (th : mh_Th l (mh_A L s.heap.size) s) (nc : mh_Nc s) (htab : c.exceptionTable.toList = [⟨0, 10, 13, 13⟩]) (hr : meth.sig.returnType = (some .int)) :
    ∀ (o0 : Nat) (x1 : Int32) (x2 : Int32) (o3 : Nat) (h : mh_H) (H : Heap) (locs : List Loc) (ls : Array Slot), mh_W D ks L (mh_A L s.heap.size) s.heap h H locs → lv_has ls 5 [(0, .ref o0), (1, .int x1), (2, .int x2), (3, .ref o3)] → f_L_at_e o0 x1 x2 o3 h = some (r, h') → W p l e (mh_rx 8 2) s m args below meth c H locs 0 0 (MQ below (mh_Qi D ks L s.heap.size r h') args s 2 12 (mh_A L s.heap.size)) (F0 m 0 ls []) := by
  intro o0 x1 x2 o3 h H locs ls wd hl hX
  have hx := cx.1.1
  have hb := cx.1.2.1
  unfold f_L_at_e at hX
  refine lv_aload_n hx hb dL_at_0 rfl (lv_at hl 3 rfl) ?_
  refine lv_iconst (v := 0) hx hb dL_at_1 (by decide) ?_
  refine lv_aload_n hx hb dL_at_2 rfl (lv_at hl 0 rfl) ?_
  refine lv_iload_n hx hb dL_at_3 rfl (lv_at hl 1 rfl) ?_
  refine lv_iload_n hx hb dL_at_4 rfl (lv_at hl 2 rfl) ?_
  refine mh_xc mh_eI (K := 2) [.int x1, .int x2] cx th wd (rfl : vwCl[11]? = some (RX11, TX11, 16)) yw_X11_at vw_L_7 rfl hl.1 rfl (Nat.le_of_ble_eq_true rfl) dL_at_5 ⟨Nat.le_of_ble_eq_true rfl, Nat.le_of_ble_eq_true rfl⟩ ⟨Nat.le_of_ble_eq_true rfl, Nat.le_of_ble_eq_true rfl⟩ (fun _ _ q => c_X11_at q) hX (fun k h2 H locs q ce wd hX hq hv hcl => ?_) (fun v3 h1 H locs wd hX => ?_)
  · by_cases hk1 : k = 1
    · rw [if_pos hk1] at hX
      refine mh_wc1 cx mh_wl1 mh_wz1 htab (by decide) hk1 hq hv hcl ?_
      refine lv_astore (lv' := [(4, .ref q), (0, .ref o0), (1, .int x1), (2, .int x2), (3, .ref o3)]) hx hb dL_at_13 hl (Nat.le_of_ble_eq_true rfl) rfl (fun ls hl => ?_)
      refine lv_iconst (v := 1) hx hb dL_at_15 (by decide) ?_
      exact mh_wiret cx wd hr hX dL_at_16 ⟨Nat.le_of_ble_eq_true rfl, Nat.le_of_ble_eq_true rfl⟩
    · rw [if_neg hk1] at hX
      cases hX
  · refine W.eq (g2 := F0 m 8 ls [.int v3, .int (0 : Int32), .ref o3]) rfl ?_
    refine lv_i2l hx hb dL_at_8 rfl ?_
    refine mh_last cx wd dL_at_9 hX (fun h4 H locs wd hX => ?_)
    refine lv_goto (tgt := 17) hx hb dL_at_10 rfl ?_
    refine lv_iconst (v := 0) hx hb dL_at_17 (by decide) ?_
    exact mh_wiret cx wd hr hX dL_at_18 ⟨Nat.le_of_ble_eq_true rfl, Nat.le_of_ble_eq_true rfl⟩
set_option maxRecDepth 100000 in
theorem c_L_at {l : Launch} {L : List Nat} {h h' : mh_H} {r : Int32} {o0 : Nat} {x1 : Int32} {x2 : Int32} {o3 : Nat} (hX : f_L_at_e o0 x1 x2 o3 h = some (r, h')) : mh_Mt l yL_at (Cond.codeWith yL_at cL_at 5 (some .int) [(0, 10, 13, 13)] :: mh_TB) (mh_rx 8 2) [.ref o0, .int x1, .int x2, .ref o3] L h r h' 2 12 :=
  mh_wof (by decide) (Nat.le_of_ble_eq_true rfl) (fun p e s m below meth c D ks ls hr cx th nc htab wd hl => by
    have hl : lv_has ls 5 [(0, .ref o0), (1, .int x1), (2, .int x2), (3, .ref o3)] := hl
    exact w_L_at_e cx th nc htab hr o0 x1 x2 o3 h _ _ ls wd hl hX)
def f_L_fewest_e (o0 : Nat) (x1 : Int32) (y2 : Int64) (o4 : Nat) (h : mh_H) : Option (Int32 × mh_H) :=
  mh_bc (mh_cal h o0 11 (f_X11_fewest_e o0 x1 y2 h)) (fun k h2 => if k = 1 then (some ((1 : Int32), h2)) else if k = 2 then (some ((2 : Int32), h2)) else none) fun w3 h1 =>
  (mh_sJ h1 o4 (0 : Int32) w3).bind fun h4 =>
  some ((0 : Int32), h4)
set_option maxRecDepth 100000 in
set_option maxHeartbeats 4000000 in
theorem w_L_fewest_e {p : Program} {l : Launch} {e : Env} {s : State} {m : MethodId} {args : Array Value} {below : List Frame} {meth : Method} {c : Code} {D : va_G} {ks : Nat → ClassId} {L : List Nat} {r : Int32} {h' : mh_H} (cx : mh_C p m c cL_fewest 6 s args RL meth D ks (mh_A L s.heap.size)) (th : mh_Th l (mh_A L s.heap.size) s) (nc : mh_Nc s) (htab : c.exceptionTable.toList = [⟨0, 10, 13, 13⟩, ⟨0, 10, 17, 19⟩]) (hr : meth.sig.returnType = (some .int)) :
    ∀ (o0 : Nat) (x1 : Int32) (y2 : Int64) (o4 : Nat) (h : mh_H) (H : Heap) (locs : List Loc) (ls : Array Slot), mh_W D ks L (mh_A L s.heap.size) s.heap h H locs → lv_has ls 6 [(0, .ref o0), (1, .int x1), (2, .long y2), (4, .ref o4)] → f_L_fewest_e o0 x1 y2 o4 h = some (r, h') → W p l e (mh_rx 8 2) s m args below meth c H locs 0 0 (MQ below (mh_Qi D ks L s.heap.size r h') args s 2 12 (mh_A L s.heap.size)) (F0 m 0 ls []) := by
  intro o0 x1 y2 o4 h H locs ls wd hl hX
  have hx := cx.1.1
  have hb := cx.1.2.1
  unfold f_L_fewest_e at hX
  refine lv_aload hx hb dL_fewest_0 (lv_at hl 3 rfl) ?_
  refine lv_iconst (v := 0) hx hb dL_fewest_2 (by decide) ?_
  refine lv_aload_n hx hb dL_fewest_3 rfl (lv_at hl 0 rfl) ?_
  refine lv_iload_n hx hb dL_fewest_4 rfl (lv_at hl 1 rfl) ?_
  refine lv_lload_n hx hb dL_fewest_5 rfl (lv_at hl 2 rfl) ?_
  refine mh_xc mh_eJ (K := 2) [.int x1, .long y2] cx th wd (rfl : vwCl[11]? = some (RX11, TX11, 16)) yw_X11_fewest vw_L_15 rfl hl.1 rfl (Nat.le_of_ble_eq_true rfl) dL_fewest_6 ⟨Nat.le_of_ble_eq_true rfl, Nat.le_of_ble_eq_true rfl⟩ ⟨Nat.le_of_ble_eq_true rfl, Nat.le_of_ble_eq_true rfl⟩ (fun _ _ q => c_X11_fewest q) hX (fun k h2 H locs q ce wd hX hq hv hcl => ?_) (fun w3 h1 H locs wd hX => ?_)
  · by_cases hk1 : k = 1
    · rw [if_pos hk1] at hX
      refine mh_wc1 cx mh_wl1 mh_wz1 htab (by decide) hk1 hq hv hcl ?_
      refine lv_astore (lv' := [(5, .ref q), (0, .ref o0), (1, .int x1), (2, .long y2), (4, .ref o4)]) hx hb dL_fewest_13 hl (Nat.le_of_ble_eq_true rfl) rfl (fun ls hl => ?_)
      refine lv_iconst (v := 1) hx hb dL_fewest_15 (by decide) ?_
      exact mh_wiret cx wd hr hX dL_fewest_16 ⟨Nat.le_of_ble_eq_true rfl, Nat.le_of_ble_eq_true rfl⟩
    · rw [if_neg hk1] at hX
      by_cases hk2 : k = 2
      · rw [if_pos hk2] at hX
        refine mh_wc2 cx nc mh_wl1 mh_wl2 mh_wz2 htab (by decide) hk2 hq hv hcl ?_
        refine lv_astore (lv' := [(5, .ref q), (0, .ref o0), (1, .int x1), (2, .long y2), (4, .ref o4)]) hx hb dL_fewest_17 hl (Nat.le_of_ble_eq_true rfl) rfl (fun ls hl => ?_)
        refine lv_iconst (v := 2) hx hb dL_fewest_19 (by decide) ?_
        exact mh_wiret cx wd hr hX dL_fewest_20 ⟨Nat.le_of_ble_eq_true rfl, Nat.le_of_ble_eq_true rfl⟩
      · rw [if_neg hk2] at hX
        cases hX
  · refine W.eq (g2 := F0 m 9 ls [.long w3, .int (0 : Int32), .ref o4]) rfl ?_
    refine mh_last cx wd dL_fewest_9 hX (fun h4 H locs wd hX => ?_)
    refine lv_goto (tgt := 21) hx hb dL_fewest_10 rfl ?_
    refine lv_iconst (v := 0) hx hb dL_fewest_21 (by decide) ?_
    exact mh_wiret cx wd hr hX dL_fewest_22 ⟨Nat.le_of_ble_eq_true rfl, Nat.le_of_ble_eq_true rfl⟩
set_option maxRecDepth 100000 in
theorem c_L_fewest {l : Launch} {L : List Nat} {h h' : mh_H} {r : Int32} {o0 : Nat} {x1 : Int32} {y2 : Int64} {o4 : Nat} (hX : f_L_fewest_e o0 x1 y2 o4 h = some (r, h')) : mh_Mt l yL_fewest (Cond.codeWith yL_fewest cL_fewest 6 (some .int) [(0, 10, 13, 13), (0, 10, 17, 19)] :: mh_TB) (mh_rx 8 2) [.ref o0, .int x1, .long y2, .ref o4] L h r h' 2 12 :=
  mh_wof (by decide) (Nat.le_of_ble_eq_true rfl) (fun p e s m below meth c D ks ls hr cx th nc htab wd hl => by
    have hl : lv_has ls 6 [(0, .ref o0), (1, .int x1), (2, .long y2), (4, .ref o4)] := hl
    exact w_L_fewest_e cx th nc htab hr o0 x1 y2 o4 h _ _ ls wd hl hX)
def f_L_with_e (o0 : Nat) (x1 : Int32) (y2 : Int64) (x4 : Int32) (o5 : Nat) (h : mh_H) : Option (Int32 × mh_H) :=
  mh_bc (mh_cal h o0 11 (f_X11_with_e o0 x1 y2 x4 h)) (fun k h2 => if k = 1 then (some ((1 : Int32), h2)) else if k = 2 then (some ((2 : Int32), h2)) else none) fun w3 h1 =>
  (mh_sJ h1 o5 (0 : Int32) w3).bind fun h4 =>
  some ((0 : Int32), h4)
set_option maxRecDepth 100000 in
set_option maxHeartbeats 4000000 in
theorem w_L_with_e {p : Program} {l : Launch} {e : Env} {s : State} {m : MethodId} {args : Array Value} {below : List Frame} {meth : Method} {c : Code} {D : va_G} {ks : Nat → ClassId} {L : List Nat} {r : Int32} {h' : mh_H} (cx : mh_C p m c cL_with 7 s args RL meth D ks (mh_A L s.heap.size)) (th : mh_Th l (mh_A L s.heap.size) s) (nc : mh_Nc s) (htab : c.exceptionTable.toList = [⟨0, 12, 15, 13⟩, ⟨0, 12, 19, 19⟩]) (hr : meth.sig.returnType = (some .int)) :
    ∀ (o0 : Nat) (x1 : Int32) (y2 : Int64) (x4 : Int32) (o5 : Nat) (h : mh_H) (H : Heap) (locs : List Loc) (ls : Array Slot), mh_W D ks L (mh_A L s.heap.size) s.heap h H locs → lv_has ls 7 [(0, .ref o0), (1, .int x1), (2, .long y2), (4, .int x4), (5, .ref o5)] → f_L_with_e o0 x1 y2 x4 o5 h = some (r, h') → W p l e (mh_rx 8 3) s m args below meth c H locs 0 0 (MQ below (mh_Qi D ks L s.heap.size r h') args s 3 18 (mh_A L s.heap.size)) (F0 m 0 ls []) := by
  intro o0 x1 y2 x4 o5 h H locs ls wd hl hX
  have hx := cx.1.1
  have hb := cx.1.2.1
  unfold f_L_with_e at hX
  refine lv_aload hx hb dL_with_0 (lv_at hl 4 rfl) ?_
  refine lv_iconst (v := 0) hx hb dL_with_2 (by decide) ?_
  refine lv_aload_n hx hb dL_with_3 rfl (lv_at hl 0 rfl) ?_
  refine lv_iload_n hx hb dL_with_4 rfl (lv_at hl 1 rfl) ?_
  refine lv_lload_n hx hb dL_with_5 rfl (lv_at hl 2 rfl) ?_
  refine lv_iload hx hb dL_with_6 (lv_at hl 3 rfl) ?_
  refine mh_xc mh_eJ (K := 3) [.int x1, .long y2, .int x4] cx th wd (rfl : vwCl[11]? = some (RX11, TX11, 16)) yw_X11_with vw_L_21 rfl hl.1 rfl (Nat.le_of_ble_eq_true rfl) dL_with_8 ⟨Nat.le_of_ble_eq_true rfl, Nat.le_of_ble_eq_true rfl⟩ ⟨Nat.le_of_ble_eq_true rfl, Nat.le_of_ble_eq_true rfl⟩ (fun _ _ q => c_X11_with q) hX (fun k h2 H locs q ce wd hX hq hv hcl => ?_) (fun w3 h1 H locs wd hX => ?_)
  · by_cases hk1 : k = 1
    · rw [if_pos hk1] at hX
      refine mh_wc1 cx mh_wl1 mh_wz1 htab (by decide) hk1 hq hv hcl ?_
      refine lv_astore (lv' := [(6, .ref q), (0, .ref o0), (1, .int x1), (2, .long y2), (4, .int x4), (5, .ref o5)]) hx hb dL_with_15 hl (Nat.le_of_ble_eq_true rfl) rfl (fun ls hl => ?_)
      refine lv_iconst (v := 1) hx hb dL_with_17 (by decide) ?_
      exact mh_wiret cx wd hr hX dL_with_18 ⟨Nat.le_of_ble_eq_true rfl, Nat.le_of_ble_eq_true rfl⟩
    · rw [if_neg hk1] at hX
      by_cases hk2 : k = 2
      · rw [if_pos hk2] at hX
        refine mh_wc2 cx nc mh_wl1 mh_wl2 mh_wz2 htab (by decide) hk2 hq hv hcl ?_
        refine lv_astore (lv' := [(6, .ref q), (0, .ref o0), (1, .int x1), (2, .long y2), (4, .int x4), (5, .ref o5)]) hx hb dL_with_19 hl (Nat.le_of_ble_eq_true rfl) rfl (fun ls hl => ?_)
        refine lv_iconst (v := 2) hx hb dL_with_21 (by decide) ?_
        exact mh_wiret cx wd hr hX dL_with_22 ⟨Nat.le_of_ble_eq_true rfl, Nat.le_of_ble_eq_true rfl⟩
      · rw [if_neg hk2] at hX
        cases hX
  · refine W.eq (g2 := F0 m 11 ls [.long w3, .int (0 : Int32), .ref o5]) rfl ?_
    refine mh_last cx wd dL_with_11 hX (fun h4 H locs wd hX => ?_)
    refine lv_goto (tgt := 23) hx hb dL_with_12 rfl ?_
    refine lv_iconst (v := 0) hx hb dL_with_23 (by decide) ?_
    exact mh_wiret cx wd hr hX dL_with_24 ⟨Nat.le_of_ble_eq_true rfl, Nat.le_of_ble_eq_true rfl⟩
set_option maxRecDepth 100000 in
theorem c_L_with {l : Launch} {L : List Nat} {h h' : mh_H} {r : Int32} {o0 : Nat} {x1 : Int32} {y2 : Int64} {x4 : Int32} {o5 : Nat} (hX : f_L_with_e o0 x1 y2 x4 o5 h = some (r, h')) : mh_Mt l yL_with (Cond.codeWith yL_with cL_with 7 (some .int) [(0, 12, 15, 13), (0, 12, 19, 19)] :: mh_TB) (mh_rx 8 3) [.ref o0, .int x1, .long y2, .int x4, .ref o5] L h r h' 3 18 :=
  mh_wof (by decide) (Nat.le_of_ble_eq_true rfl) (fun p e s m below meth c D ks ls hr cx th nc htab wd hl => by
    have hl : lv_has ls 7 [(0, .ref o0), (1, .int x1), (2, .long y2), (4, .int x4), (5, .ref o5)] := hl
    exact w_L_with_e cx th nc htab hr o0 x1 y2 x4 o5 h _ _ ls wd hl hX)
def f_L_greedy_e (o0 : Nat) (x1 : Int32) (y2 : Int64) (o4 : Nat) (h : mh_H) : Option (Int32 × mh_H) :=
  mh_bc (mh_cal h o0 11 (f_X11_greedy_e o0 x1 y2 h)) (fun k h2 => if k = 1 then (some ((1 : Int32), h2)) else if k = 2 then (some ((2 : Int32), h2)) else none) fun w3 h1 =>
  (mh_sJ h1 o4 (0 : Int32) w3).bind fun h4 =>
  some ((0 : Int32), h4)
set_option maxRecDepth 100000 in
set_option maxHeartbeats 4000000 in
theorem w_L_greedy_e {p : Program} {l : Launch} {e : Env} {s : State} {m : MethodId} {args : Array Value} {below : List Frame} {meth : Method} {c : Code} {D : va_G} {ks : Nat → ClassId} {L : List Nat} {r : Int32} {h' : mh_H} (cx : mh_C p m c cL_greedy 6 s args RL meth D ks (mh_A L s.heap.size)) (th : mh_Th l (mh_A L s.heap.size) s) (nc : mh_Nc s) (htab : c.exceptionTable.toList = [⟨0, 10, 13, 13⟩, ⟨0, 10, 17, 19⟩]) (hr : meth.sig.returnType = (some .int)) :
    ∀ (o0 : Nat) (x1 : Int32) (y2 : Int64) (o4 : Nat) (h : mh_H) (H : Heap) (locs : List Loc) (ls : Array Slot), mh_W D ks L (mh_A L s.heap.size) s.heap h H locs → lv_has ls 6 [(0, .ref o0), (1, .int x1), (2, .long y2), (4, .ref o4)] → f_L_greedy_e o0 x1 y2 o4 h = some (r, h') → W p l e (mh_rx 8 2) s m args below meth c H locs 0 0 (MQ below (mh_Qi D ks L s.heap.size r h') args s 2 12 (mh_A L s.heap.size)) (F0 m 0 ls []) := by
  intro o0 x1 y2 o4 h H locs ls wd hl hX
  have hx := cx.1.1
  have hb := cx.1.2.1
  unfold f_L_greedy_e at hX
  refine lv_aload hx hb dL_greedy_0 (lv_at hl 3 rfl) ?_
  refine lv_iconst (v := 0) hx hb dL_greedy_2 (by decide) ?_
  refine lv_aload_n hx hb dL_greedy_3 rfl (lv_at hl 0 rfl) ?_
  refine lv_iload_n hx hb dL_greedy_4 rfl (lv_at hl 1 rfl) ?_
  refine lv_lload_n hx hb dL_greedy_5 rfl (lv_at hl 2 rfl) ?_
  refine mh_xc mh_eJ (K := 2) [.int x1, .long y2] cx th wd (rfl : vwCl[11]? = some (RX11, TX11, 16)) yw_X11_greedy vw_L_25 rfl hl.1 rfl (Nat.le_of_ble_eq_true rfl) dL_greedy_6 ⟨Nat.le_of_ble_eq_true rfl, Nat.le_of_ble_eq_true rfl⟩ ⟨Nat.le_of_ble_eq_true rfl, Nat.le_of_ble_eq_true rfl⟩ (fun _ _ q => c_X11_greedy q) hX (fun k h2 H locs q ce wd hX hq hv hcl => ?_) (fun w3 h1 H locs wd hX => ?_)
  · by_cases hk1 : k = 1
    · rw [if_pos hk1] at hX
      refine mh_wc1 cx mh_wl1 mh_wz1 htab (by decide) hk1 hq hv hcl ?_
      refine lv_astore (lv' := [(5, .ref q), (0, .ref o0), (1, .int x1), (2, .long y2), (4, .ref o4)]) hx hb dL_greedy_13 hl (Nat.le_of_ble_eq_true rfl) rfl (fun ls hl => ?_)
      refine lv_iconst (v := 1) hx hb dL_greedy_15 (by decide) ?_
      exact mh_wiret cx wd hr hX dL_greedy_16 ⟨Nat.le_of_ble_eq_true rfl, Nat.le_of_ble_eq_true rfl⟩
    · rw [if_neg hk1] at hX
      by_cases hk2 : k = 2
      · rw [if_pos hk2] at hX
        refine mh_wc2 cx nc mh_wl1 mh_wl2 mh_wz2 htab (by decide) hk2 hq hv hcl ?_
        refine lv_astore (lv' := [(5, .ref q), (0, .ref o0), (1, .int x1), (2, .long y2), (4, .ref o4)]) hx hb dL_greedy_17 hl (Nat.le_of_ble_eq_true rfl) rfl (fun ls hl => ?_)
        refine lv_iconst (v := 2) hx hb dL_greedy_19 (by decide) ?_
        exact mh_wiret cx wd hr hX dL_greedy_20 ⟨Nat.le_of_ble_eq_true rfl, Nat.le_of_ble_eq_true rfl⟩
      · rw [if_neg hk2] at hX
        cases hX
  · refine W.eq (g2 := F0 m 9 ls [.long w3, .int (0 : Int32), .ref o4]) rfl ?_
    refine mh_last cx wd dL_greedy_9 hX (fun h4 H locs wd hX => ?_)
    refine lv_goto (tgt := 21) hx hb dL_greedy_10 rfl ?_
    refine lv_iconst (v := 0) hx hb dL_greedy_21 (by decide) ?_
    exact mh_wiret cx wd hr hX dL_greedy_22 ⟨Nat.le_of_ble_eq_true rfl, Nat.le_of_ble_eq_true rfl⟩
set_option maxRecDepth 100000 in
theorem c_L_greedy {l : Launch} {L : List Nat} {h h' : mh_H} {r : Int32} {o0 : Nat} {x1 : Int32} {y2 : Int64} {o4 : Nat} (hX : f_L_greedy_e o0 x1 y2 o4 h = some (r, h')) : mh_Mt l yL_greedy (Cond.codeWith yL_greedy cL_greedy 6 (some .int) [(0, 10, 13, 13), (0, 10, 17, 19)] :: mh_TB) (mh_rx 8 2) [.ref o0, .int x1, .long y2, .ref o4] L h r h' 2 12 :=
  mh_wof (by decide) (Nat.le_of_ble_eq_true rfl) (fun p e s m below meth c D ks ls hr cx th nc htab wd hl => by
    have hl : lv_has ls 6 [(0, .ref o0), (1, .int x1), (2, .long y2), (4, .ref o4)] := hl
    exact w_L_greedy_e cx th nc htab hr o0 x1 y2 o4 h _ _ ls wd hl hX)
def f_L_always_b15 (t0 : Nat) (t1 : Int32) (t2 : Int64) (h : mh_H) : Option (Int32 × mh_H) :=
  (mh_sJ h t0 t1 t2).bind fun h1 =>
  some ((0 : Int32), h1)
def f_L_always_e (o0 : Nat) (x1 : Int32) (o2 : Nat) (h : mh_H) : Option (Int32 × mh_H) :=
  mh_bc (mh_cal h o0 11 (f_X11_always_e o0 x1 h)) (fun k h3 => if k = 1 then (some ((1 : Int32), h3)) else none) fun v4 h2 =>
  if v4 = 0 then (
  f_L_always_b15 o2 (0 : Int32) (0 : Int64) h2) else
  f_L_always_b15 o2 (0 : Int32) (1 : Int64) h2
set_option maxRecDepth 100000 in
set_option maxHeartbeats 4000000 in
theorem w_L_always_b15 {p : Program} {l : Launch} {e : Env} {s : State} {m : MethodId} {args : Array Value} {below : List Frame} {meth : Method} {c : Code} {D : va_G} {ks : Nat → ClassId} {L : List Nat} {r : Int32} {h' : mh_H} (cx : mh_C p m c cL_always 4 s args RL meth D ks (mh_A L s.heap.size)) (th : mh_Th l (mh_A L s.heap.size) s) (nc : mh_Nc s) (htab : c.exceptionTable.toList = [⟨0, 16, 19, 13⟩]) (hr : meth.sig.returnType = (some .int)) :
    ∀ (t0 : Nat) (t1 : Int32) (t2 : Int64) (h : mh_H) (H : Heap) (locs : List Loc) (ls : Array Slot), mh_W D ks L (mh_A L s.heap.size) s.heap h H locs → lv_has ls 4 [] → f_L_always_b15 t0 t1 t2 h = some (r, h') → W p l e (mh_rx 8 1) s m args below meth c H locs 1 6 (MQ below (mh_Qi D ks L s.heap.size r h') args s 1 6 (mh_A L s.heap.size)) (F0 m 15 ls [.long t2, .int t1, .ref t0]) := by
  intro t0 t1 t2 h H locs ls wd hl hX
  have hx := cx.1.1
  have hb := cx.1.2.1
  unfold f_L_always_b15 at hX
  refine mh_last cx wd dL_always_15 hX (fun h1 H locs wd hX => ?_)
  refine lv_goto (tgt := 22) hx hb dL_always_16 rfl ?_
  refine lv_iconst (v := 0) hx hb dL_always_22 (by decide) ?_
  exact mh_wiret cx wd hr hX dL_always_23 ⟨Nat.le_of_ble_eq_true rfl, Nat.le_of_ble_eq_true rfl⟩
set_option maxRecDepth 100000 in
set_option maxHeartbeats 4000000 in
theorem w_L_always_e {p : Program} {l : Launch} {e : Env} {s : State} {m : MethodId} {args : Array Value} {below : List Frame} {meth : Method} {c : Code} {D : va_G} {ks : Nat → ClassId} {L : List Nat} {r : Int32} {h' : mh_H} (cx : mh_C p m c cL_always 4 s args RL meth D ks (mh_A L s.heap.size)) (th : mh_Th l (mh_A L s.heap.size) s) (nc : mh_Nc s) (htab : c.exceptionTable.toList = [⟨0, 16, 19, 13⟩]) (hr : meth.sig.returnType = (some .int)) :
    ∀ (o0 : Nat) (x1 : Int32) (o2 : Nat) (h : mh_H) (H : Heap) (locs : List Loc) (ls : Array Slot), mh_W D ks L (mh_A L s.heap.size) s.heap h H locs → lv_has ls 4 [(0, .ref o0), (1, .int x1), (2, .ref o2)] → f_L_always_e o0 x1 o2 h = some (r, h') → W p l e (mh_rx 8 1) s m args below meth c H locs 0 0 (MQ below (mh_Qi D ks L s.heap.size r h') args s 1 6 (mh_A L s.heap.size)) (F0 m 0 ls []) := by
  intro o0 x1 o2 h H locs ls wd hl hX
  have hx := cx.1.1
  have hb := cx.1.2.1
  unfold f_L_always_e at hX
  refine lv_aload_n hx hb dL_always_0 rfl (lv_at hl 2 rfl) ?_
  refine lv_iconst (v := 0) hx hb dL_always_1 (by decide) ?_
  refine lv_aload_n hx hb dL_always_2 rfl (lv_at hl 0 rfl) ?_
  refine lv_iload_n hx hb dL_always_3 rfl (lv_at hl 1 rfl) ?_
  refine mh_xc mh_eI (K := 1) [.int x1] cx th wd (rfl : vwCl[11]? = some (RX11, TX11, 16)) yw_X11_always vw_L_28 rfl hl.1 rfl (Nat.le_of_ble_eq_true rfl) dL_always_4 ⟨Nat.le_of_ble_eq_true rfl, Nat.le_of_ble_eq_true rfl⟩ ⟨Nat.le_of_ble_eq_true rfl, Nat.le_of_ble_eq_true rfl⟩ (fun _ _ q => c_X11_always q) hX (fun k h3 H locs q ce wd hX hq hv hcl => ?_) (fun v4 h2 H locs wd hX => ?_)
  · by_cases hk1 : k = 1
    · rw [if_pos hk1] at hX
      refine mh_wc1 cx mh_wl1 mh_wz1 htab (by decide) hk1 hq hv hcl ?_
      refine lv_astore_n (lv' := [(3, .ref q), (0, .ref o0), (1, .int x1), (2, .ref o2)]) hx hb dL_always_19 rfl hl (Nat.le_of_ble_eq_true rfl) rfl (fun ls hl => ?_)
      refine lv_iconst (v := 1) hx hb dL_always_20 (by decide) ?_
      exact mh_wiret cx wd hr hX dL_always_21 ⟨Nat.le_of_ble_eq_true rfl, Nat.le_of_ble_eq_true rfl⟩
    · rw [if_neg hk1] at hX
      cases hX
  · refine W.eq (g2 := F0 m 7 ls [.int v4, .int (0 : Int32), .ref o2]) rfl ?_
    refine lv_if_eq (tgt := 14) hx hb dL_always_7 rfl (fun hc => (fun hX => ?_) ((mh_if hX).1 hc)) (fun hc => (fun hX => ?_) ((mh_if hX).2 hc))
    · refine lv_lconst (v := 0) hx hb dL_always_14 (by decide) ?_
      exact w_L_always_b15 cx th nc htab hr _ _ _ h2 _ _ ls wd (lv_sub hl [] rfl) hX
    · refine lv_lconst (v := 1) hx hb dL_always_10 (by decide) ?_
      refine lv_goto (tgt := 15) hx hb dL_always_11 rfl ?_
      exact w_L_always_b15 cx th nc htab hr _ _ _ h2 _ _ ls wd (lv_sub hl [] rfl) hX
set_option maxRecDepth 100000 in
theorem c_L_always {l : Launch} {L : List Nat} {h h' : mh_H} {r : Int32} {o0 : Nat} {x1 : Int32} {o2 : Nat} (hX : f_L_always_e o0 x1 o2 h = some (r, h')) : mh_Mt l yL_always (Cond.codeWith yL_always cL_always 4 (some .int) [(0, 16, 19, 13)] :: mh_TB) (mh_rx 8 1) [.ref o0, .int x1, .ref o2] L h r h' 1 6 :=
  mh_wof (by decide) (Nat.le_of_ble_eq_true rfl) (fun p e s m below meth c D ks ls hr cx th nc htab wd hl => by
    have hl : lv_has ls 4 [(0, .ref o0), (1, .int x1), (2, .ref o2)] := hl
    exact w_L_always_e cx th nc htab hr o0 x1 o2 h _ _ ls wd hl hX)
def f_L_fails_e (o0 : Nat) (x1 : Int32) (o2 : Nat) (h : mh_H) : Option (Int32 × mh_H) :=
  mh_bc (mh_cal h o0 11 (f_X11_fails_e o0 x1 h)) (fun k h2 => if k = 1 then (some ((1 : Int32), h2)) else none) fun v3 h1 =>
  (mh_sJ h1 o2 (0 : Int32) ((v3).toInt64)).bind fun h4 =>
  some ((0 : Int32), h4)
set_option maxRecDepth 100000 in
set_option maxHeartbeats 4000000 in
theorem w_L_fails_e {p : Program} {l : Launch} {e : Env} {s : State} {m : MethodId} {args : Array Value} {below : List Frame} {meth : Method} {c : Code} {D : va_G} {ks : Nat → ClassId} {L : List Nat} {r : Int32} {h' : mh_H} (cx : mh_C p m c cL_fails 4 s args RL meth D ks (mh_A L s.heap.size)) (th : mh_Th l (mh_A L s.heap.size) s) (nc : mh_Nc s) (htab : c.exceptionTable.toList = [⟨0, 9, 12, 13⟩]) (hr : meth.sig.returnType = (some .int)) :
    ∀ (o0 : Nat) (x1 : Int32) (o2 : Nat) (h : mh_H) (H : Heap) (locs : List Loc) (ls : Array Slot), mh_W D ks L (mh_A L s.heap.size) s.heap h H locs → lv_has ls 4 [(0, .ref o0), (1, .int x1), (2, .ref o2)] → f_L_fails_e o0 x1 o2 h = some (r, h') → W p l e (mh_rx 8 1) s m args below meth c H locs 0 0 (MQ below (mh_Qi D ks L s.heap.size r h') args s 1 6 (mh_A L s.heap.size)) (F0 m 0 ls []) := by
  intro o0 x1 o2 h H locs ls wd hl hX
  have hx := cx.1.1
  have hb := cx.1.2.1
  unfold f_L_fails_e at hX
  refine lv_aload_n hx hb dL_fails_0 rfl (lv_at hl 2 rfl) ?_
  refine lv_iconst (v := 0) hx hb dL_fails_1 (by decide) ?_
  refine lv_aload_n hx hb dL_fails_2 rfl (lv_at hl 0 rfl) ?_
  refine lv_iload_n hx hb dL_fails_3 rfl (lv_at hl 1 rfl) ?_
  refine mh_xc mh_eI (K := 1) [.int x1] cx th wd (rfl : vwCl[11]? = some (RX11, TX11, 16)) yw_X11_fails vw_L_32 rfl hl.1 rfl (Nat.le_of_ble_eq_true rfl) dL_fails_4 ⟨Nat.le_of_ble_eq_true rfl, Nat.le_of_ble_eq_true rfl⟩ ⟨Nat.le_of_ble_eq_true rfl, Nat.le_of_ble_eq_true rfl⟩ (fun _ _ q => c_X11_fails q) hX (fun k h2 H locs q ce wd hX hq hv hcl => ?_) (fun v3 h1 H locs wd hX => ?_)
  · by_cases hk1 : k = 1
    · rw [if_pos hk1] at hX
      refine mh_wc1 cx mh_wl1 mh_wz1 htab (by decide) hk1 hq hv hcl ?_
      refine lv_astore_n (lv' := [(3, .ref q), (0, .ref o0), (1, .int x1), (2, .ref o2)]) hx hb dL_fails_12 rfl hl (Nat.le_of_ble_eq_true rfl) rfl (fun ls hl => ?_)
      refine lv_iconst (v := 1) hx hb dL_fails_13 (by decide) ?_
      exact mh_wiret cx wd hr hX dL_fails_14 ⟨Nat.le_of_ble_eq_true rfl, Nat.le_of_ble_eq_true rfl⟩
    · rw [if_neg hk1] at hX
      cases hX
  · refine W.eq (g2 := F0 m 7 ls [.int v3, .int (0 : Int32), .ref o2]) rfl ?_
    refine lv_i2l hx hb dL_fails_7 rfl ?_
    refine mh_last cx wd dL_fails_8 hX (fun h4 H locs wd hX => ?_)
    refine lv_goto (tgt := 15) hx hb dL_fails_9 rfl ?_
    refine lv_iconst (v := 0) hx hb dL_fails_15 (by decide) ?_
    exact mh_wiret cx wd hr hX dL_fails_16 ⟨Nat.le_of_ble_eq_true rfl, Nat.le_of_ble_eq_true rfl⟩
set_option maxRecDepth 100000 in
theorem c_L_fails {l : Launch} {L : List Nat} {h h' : mh_H} {r : Int32} {o0 : Nat} {x1 : Int32} {o2 : Nat} (hX : f_L_fails_e o0 x1 o2 h = some (r, h')) : mh_Mt l yL_fails (Cond.codeWith yL_fails cL_fails 4 (some .int) [(0, 9, 12, 13)] :: mh_TB) (mh_rx 8 1) [.ref o0, .int x1, .ref o2] L h r h' 1 6 :=
  mh_wof (by decide) (Nat.le_of_ble_eq_true rfl) (fun p e s m below meth c D ks ls hr cx th nc htab wd hl => by
    have hl : lv_has ls 4 [(0, .ref o0), (1, .int x1), (2, .ref o2)] := hl
    exact w_L_fails_e cx th nc htab hr o0 x1 o2 h _ _ ls wd hl hX)
def f_L_divisor_e (o0 : Nat) (x1 : Int32) (o2 : Nat) (h : mh_H) : Option (Int32 × mh_H) :=
  mh_bc (mh_cal h o0 11 (f_X11_divisor_e o0 x1 h)) (fun k h2 => if k = 1 then (some ((1 : Int32), h2)) else none) fun v3 h1 =>
  (mh_sJ h1 o2 (0 : Int32) ((v3).toInt64)).bind fun h4 =>
  some ((0 : Int32), h4)
set_option maxRecDepth 100000 in
set_option maxHeartbeats 4000000 in
theorem w_L_divisor_e {p : Program} {l : Launch} {e : Env} {s : State} {m : MethodId} {args : Array Value} {below : List Frame} {meth : Method} {c : Code} {D : va_G} {ks : Nat → ClassId} {L : List Nat} {r : Int32} {h' : mh_H} (cx : mh_C p m c cL_divisor 4 s args RL meth D ks (mh_A L s.heap.size)) (th : mh_Th l (mh_A L s.heap.size) s) (nc : mh_Nc s) (htab : c.exceptionTable.toList = [⟨0, 9, 12, 13⟩]) (hr : meth.sig.returnType = (some .int)) :
    ∀ (o0 : Nat) (x1 : Int32) (o2 : Nat) (h : mh_H) (H : Heap) (locs : List Loc) (ls : Array Slot), mh_W D ks L (mh_A L s.heap.size) s.heap h H locs → lv_has ls 4 [(0, .ref o0), (1, .int x1), (2, .ref o2)] → f_L_divisor_e o0 x1 o2 h = some (r, h') → W p l e (mh_rx 8 1) s m args below meth c H locs 0 0 (MQ below (mh_Qi D ks L s.heap.size r h') args s 1 6 (mh_A L s.heap.size)) (F0 m 0 ls []) := by
  intro o0 x1 o2 h H locs ls wd hl hX
  have hx := cx.1.1
  have hb := cx.1.2.1
  unfold f_L_divisor_e at hX
  refine lv_aload_n hx hb dL_divisor_0 rfl (lv_at hl 2 rfl) ?_
  refine lv_iconst (v := 0) hx hb dL_divisor_1 (by decide) ?_
  refine lv_aload_n hx hb dL_divisor_2 rfl (lv_at hl 0 rfl) ?_
  refine lv_iload_n hx hb dL_divisor_3 rfl (lv_at hl 1 rfl) ?_
  refine mh_xc mh_eI (K := 1) [.int x1] cx th wd (rfl : vwCl[11]? = some (RX11, TX11, 16)) yw_X11_divisor vw_L_36 rfl hl.1 rfl (Nat.le_of_ble_eq_true rfl) dL_divisor_4 ⟨Nat.le_of_ble_eq_true rfl, Nat.le_of_ble_eq_true rfl⟩ ⟨Nat.le_of_ble_eq_true rfl, Nat.le_of_ble_eq_true rfl⟩ (fun _ _ q => c_X11_divisor q) hX (fun k h2 H locs q ce wd hX hq hv hcl => ?_) (fun v3 h1 H locs wd hX => ?_)
  · by_cases hk1 : k = 1
    · rw [if_pos hk1] at hX
      refine mh_wc1 cx mh_wl1 mh_wz1 htab (by decide) hk1 hq hv hcl ?_
      refine lv_astore_n (lv' := [(3, .ref q), (0, .ref o0), (1, .int x1), (2, .ref o2)]) hx hb dL_divisor_12 rfl hl (Nat.le_of_ble_eq_true rfl) rfl (fun ls hl => ?_)
      refine lv_iconst (v := 1) hx hb dL_divisor_13 (by decide) ?_
      exact mh_wiret cx wd hr hX dL_divisor_14 ⟨Nat.le_of_ble_eq_true rfl, Nat.le_of_ble_eq_true rfl⟩
    · rw [if_neg hk1] at hX
      cases hX
  · refine W.eq (g2 := F0 m 7 ls [.int v3, .int (0 : Int32), .ref o2]) rfl ?_
    refine lv_i2l hx hb dL_divisor_7 rfl ?_
    refine mh_last cx wd dL_divisor_8 hX (fun h4 H locs wd hX => ?_)
    refine lv_goto (tgt := 15) hx hb dL_divisor_9 rfl ?_
    refine lv_iconst (v := 0) hx hb dL_divisor_15 (by decide) ?_
    exact mh_wiret cx wd hr hX dL_divisor_16 ⟨Nat.le_of_ble_eq_true rfl, Nat.le_of_ble_eq_true rfl⟩
set_option maxRecDepth 100000 in
theorem c_L_divisor {l : Launch} {L : List Nat} {h h' : mh_H} {r : Int32} {o0 : Nat} {x1 : Int32} {o2 : Nat} (hX : f_L_divisor_e o0 x1 o2 h = some (r, h')) : mh_Mt l yL_divisor (Cond.codeWith yL_divisor cL_divisor 4 (some .int) [(0, 9, 12, 13)] :: mh_TB) (mh_rx 8 1) [.ref o0, .int x1, .ref o2] L h r h' 1 6 :=
  mh_wof (by decide) (Nat.le_of_ble_eq_true rfl) (fun p e s m below meth c D ks ls hr cx th nc htab wd hl => by
    have hl : lv_has ls 4 [(0, .ref o0), (1, .int x1), (2, .ref o2)] := hl
    exact w_L_divisor_e cx th nc htab hr o0 x1 o2 h _ _ ls wd hl hX)
def f_L_many_e (o0 : Nat) (x1 : Int32) (o2 : Nat) (h : mh_H) : Option (Int32 × mh_H) :=
  mh_bc (mh_cal h o0 11 (f_X11_many_e o0 x1 h)) (fun k h2 => if k = 1 then (some ((1 : Int32), h2)) else none) fun w3 h1 =>
  (mh_sJ h1 o2 (0 : Int32) w3).bind fun h4 =>
  some ((0 : Int32), h4)
set_option maxRecDepth 100000 in
set_option maxHeartbeats 4000000 in
theorem w_L_many_e {p : Program} {l : Launch} {e : Env} {s : State} {m : MethodId} {args : Array Value} {below : List Frame} {meth : Method} {c : Code} {D : va_G} {ks : Nat → ClassId} {L : List Nat} {r : Int32} {h' : mh_H} (cx : mh_C p m c cL_many 4 s args RL meth D ks (mh_A L s.heap.size)) (th : mh_Th l (mh_A L s.heap.size) s) (nc : mh_Nc s) (htab : c.exceptionTable.toList = [⟨0, 8, 11, 13⟩]) (hr : meth.sig.returnType = (some .int)) :
    ∀ (o0 : Nat) (x1 : Int32) (o2 : Nat) (h : mh_H) (H : Heap) (locs : List Loc) (ls : Array Slot), mh_W D ks L (mh_A L s.heap.size) s.heap h H locs → lv_has ls 4 [(0, .ref o0), (1, .int x1), (2, .ref o2)] → f_L_many_e o0 x1 o2 h = some (r, h') → W p l e (mh_rx 8 1) s m args below meth c H locs 0 0 (MQ below (mh_Qi D ks L s.heap.size r h') args s 1 6 (mh_A L s.heap.size)) (F0 m 0 ls []) := by
  intro o0 x1 o2 h H locs ls wd hl hX
  have hx := cx.1.1
  have hb := cx.1.2.1
  unfold f_L_many_e at hX
  refine lv_aload_n hx hb dL_many_0 rfl (lv_at hl 2 rfl) ?_
  refine lv_iconst (v := 0) hx hb dL_many_1 (by decide) ?_
  refine lv_aload_n hx hb dL_many_2 rfl (lv_at hl 0 rfl) ?_
  refine lv_iload_n hx hb dL_many_3 rfl (lv_at hl 1 rfl) ?_
  refine mh_xc mh_eJ (K := 1) [.int x1] cx th wd (rfl : vwCl[11]? = some (RX11, TX11, 16)) yw_X11_many vw_L_39 rfl hl.1 rfl (Nat.le_of_ble_eq_true rfl) dL_many_4 ⟨Nat.le_of_ble_eq_true rfl, Nat.le_of_ble_eq_true rfl⟩ ⟨Nat.le_of_ble_eq_true rfl, Nat.le_of_ble_eq_true rfl⟩ (fun _ _ q => c_X11_many q) hX (fun k h2 H locs q ce wd hX hq hv hcl => ?_) (fun w3 h1 H locs wd hX => ?_)
  · by_cases hk1 : k = 1
    · rw [if_pos hk1] at hX
      refine mh_wc1 cx mh_wl1 mh_wz1 htab (by decide) hk1 hq hv hcl ?_
      refine lv_astore_n (lv' := [(3, .ref q), (0, .ref o0), (1, .int x1), (2, .ref o2)]) hx hb dL_many_11 rfl hl (Nat.le_of_ble_eq_true rfl) rfl (fun ls hl => ?_)
      refine lv_iconst (v := 1) hx hb dL_many_12 (by decide) ?_
      exact mh_wiret cx wd hr hX dL_many_13 ⟨Nat.le_of_ble_eq_true rfl, Nat.le_of_ble_eq_true rfl⟩
    · rw [if_neg hk1] at hX
      cases hX
  · refine W.eq (g2 := F0 m 7 ls [.long w3, .int (0 : Int32), .ref o2]) rfl ?_
    refine mh_last cx wd dL_many_7 hX (fun h4 H locs wd hX => ?_)
    refine lv_goto (tgt := 14) hx hb dL_many_8 rfl ?_
    refine lv_iconst (v := 0) hx hb dL_many_14 (by decide) ?_
    exact mh_wiret cx wd hr hX dL_many_15 ⟨Nat.le_of_ble_eq_true rfl, Nat.le_of_ble_eq_true rfl⟩
set_option maxRecDepth 100000 in
theorem c_L_many {l : Launch} {L : List Nat} {h h' : mh_H} {r : Int32} {o0 : Nat} {x1 : Int32} {o2 : Nat} (hX : f_L_many_e o0 x1 o2 h = some (r, h')) : mh_Mt l yL_many (Cond.codeWith yL_many cL_many 4 (some .int) [(0, 8, 11, 13)] :: mh_TB) (mh_rx 8 1) [.ref o0, .int x1, .ref o2] L h r h' 1 6 :=
  mh_wof (by decide) (Nat.le_of_ble_eq_true rfl) (fun p e s m below meth c D ks ls hr cx th nc htab wd hl => by
    have hl : lv_has ls 4 [(0, .ref o0), (1, .int x1), (2, .ref o2)] := hl
    exact w_L_many_e cx th nc htab hr o0 x1 o2 h _ _ ls wd hl hX)
def f_L_last_e (o0 : Nat) (x1 : Int32) (o2 : Nat) (h : mh_H) : Option (Int32 × mh_H) :=
  mh_bc (mh_cal h o0 11 (f_X11_last_e o0 x1 h)) (fun k h2 => if k = 1 then (some ((1 : Int32), h2)) else none) fun v3 h1 =>
  (mh_sJ h1 o2 (0 : Int32) ((v3).toInt64)).bind fun h4 =>
  some ((0 : Int32), h4)
set_option maxRecDepth 100000 in
set_option maxHeartbeats 4000000 in
theorem w_L_last_e {p : Program} {l : Launch} {e : Env} {s : State} {m : MethodId} {args : Array Value} {below : List Frame} {meth : Method} {c : Code} {D : va_G} {ks : Nat → ClassId} {L : List Nat} {r : Int32} {h' : mh_H} (cx : mh_C p m c cL_last 4 s args RL meth D ks (mh_A L s.heap.size)) (th : mh_Th l (mh_A L s.heap.size) s) (nc : mh_Nc s) (htab : c.exceptionTable.toList = [⟨0, 9, 12, 13⟩]) (hr : meth.sig.returnType = (some .int)) :
    ∀ (o0 : Nat) (x1 : Int32) (o2 : Nat) (h : mh_H) (H : Heap) (locs : List Loc) (ls : Array Slot), mh_W D ks L (mh_A L s.heap.size) s.heap h H locs → lv_has ls 4 [(0, .ref o0), (1, .int x1), (2, .ref o2)] → f_L_last_e o0 x1 o2 h = some (r, h') → W p l e (mh_rx 8 1) s m args below meth c H locs 0 0 (MQ below (mh_Qi D ks L s.heap.size r h') args s 1 6 (mh_A L s.heap.size)) (F0 m 0 ls []) := by
  intro o0 x1 o2 h H locs ls wd hl hX
  have hx := cx.1.1
  have hb := cx.1.2.1
  unfold f_L_last_e at hX
  refine lv_aload_n hx hb dL_last_0 rfl (lv_at hl 2 rfl) ?_
  refine lv_iconst (v := 0) hx hb dL_last_1 (by decide) ?_
  refine lv_aload_n hx hb dL_last_2 rfl (lv_at hl 0 rfl) ?_
  refine lv_iload_n hx hb dL_last_3 rfl (lv_at hl 1 rfl) ?_
  refine mh_xc mh_eI (K := 1) [.int x1] cx th wd (rfl : vwCl[11]? = some (RX11, TX11, 16)) yw_X11_last vw_L_43 rfl hl.1 rfl (Nat.le_of_ble_eq_true rfl) dL_last_4 ⟨Nat.le_of_ble_eq_true rfl, Nat.le_of_ble_eq_true rfl⟩ ⟨Nat.le_of_ble_eq_true rfl, Nat.le_of_ble_eq_true rfl⟩ (fun _ _ q => c_X11_last q) hX (fun k h2 H locs q ce wd hX hq hv hcl => ?_) (fun v3 h1 H locs wd hX => ?_)
  · by_cases hk1 : k = 1
    · rw [if_pos hk1] at hX
      refine mh_wc1 cx mh_wl1 mh_wz1 htab (by decide) hk1 hq hv hcl ?_
      refine lv_astore_n (lv' := [(3, .ref q), (0, .ref o0), (1, .int x1), (2, .ref o2)]) hx hb dL_last_12 rfl hl (Nat.le_of_ble_eq_true rfl) rfl (fun ls hl => ?_)
      refine lv_iconst (v := 1) hx hb dL_last_13 (by decide) ?_
      exact mh_wiret cx wd hr hX dL_last_14 ⟨Nat.le_of_ble_eq_true rfl, Nat.le_of_ble_eq_true rfl⟩
    · rw [if_neg hk1] at hX
      cases hX
  · refine W.eq (g2 := F0 m 7 ls [.int v3, .int (0 : Int32), .ref o2]) rfl ?_
    refine lv_i2l hx hb dL_last_7 rfl ?_
    refine mh_last cx wd dL_last_8 hX (fun h4 H locs wd hX => ?_)
    refine lv_goto (tgt := 15) hx hb dL_last_9 rfl ?_
    refine lv_iconst (v := 0) hx hb dL_last_15 (by decide) ?_
    exact mh_wiret cx wd hr hX dL_last_16 ⟨Nat.le_of_ble_eq_true rfl, Nat.le_of_ble_eq_true rfl⟩
set_option maxRecDepth 100000 in
theorem c_L_last {l : Launch} {L : List Nat} {h h' : mh_H} {r : Int32} {o0 : Nat} {x1 : Int32} {o2 : Nat} (hX : f_L_last_e o0 x1 o2 h = some (r, h')) : mh_Mt l yL_last (Cond.codeWith yL_last cL_last 4 (some .int) [(0, 9, 12, 13)] :: mh_TB) (mh_rx 8 1) [.ref o0, .int x1, .ref o2] L h r h' 1 6 :=
  mh_wof (by decide) (Nat.le_of_ble_eq_true rfl) (fun p e s m below meth c D ks ls hr cx th nc htab wd hl => by
    have hl : lv_has ls 4 [(0, .ref o0), (1, .int x1), (2, .ref o2)] := hl
    exact w_L_last_e cx th nc htab hr o0 x1 o2 h _ _ ls wd hl hX)
def f_L_gap_e (o0 : Nat) (x1 : Int32) (x2 : Int32) (o3 : Nat) (h : mh_H) : Option (Int32 × mh_H) :=
  mh_bc (mh_cal h o0 11 (f_X11_gap_e o0 x1 x2 h)) (fun k h2 => if k = 1 then (some ((1 : Int32), h2)) else if k = 2 then (some ((2 : Int32), h2)) else none) fun v3 h1 =>
  (mh_sJ h1 o3 (0 : Int32) ((v3).toInt64)).bind fun h4 =>
  some ((0 : Int32), h4)
set_option maxRecDepth 100000 in
set_option maxHeartbeats 4000000 in
theorem w_L_gap_e {p : Program} {l : Launch} {e : Env} {s : State} {m : MethodId} {args : Array Value} {below : List Frame} {meth : Method} {c : Code} {D : va_G} {ks : Nat → ClassId} {L : List Nat} {r : Int32} {h' : mh_H} (cx : mh_C p m c cL_gap 5 s args RL meth D ks (mh_A L s.heap.size)) (th : mh_Th l (mh_A L s.heap.size) s) (nc : mh_Nc s) (htab : c.exceptionTable.toList = [⟨0, 10, 13, 13⟩, ⟨0, 10, 17, 19⟩]) (hr : meth.sig.returnType = (some .int)) :
    ∀ (o0 : Nat) (x1 : Int32) (x2 : Int32) (o3 : Nat) (h : mh_H) (H : Heap) (locs : List Loc) (ls : Array Slot), mh_W D ks L (mh_A L s.heap.size) s.heap h H locs → lv_has ls 5 [(0, .ref o0), (1, .int x1), (2, .int x2), (3, .ref o3)] → f_L_gap_e o0 x1 x2 o3 h = some (r, h') → W p l e (mh_rx 8 2) s m args below meth c H locs 0 0 (MQ below (mh_Qi D ks L s.heap.size r h') args s 2 12 (mh_A L s.heap.size)) (F0 m 0 ls []) := by
  intro o0 x1 x2 o3 h H locs ls wd hl hX
  have hx := cx.1.1
  have hb := cx.1.2.1
  unfold f_L_gap_e at hX
  refine lv_aload_n hx hb dL_gap_0 rfl (lv_at hl 3 rfl) ?_
  refine lv_iconst (v := 0) hx hb dL_gap_1 (by decide) ?_
  refine lv_aload_n hx hb dL_gap_2 rfl (lv_at hl 0 rfl) ?_
  refine lv_iload_n hx hb dL_gap_3 rfl (lv_at hl 1 rfl) ?_
  refine lv_iload_n hx hb dL_gap_4 rfl (lv_at hl 2 rfl) ?_
  refine mh_xc mh_eI (K := 2) [.int x1, .int x2] cx th wd (rfl : vwCl[11]? = some (RX11, TX11, 16)) yw_X11_gap vw_L_46 rfl hl.1 rfl (Nat.le_of_ble_eq_true rfl) dL_gap_5 ⟨Nat.le_of_ble_eq_true rfl, Nat.le_of_ble_eq_true rfl⟩ ⟨Nat.le_of_ble_eq_true rfl, Nat.le_of_ble_eq_true rfl⟩ (fun _ _ q => c_X11_gap q) hX (fun k h2 H locs q ce wd hX hq hv hcl => ?_) (fun v3 h1 H locs wd hX => ?_)
  · by_cases hk1 : k = 1
    · rw [if_pos hk1] at hX
      refine mh_wc1 cx mh_wl1 mh_wz1 htab (by decide) hk1 hq hv hcl ?_
      refine lv_astore (lv' := [(4, .ref q), (0, .ref o0), (1, .int x1), (2, .int x2), (3, .ref o3)]) hx hb dL_gap_13 hl (Nat.le_of_ble_eq_true rfl) rfl (fun ls hl => ?_)
      refine lv_iconst (v := 1) hx hb dL_gap_15 (by decide) ?_
      exact mh_wiret cx wd hr hX dL_gap_16 ⟨Nat.le_of_ble_eq_true rfl, Nat.le_of_ble_eq_true rfl⟩
    · rw [if_neg hk1] at hX
      by_cases hk2 : k = 2
      · rw [if_pos hk2] at hX
        refine mh_wc2 cx nc mh_wl1 mh_wl2 mh_wz2 htab (by decide) hk2 hq hv hcl ?_
        refine lv_astore (lv' := [(4, .ref q), (0, .ref o0), (1, .int x1), (2, .int x2), (3, .ref o3)]) hx hb dL_gap_17 hl (Nat.le_of_ble_eq_true rfl) rfl (fun ls hl => ?_)
        refine lv_iconst (v := 2) hx hb dL_gap_19 (by decide) ?_
        exact mh_wiret cx wd hr hX dL_gap_20 ⟨Nat.le_of_ble_eq_true rfl, Nat.le_of_ble_eq_true rfl⟩
      · rw [if_neg hk2] at hX
        cases hX
  · refine W.eq (g2 := F0 m 8 ls [.int v3, .int (0 : Int32), .ref o3]) rfl ?_
    refine lv_i2l hx hb dL_gap_8 rfl ?_
    refine mh_last cx wd dL_gap_9 hX (fun h4 H locs wd hX => ?_)
    refine lv_goto (tgt := 21) hx hb dL_gap_10 rfl ?_
    refine lv_iconst (v := 0) hx hb dL_gap_21 (by decide) ?_
    exact mh_wiret cx wd hr hX dL_gap_22 ⟨Nat.le_of_ble_eq_true rfl, Nat.le_of_ble_eq_true rfl⟩
set_option maxRecDepth 100000 in
theorem c_L_gap {l : Launch} {L : List Nat} {h h' : mh_H} {r : Int32} {o0 : Nat} {x1 : Int32} {x2 : Int32} {o3 : Nat} (hX : f_L_gap_e o0 x1 x2 o3 h = some (r, h')) : mh_Mt l yL_gap (Cond.codeWith yL_gap cL_gap 5 (some .int) [(0, 10, 13, 13), (0, 10, 17, 19)] :: mh_TB) (mh_rx 8 2) [.ref o0, .int x1, .int x2, .ref o3] L h r h' 2 12 :=
  mh_wof (by decide) (Nat.le_of_ble_eq_true rfl) (fun p e s m below meth c D ks ls hr cx th nc htab wd hl => by
    have hl : lv_has ls 5 [(0, .ref o0), (1, .int x1), (2, .int x2), (3, .ref o3)] := hl
    exact w_L_gap_e cx th nc htab hr o0 x1 x2 o3 h _ _ ls wd hl hX)
def f_L_rest_e (o0 : Nat) (x1 : Int32) (x2 : Int32) (o3 : Nat) (h : mh_H) : Option (Int32 × mh_H) :=
  mh_bc (mh_cal h o0 11 (f_X11_rest_e o0 x1 x2 h)) (fun k h2 => if k = 1 then (some ((1 : Int32), h2)) else if k = 2 then (some ((2 : Int32), h2)) else none) fun v3 h1 =>
  (mh_sJ h1 o3 (0 : Int32) ((v3).toInt64)).bind fun h4 =>
  some ((0 : Int32), h4)
set_option maxRecDepth 100000 in
set_option maxHeartbeats 4000000 in
theorem w_L_rest_e {p : Program} {l : Launch} {e : Env} {s : State} {m : MethodId} {args : Array Value} {below : List Frame} {meth : Method} {c : Code} {D : va_G} {ks : Nat → ClassId} {L : List Nat} {r : Int32} {h' : mh_H} (cx : mh_C p m c cL_rest 5 s args RL meth D ks (mh_A L s.heap.size)) (th : mh_Th l (mh_A L s.heap.size) s) (nc : mh_Nc s) (htab : c.exceptionTable.toList = [⟨0, 10, 13, 13⟩, ⟨0, 10, 17, 19⟩]) (hr : meth.sig.returnType = (some .int)) :
    ∀ (o0 : Nat) (x1 : Int32) (x2 : Int32) (o3 : Nat) (h : mh_H) (H : Heap) (locs : List Loc) (ls : Array Slot), mh_W D ks L (mh_A L s.heap.size) s.heap h H locs → lv_has ls 5 [(0, .ref o0), (1, .int x1), (2, .int x2), (3, .ref o3)] → f_L_rest_e o0 x1 x2 o3 h = some (r, h') → W p l e (mh_rx 8 2) s m args below meth c H locs 0 0 (MQ below (mh_Qi D ks L s.heap.size r h') args s 2 12 (mh_A L s.heap.size)) (F0 m 0 ls []) := by
  intro o0 x1 x2 o3 h H locs ls wd hl hX
  have hx := cx.1.1
  have hb := cx.1.2.1
  unfold f_L_rest_e at hX
  refine lv_aload_n hx hb dL_rest_0 rfl (lv_at hl 3 rfl) ?_
  refine lv_iconst (v := 0) hx hb dL_rest_1 (by decide) ?_
  refine lv_aload_n hx hb dL_rest_2 rfl (lv_at hl 0 rfl) ?_
  refine lv_iload_n hx hb dL_rest_3 rfl (lv_at hl 1 rfl) ?_
  refine lv_iload_n hx hb dL_rest_4 rfl (lv_at hl 2 rfl) ?_
  refine mh_xc mh_eI (K := 2) [.int x1, .int x2] cx th wd (rfl : vwCl[11]? = some (RX11, TX11, 16)) yw_X11_rest vw_L_49 rfl hl.1 rfl (Nat.le_of_ble_eq_true rfl) dL_rest_5 ⟨Nat.le_of_ble_eq_true rfl, Nat.le_of_ble_eq_true rfl⟩ ⟨Nat.le_of_ble_eq_true rfl, Nat.le_of_ble_eq_true rfl⟩ (fun _ _ q => c_X11_rest q) hX (fun k h2 H locs q ce wd hX hq hv hcl => ?_) (fun v3 h1 H locs wd hX => ?_)
  · by_cases hk1 : k = 1
    · rw [if_pos hk1] at hX
      refine mh_wc1 cx mh_wl1 mh_wz1 htab (by decide) hk1 hq hv hcl ?_
      refine lv_astore (lv' := [(4, .ref q), (0, .ref o0), (1, .int x1), (2, .int x2), (3, .ref o3)]) hx hb dL_rest_13 hl (Nat.le_of_ble_eq_true rfl) rfl (fun ls hl => ?_)
      refine lv_iconst (v := 1) hx hb dL_rest_15 (by decide) ?_
      exact mh_wiret cx wd hr hX dL_rest_16 ⟨Nat.le_of_ble_eq_true rfl, Nat.le_of_ble_eq_true rfl⟩
    · rw [if_neg hk1] at hX
      by_cases hk2 : k = 2
      · rw [if_pos hk2] at hX
        refine mh_wc2 cx nc mh_wl1 mh_wl2 mh_wz2 htab (by decide) hk2 hq hv hcl ?_
        refine lv_astore (lv' := [(4, .ref q), (0, .ref o0), (1, .int x1), (2, .int x2), (3, .ref o3)]) hx hb dL_rest_17 hl (Nat.le_of_ble_eq_true rfl) rfl (fun ls hl => ?_)
        refine lv_iconst (v := 2) hx hb dL_rest_19 (by decide) ?_
        exact mh_wiret cx wd hr hX dL_rest_20 ⟨Nat.le_of_ble_eq_true rfl, Nat.le_of_ble_eq_true rfl⟩
      · rw [if_neg hk2] at hX
        cases hX
  · refine W.eq (g2 := F0 m 8 ls [.int v3, .int (0 : Int32), .ref o3]) rfl ?_
    refine lv_i2l hx hb dL_rest_8 rfl ?_
    refine mh_last cx wd dL_rest_9 hX (fun h4 H locs wd hX => ?_)
    refine lv_goto (tgt := 21) hx hb dL_rest_10 rfl ?_
    refine lv_iconst (v := 0) hx hb dL_rest_21 (by decide) ?_
    exact mh_wiret cx wd hr hX dL_rest_22 ⟨Nat.le_of_ble_eq_true rfl, Nat.le_of_ble_eq_true rfl⟩
set_option maxRecDepth 100000 in
theorem c_L_rest {l : Launch} {L : List Nat} {h h' : mh_H} {r : Int32} {o0 : Nat} {x1 : Int32} {x2 : Int32} {o3 : Nat} (hX : f_L_rest_e o0 x1 x2 o3 h = some (r, h')) : mh_Mt l yL_rest (Cond.codeWith yL_rest cL_rest 5 (some .int) [(0, 10, 13, 13), (0, 10, 17, 19)] :: mh_TB) (mh_rx 8 2) [.ref o0, .int x1, .int x2, .ref o3] L h r h' 2 12 :=
  mh_wof (by decide) (Nat.le_of_ble_eq_true rfl) (fun p e s m below meth c D ks ls hr cx th nc htab wd hl => by
    have hl : lv_has ls 5 [(0, .ref o0), (1, .int x1), (2, .int x2), (3, .ref o3)] := hl
    exact w_L_rest_e cx th nc htab hr o0 x1 x2 o3 h _ _ ls wd hl hX)
def f_L_mirror_b15 (t0 : Nat) (t1 : Int32) (t2 : Int64) (h : mh_H) : Option (Int32 × mh_H) :=
  (mh_sJ h t0 t1 t2).bind fun h1 =>
  some ((0 : Int32), h1)
def f_L_mirror_e (o0 : Nat) (x1 : Int32) (o2 : Nat) (h : mh_H) : Option (Int32 × mh_H) :=
  mh_bc (mh_cal h o0 11 (f_X11_mirror_e o0 x1 h)) (fun k h3 => if k = 1 then (some ((1 : Int32), h3)) else none) fun v4 h2 =>
  if v4 = 0 then (
  f_L_mirror_b15 o2 (0 : Int32) (0 : Int64) h2) else
  f_L_mirror_b15 o2 (0 : Int32) (1 : Int64) h2
set_option maxRecDepth 100000 in
set_option maxHeartbeats 4000000 in
theorem w_L_mirror_b15 {p : Program} {l : Launch} {e : Env} {s : State} {m : MethodId} {args : Array Value} {below : List Frame} {meth : Method} {c : Code} {D : va_G} {ks : Nat → ClassId} {L : List Nat} {r : Int32} {h' : mh_H} (cx : mh_C p m c cL_mirror 4 s args RL meth D ks (mh_A L s.heap.size)) (th : mh_Th l (mh_A L s.heap.size) s) (nc : mh_Nc s) (htab : c.exceptionTable.toList = [⟨0, 16, 19, 13⟩]) (hr : meth.sig.returnType = (some .int)) :
    ∀ (t0 : Nat) (t1 : Int32) (t2 : Int64) (h : mh_H) (H : Heap) (locs : List Loc) (ls : Array Slot), mh_W D ks L (mh_A L s.heap.size) s.heap h H locs → lv_has ls 4 [] → f_L_mirror_b15 t0 t1 t2 h = some (r, h') → W p l e (mh_rx 8 1) s m args below meth c H locs 1 6 (MQ below (mh_Qi D ks L s.heap.size r h') args s 1 6 (mh_A L s.heap.size)) (F0 m 15 ls [.long t2, .int t1, .ref t0]) := by
  intro t0 t1 t2 h H locs ls wd hl hX
  have hx := cx.1.1
  have hb := cx.1.2.1
  unfold f_L_mirror_b15 at hX
  refine mh_last cx wd dL_mirror_15 hX (fun h1 H locs wd hX => ?_)
  refine lv_goto (tgt := 22) hx hb dL_mirror_16 rfl ?_
  refine lv_iconst (v := 0) hx hb dL_mirror_22 (by decide) ?_
  exact mh_wiret cx wd hr hX dL_mirror_23 ⟨Nat.le_of_ble_eq_true rfl, Nat.le_of_ble_eq_true rfl⟩
set_option maxRecDepth 100000 in
set_option maxHeartbeats 4000000 in
theorem w_L_mirror_e {p : Program} {l : Launch} {e : Env} {s : State} {m : MethodId} {args : Array Value} {below : List Frame} {meth : Method} {c : Code} {D : va_G} {ks : Nat → ClassId} {L : List Nat} {r : Int32} {h' : mh_H} (cx : mh_C p m c cL_mirror 4 s args RL meth D ks (mh_A L s.heap.size)) (th : mh_Th l (mh_A L s.heap.size) s) (nc : mh_Nc s) (htab : c.exceptionTable.toList = [⟨0, 16, 19, 13⟩]) (hr : meth.sig.returnType = (some .int)) :
    ∀ (o0 : Nat) (x1 : Int32) (o2 : Nat) (h : mh_H) (H : Heap) (locs : List Loc) (ls : Array Slot), mh_W D ks L (mh_A L s.heap.size) s.heap h H locs → lv_has ls 4 [(0, .ref o0), (1, .int x1), (2, .ref o2)] → f_L_mirror_e o0 x1 o2 h = some (r, h') → W p l e (mh_rx 8 1) s m args below meth c H locs 0 0 (MQ below (mh_Qi D ks L s.heap.size r h') args s 1 6 (mh_A L s.heap.size)) (F0 m 0 ls []) := by
  intro o0 x1 o2 h H locs ls wd hl hX
  have hx := cx.1.1
  have hb := cx.1.2.1
  unfold f_L_mirror_e at hX
  refine lv_aload_n hx hb dL_mirror_0 rfl (lv_at hl 2 rfl) ?_
  refine lv_iconst (v := 0) hx hb dL_mirror_1 (by decide) ?_
  refine lv_aload_n hx hb dL_mirror_2 rfl (lv_at hl 0 rfl) ?_
  refine lv_iload_n hx hb dL_mirror_3 rfl (lv_at hl 1 rfl) ?_
  refine mh_xc mh_eI (K := 1) [.int x1] cx th wd (rfl : vwCl[11]? = some (RX11, TX11, 16)) yw_X11_mirror vw_L_52 rfl hl.1 rfl (Nat.le_of_ble_eq_true rfl) dL_mirror_4 ⟨Nat.le_of_ble_eq_true rfl, Nat.le_of_ble_eq_true rfl⟩ ⟨Nat.le_of_ble_eq_true rfl, Nat.le_of_ble_eq_true rfl⟩ (fun _ _ q => c_X11_mirror q) hX (fun k h3 H locs q ce wd hX hq hv hcl => ?_) (fun v4 h2 H locs wd hX => ?_)
  · by_cases hk1 : k = 1
    · rw [if_pos hk1] at hX
      refine mh_wc1 cx mh_wl1 mh_wz1 htab (by decide) hk1 hq hv hcl ?_
      refine lv_astore_n (lv' := [(3, .ref q), (0, .ref o0), (1, .int x1), (2, .ref o2)]) hx hb dL_mirror_19 rfl hl (Nat.le_of_ble_eq_true rfl) rfl (fun ls hl => ?_)
      refine lv_iconst (v := 1) hx hb dL_mirror_20 (by decide) ?_
      exact mh_wiret cx wd hr hX dL_mirror_21 ⟨Nat.le_of_ble_eq_true rfl, Nat.le_of_ble_eq_true rfl⟩
    · rw [if_neg hk1] at hX
      cases hX
  · refine W.eq (g2 := F0 m 7 ls [.int v4, .int (0 : Int32), .ref o2]) rfl ?_
    refine lv_if_eq (tgt := 14) hx hb dL_mirror_7 rfl (fun hc => (fun hX => ?_) ((mh_if hX).1 hc)) (fun hc => (fun hX => ?_) ((mh_if hX).2 hc))
    · refine lv_lconst (v := 0) hx hb dL_mirror_14 (by decide) ?_
      exact w_L_mirror_b15 cx th nc htab hr _ _ _ h2 _ _ ls wd (lv_sub hl [] rfl) hX
    · refine lv_lconst (v := 1) hx hb dL_mirror_10 (by decide) ?_
      refine lv_goto (tgt := 15) hx hb dL_mirror_11 rfl ?_
      exact w_L_mirror_b15 cx th nc htab hr _ _ _ h2 _ _ ls wd (lv_sub hl [] rfl) hX
set_option maxRecDepth 100000 in
theorem c_L_mirror {l : Launch} {L : List Nat} {h h' : mh_H} {r : Int32} {o0 : Nat} {x1 : Int32} {o2 : Nat} (hX : f_L_mirror_e o0 x1 o2 h = some (r, h')) : mh_Mt l yL_mirror (Cond.codeWith yL_mirror cL_mirror 4 (some .int) [(0, 16, 19, 13)] :: mh_TB) (mh_rx 8 1) [.ref o0, .int x1, .ref o2] L h r h' 1 6 :=
  mh_wof (by decide) (Nat.le_of_ble_eq_true rfl) (fun p e s m below meth c D ks ls hr cx th nc htab wd hl => by
    have hl : lv_has ls 4 [(0, .ref o0), (1, .int x1), (2, .ref o2)] := hl
    exact w_L_mirror_e cx th nc htab hr o0 x1 o2 h _ _ ls wd hl hX)
def f_L_needed_e (o0 : Nat) (x1 : Int32) (o2 : Nat) (h : mh_H) : Option (Int32 × mh_H) :=
  mh_bc (mh_cal h o0 11 (f_X11_needed_e o0 x1 h)) (fun k h2 => if k = 1 then (some ((1 : Int32), h2)) else none) fun v3 h1 =>
  (mh_sJ h1 o2 (0 : Int32) ((v3).toInt64)).bind fun h4 =>
  some ((0 : Int32), h4)
set_option maxRecDepth 100000 in
set_option maxHeartbeats 4000000 in
theorem w_L_needed_e {p : Program} {l : Launch} {e : Env} {s : State} {m : MethodId} {args : Array Value} {below : List Frame} {meth : Method} {c : Code} {D : va_G} {ks : Nat → ClassId} {L : List Nat} {r : Int32} {h' : mh_H} (cx : mh_C p m c cL_needed 4 s args RL meth D ks (mh_A L s.heap.size)) (th : mh_Th l (mh_A L s.heap.size) s) (nc : mh_Nc s) (htab : c.exceptionTable.toList = [⟨0, 9, 12, 13⟩]) (hr : meth.sig.returnType = (some .int)) :
    ∀ (o0 : Nat) (x1 : Int32) (o2 : Nat) (h : mh_H) (H : Heap) (locs : List Loc) (ls : Array Slot), mh_W D ks L (mh_A L s.heap.size) s.heap h H locs → lv_has ls 4 [(0, .ref o0), (1, .int x1), (2, .ref o2)] → f_L_needed_e o0 x1 o2 h = some (r, h') → W p l e (mh_rx 8 1) s m args below meth c H locs 0 0 (MQ below (mh_Qi D ks L s.heap.size r h') args s 1 6 (mh_A L s.heap.size)) (F0 m 0 ls []) := by
  intro o0 x1 o2 h H locs ls wd hl hX
  have hx := cx.1.1
  have hb := cx.1.2.1
  unfold f_L_needed_e at hX
  refine lv_aload_n hx hb dL_needed_0 rfl (lv_at hl 2 rfl) ?_
  refine lv_iconst (v := 0) hx hb dL_needed_1 (by decide) ?_
  refine lv_aload_n hx hb dL_needed_2 rfl (lv_at hl 0 rfl) ?_
  refine lv_iload_n hx hb dL_needed_3 rfl (lv_at hl 1 rfl) ?_
  refine mh_xc mh_eI (K := 1) [.int x1] cx th wd (rfl : vwCl[11]? = some (RX11, TX11, 16)) yw_X11_needed vw_L_55 rfl hl.1 rfl (Nat.le_of_ble_eq_true rfl) dL_needed_4 ⟨Nat.le_of_ble_eq_true rfl, Nat.le_of_ble_eq_true rfl⟩ ⟨Nat.le_of_ble_eq_true rfl, Nat.le_of_ble_eq_true rfl⟩ (fun _ _ q => c_X11_needed q) hX (fun k h2 H locs q ce wd hX hq hv hcl => ?_) (fun v3 h1 H locs wd hX => ?_)
  · by_cases hk1 : k = 1
    · rw [if_pos hk1] at hX
      refine mh_wc1 cx mh_wl1 mh_wz1 htab (by decide) hk1 hq hv hcl ?_
      refine lv_astore_n (lv' := [(3, .ref q), (0, .ref o0), (1, .int x1), (2, .ref o2)]) hx hb dL_needed_12 rfl hl (Nat.le_of_ble_eq_true rfl) rfl (fun ls hl => ?_)
      refine lv_iconst (v := 1) hx hb dL_needed_13 (by decide) ?_
      exact mh_wiret cx wd hr hX dL_needed_14 ⟨Nat.le_of_ble_eq_true rfl, Nat.le_of_ble_eq_true rfl⟩
    · rw [if_neg hk1] at hX
      cases hX
  · refine W.eq (g2 := F0 m 7 ls [.int v3, .int (0 : Int32), .ref o2]) rfl ?_
    refine lv_i2l hx hb dL_needed_7 rfl ?_
    refine mh_last cx wd dL_needed_8 hX (fun h4 H locs wd hX => ?_)
    refine lv_goto (tgt := 15) hx hb dL_needed_9 rfl ?_
    refine lv_iconst (v := 0) hx hb dL_needed_15 (by decide) ?_
    exact mh_wiret cx wd hr hX dL_needed_16 ⟨Nat.le_of_ble_eq_true rfl, Nat.le_of_ble_eq_true rfl⟩
set_option maxRecDepth 100000 in
theorem c_L_needed {l : Launch} {L : List Nat} {h h' : mh_H} {r : Int32} {o0 : Nat} {x1 : Int32} {o2 : Nat} (hX : f_L_needed_e o0 x1 o2 h = some (r, h')) : mh_Mt l yL_needed (Cond.codeWith yL_needed cL_needed 4 (some .int) [(0, 9, 12, 13)] :: mh_TB) (mh_rx 8 1) [.ref o0, .int x1, .ref o2] L h r h' 1 6 :=
  mh_wof (by decide) (Nat.le_of_ble_eq_true rfl) (fun p e s m below meth c D ks ls hr cx th nc htab wd hl => by
    have hl : lv_has ls 4 [(0, .ref o0), (1, .int x1), (2, .ref o2)] := hl
    exact w_L_needed_e cx th nc htab hr o0 x1 o2 h _ _ ls wd hl hX)
def f_L_same_b16 (t0 : Nat) (t1 : Int32) (t2 : Int64) (h : mh_H) : Option (Int32 × mh_H) :=
  (mh_sJ h t0 t1 t2).bind fun h1 =>
  some ((0 : Int32), h1)
def f_L_same_e (o0 : Nat) (x1 : Int32) (x2 : Int32) (o3 : Nat) (h : mh_H) : Option (Int32 × mh_H) :=
  mh_bc (mh_cal h o0 11 (f_X11_same_e o0 x1 x2 h)) (fun k h3 => if k = 1 then (some ((1 : Int32), h3)) else none) fun v4 h2 =>
  if v4 = 0 then (
  f_L_same_b16 o3 (0 : Int32) (0 : Int64) h2) else
  f_L_same_b16 o3 (0 : Int32) (1 : Int64) h2
set_option maxRecDepth 100000 in
set_option maxHeartbeats 4000000 in
theorem w_L_same_b16 {p : Program} {l : Launch} {e : Env} {s : State} {m : MethodId} {args : Array Value} {below : List Frame} {meth : Method} {c : Code} {D : va_G} {ks : Nat → ClassId} {L : List Nat} {r : Int32} {h' : mh_H} (cx : mh_C p m c cL_same 5 s args RL meth D ks (mh_A L s.heap.size)) (th : mh_Th l (mh_A L s.heap.size) s) (nc : mh_Nc s) (htab : c.exceptionTable.toList = [⟨0, 17, 20, 13⟩]) (hr : meth.sig.returnType = (some .int)) :
    ∀ (t0 : Nat) (t1 : Int32) (t2 : Int64) (h : mh_H) (H : Heap) (locs : List Loc) (ls : Array Slot), mh_W D ks L (mh_A L s.heap.size) s.heap h H locs → lv_has ls 5 [] → f_L_same_b16 t0 t1 t2 h = some (r, h') → W p l e (mh_rx 8 2) s m args below meth c H locs 2 12 (MQ below (mh_Qi D ks L s.heap.size r h') args s 2 12 (mh_A L s.heap.size)) (F0 m 16 ls [.long t2, .int t1, .ref t0]) := by
  intro t0 t1 t2 h H locs ls wd hl hX
  have hx := cx.1.1
  have hb := cx.1.2.1
  unfold f_L_same_b16 at hX
  refine mh_last cx wd dL_same_16 hX (fun h1 H locs wd hX => ?_)
  refine lv_goto (tgt := 24) hx hb dL_same_17 rfl ?_
  refine lv_iconst (v := 0) hx hb dL_same_24 (by decide) ?_
  exact mh_wiret cx wd hr hX dL_same_25 ⟨Nat.le_of_ble_eq_true rfl, Nat.le_of_ble_eq_true rfl⟩
set_option maxRecDepth 100000 in
set_option maxHeartbeats 4000000 in
theorem w_L_same_e {p : Program} {l : Launch} {e : Env} {s : State} {m : MethodId} {args : Array Value} {below : List Frame} {meth : Method} {c : Code} {D : va_G} {ks : Nat → ClassId} {L : List Nat} {r : Int32} {h' : mh_H} (cx : mh_C p m c cL_same 5 s args RL meth D ks (mh_A L s.heap.size)) (th : mh_Th l (mh_A L s.heap.size) s) (nc : mh_Nc s) (htab : c.exceptionTable.toList = [⟨0, 17, 20, 13⟩]) (hr : meth.sig.returnType = (some .int)) :
    ∀ (o0 : Nat) (x1 : Int32) (x2 : Int32) (o3 : Nat) (h : mh_H) (H : Heap) (locs : List Loc) (ls : Array Slot), mh_W D ks L (mh_A L s.heap.size) s.heap h H locs → lv_has ls 5 [(0, .ref o0), (1, .int x1), (2, .int x2), (3, .ref o3)] → f_L_same_e o0 x1 x2 o3 h = some (r, h') → W p l e (mh_rx 8 2) s m args below meth c H locs 0 0 (MQ below (mh_Qi D ks L s.heap.size r h') args s 2 12 (mh_A L s.heap.size)) (F0 m 0 ls []) := by
  intro o0 x1 x2 o3 h H locs ls wd hl hX
  have hx := cx.1.1
  have hb := cx.1.2.1
  unfold f_L_same_e at hX
  refine lv_aload_n hx hb dL_same_0 rfl (lv_at hl 3 rfl) ?_
  refine lv_iconst (v := 0) hx hb dL_same_1 (by decide) ?_
  refine lv_aload_n hx hb dL_same_2 rfl (lv_at hl 0 rfl) ?_
  refine lv_iload_n hx hb dL_same_3 rfl (lv_at hl 1 rfl) ?_
  refine lv_iload_n hx hb dL_same_4 rfl (lv_at hl 2 rfl) ?_
  refine mh_xc mh_eI (K := 2) [.int x1, .int x2] cx th wd (rfl : vwCl[11]? = some (RX11, TX11, 16)) yw_X11_same vw_L_58 rfl hl.1 rfl (Nat.le_of_ble_eq_true rfl) dL_same_5 ⟨Nat.le_of_ble_eq_true rfl, Nat.le_of_ble_eq_true rfl⟩ ⟨Nat.le_of_ble_eq_true rfl, Nat.le_of_ble_eq_true rfl⟩ (fun _ _ q => c_X11_same q) hX (fun k h3 H locs q ce wd hX hq hv hcl => ?_) (fun v4 h2 H locs wd hX => ?_)
  · by_cases hk1 : k = 1
    · rw [if_pos hk1] at hX
      refine mh_wc1 cx mh_wl1 mh_wz1 htab (by decide) hk1 hq hv hcl ?_
      refine lv_astore (lv' := [(4, .ref q), (0, .ref o0), (1, .int x1), (2, .int x2), (3, .ref o3)]) hx hb dL_same_20 hl (Nat.le_of_ble_eq_true rfl) rfl (fun ls hl => ?_)
      refine lv_iconst (v := 1) hx hb dL_same_22 (by decide) ?_
      exact mh_wiret cx wd hr hX dL_same_23 ⟨Nat.le_of_ble_eq_true rfl, Nat.le_of_ble_eq_true rfl⟩
    · rw [if_neg hk1] at hX
      cases hX
  · refine W.eq (g2 := F0 m 8 ls [.int v4, .int (0 : Int32), .ref o3]) rfl ?_
    refine lv_if_eq (tgt := 15) hx hb dL_same_8 rfl (fun hc => (fun hX => ?_) ((mh_if hX).1 hc)) (fun hc => (fun hX => ?_) ((mh_if hX).2 hc))
    · refine lv_lconst (v := 0) hx hb dL_same_15 (by decide) ?_
      exact w_L_same_b16 cx th nc htab hr _ _ _ h2 _ _ ls wd (lv_sub hl [] rfl) hX
    · refine lv_lconst (v := 1) hx hb dL_same_11 (by decide) ?_
      refine lv_goto (tgt := 16) hx hb dL_same_12 rfl ?_
      exact w_L_same_b16 cx th nc htab hr _ _ _ h2 _ _ ls wd (lv_sub hl [] rfl) hX
set_option maxRecDepth 100000 in
theorem c_L_same {l : Launch} {L : List Nat} {h h' : mh_H} {r : Int32} {o0 : Nat} {x1 : Int32} {x2 : Int32} {o3 : Nat} (hX : f_L_same_e o0 x1 x2 o3 h = some (r, h')) : mh_Mt l yL_same (Cond.codeWith yL_same cL_same 5 (some .int) [(0, 17, 20, 13)] :: mh_TB) (mh_rx 8 2) [.ref o0, .int x1, .int x2, .ref o3] L h r h' 2 12 :=
  mh_wof (by decide) (Nat.le_of_ble_eq_true rfl) (fun p e s m below meth c D ks ls hr cx th nc htab wd hl => by
    have hl : lv_has ls 5 [(0, .ref o0), (1, .int x1), (2, .int x2), (3, .ref o3)] := hl
    exact w_L_same_e cx th nc htab hr o0 x1 x2 o3 h _ _ ls wd hl hX)
def f_L_join_e (o0 : Nat) (x1 : Int32) (x2 : Int32) (x3 : Int32) (o4 : Nat) (h : mh_H) : Option (Int32 × mh_H) :=
  mh_bc (mh_cal h o0 11 (f_X11_join_e o0 x1 x2 x3 h)) (fun k h2 => if k = 1 then (some ((1 : Int32), h2)) else none) fun v3 h1 =>
  (mh_sJ h1 o4 (0 : Int32) ((v3).toInt64)).bind fun h4 =>
  some ((0 : Int32), h4)
set_option maxRecDepth 100000 in
set_option maxHeartbeats 4000000 in
theorem w_L_join_e {p : Program} {l : Launch} {e : Env} {s : State} {m : MethodId} {args : Array Value} {below : List Frame} {meth : Method} {c : Code} {D : va_G} {ks : Nat → ClassId} {L : List Nat} {r : Int32} {h' : mh_H} (cx : mh_C p m c cL_join 6 s args RL meth D ks (mh_A L s.heap.size)) (th : mh_Th l (mh_A L s.heap.size) s) (nc : mh_Nc s) (htab : c.exceptionTable.toList = [⟨0, 12, 15, 13⟩]) (hr : meth.sig.returnType = (some .int)) :
    ∀ (o0 : Nat) (x1 : Int32) (x2 : Int32) (x3 : Int32) (o4 : Nat) (h : mh_H) (H : Heap) (locs : List Loc) (ls : Array Slot), mh_W D ks L (mh_A L s.heap.size) s.heap h H locs → lv_has ls 6 [(0, .ref o0), (1, .int x1), (2, .int x2), (3, .int x3), (4, .ref o4)] → f_L_join_e o0 x1 x2 x3 o4 h = some (r, h') → W p l e (mh_rx 8 3) s m args below meth c H locs 0 0 (MQ below (mh_Qi D ks L s.heap.size r h') args s 3 18 (mh_A L s.heap.size)) (F0 m 0 ls []) := by
  intro o0 x1 x2 x3 o4 h H locs ls wd hl hX
  have hx := cx.1.1
  have hb := cx.1.2.1
  unfold f_L_join_e at hX
  refine lv_aload hx hb dL_join_0 (lv_at hl 4 rfl) ?_
  refine lv_iconst (v := 0) hx hb dL_join_2 (by decide) ?_
  refine lv_aload_n hx hb dL_join_3 rfl (lv_at hl 0 rfl) ?_
  refine lv_iload_n hx hb dL_join_4 rfl (lv_at hl 1 rfl) ?_
  refine lv_iload_n hx hb dL_join_5 rfl (lv_at hl 2 rfl) ?_
  refine lv_iload_n hx hb dL_join_6 rfl (lv_at hl 3 rfl) ?_
  refine mh_xc mh_eI (K := 3) [.int x1, .int x2, .int x3] cx th wd (rfl : vwCl[11]? = some (RX11, TX11, 16)) yw_X11_join vw_L_62 rfl hl.1 rfl (Nat.le_of_ble_eq_true rfl) dL_join_7 ⟨Nat.le_of_ble_eq_true rfl, Nat.le_of_ble_eq_true rfl⟩ ⟨Nat.le_of_ble_eq_true rfl, Nat.le_of_ble_eq_true rfl⟩ (fun _ _ q => c_X11_join q) hX (fun k h2 H locs q ce wd hX hq hv hcl => ?_) (fun v3 h1 H locs wd hX => ?_)
  · by_cases hk1 : k = 1
    · rw [if_pos hk1] at hX
      refine mh_wc1 cx mh_wl1 mh_wz1 htab (by decide) hk1 hq hv hcl ?_
      refine lv_astore (lv' := [(5, .ref q), (0, .ref o0), (1, .int x1), (2, .int x2), (3, .int x3), (4, .ref o4)]) hx hb dL_join_15 hl (Nat.le_of_ble_eq_true rfl) rfl (fun ls hl => ?_)
      refine lv_iconst (v := 1) hx hb dL_join_17 (by decide) ?_
      exact mh_wiret cx wd hr hX dL_join_18 ⟨Nat.le_of_ble_eq_true rfl, Nat.le_of_ble_eq_true rfl⟩
    · rw [if_neg hk1] at hX
      cases hX
  · refine W.eq (g2 := F0 m 10 ls [.int v3, .int (0 : Int32), .ref o4]) rfl ?_
    refine lv_i2l hx hb dL_join_10 rfl ?_
    refine mh_last cx wd dL_join_11 hX (fun h4 H locs wd hX => ?_)
    refine lv_goto (tgt := 19) hx hb dL_join_12 rfl ?_
    refine lv_iconst (v := 0) hx hb dL_join_19 (by decide) ?_
    exact mh_wiret cx wd hr hX dL_join_20 ⟨Nat.le_of_ble_eq_true rfl, Nat.le_of_ble_eq_true rfl⟩
set_option maxRecDepth 100000 in
theorem c_L_join {l : Launch} {L : List Nat} {h h' : mh_H} {r : Int32} {o0 : Nat} {x1 : Int32} {x2 : Int32} {x3 : Int32} {o4 : Nat} (hX : f_L_join_e o0 x1 x2 x3 o4 h = some (r, h')) : mh_Mt l yL_join (Cond.codeWith yL_join cL_join 6 (some .int) [(0, 12, 15, 13)] :: mh_TB) (mh_rx 8 3) [.ref o0, .int x1, .int x2, .int x3, .ref o4] L h r h' 3 18 :=
  mh_wof (by decide) (Nat.le_of_ble_eq_true rfl) (fun p e s m below meth c D ks ls hr cx th nc htab wd hl => by
    have hl : lv_has ls 6 [(0, .ref o0), (1, .int x1), (2, .int x2), (3, .int x3), (4, .ref o4)] := hl
    exact w_L_join_e cx th nc htab hr o0 x1 x2 x3 o4 h _ _ ls wd hl hX)
def f_L_part_e (o0 : Nat) (x1 : Int32) (x2 : Int32) (x3 : Int32) (o4 : Nat) (h : mh_H) : Option (Int32 × mh_H) :=
  mh_bc (mh_cal h o0 11 (f_X11_part_e o0 x1 x2 x3 h)) (fun k h2 => if k = 1 then (some ((1 : Int32), h2)) else none) fun v3 h1 =>
  (mh_sJ h1 o4 (0 : Int32) ((v3).toInt64)).bind fun h4 =>
  some ((0 : Int32), h4)
set_option maxRecDepth 100000 in
set_option maxHeartbeats 4000000 in
theorem w_L_part_e {p : Program} {l : Launch} {e : Env} {s : State} {m : MethodId} {args : Array Value} {below : List Frame} {meth : Method} {c : Code} {D : va_G} {ks : Nat → ClassId} {L : List Nat} {r : Int32} {h' : mh_H} (cx : mh_C p m c cL_part 6 s args RL meth D ks (mh_A L s.heap.size)) (th : mh_Th l (mh_A L s.heap.size) s) (nc : mh_Nc s) (htab : c.exceptionTable.toList = [⟨0, 12, 15, 13⟩]) (hr : meth.sig.returnType = (some .int)) :
    ∀ (o0 : Nat) (x1 : Int32) (x2 : Int32) (x3 : Int32) (o4 : Nat) (h : mh_H) (H : Heap) (locs : List Loc) (ls : Array Slot), mh_W D ks L (mh_A L s.heap.size) s.heap h H locs → lv_has ls 6 [(0, .ref o0), (1, .int x1), (2, .int x2), (3, .int x3), (4, .ref o4)] → f_L_part_e o0 x1 x2 x3 o4 h = some (r, h') → W p l e (mh_rx 8 3) s m args below meth c H locs 0 0 (MQ below (mh_Qi D ks L s.heap.size r h') args s 3 18 (mh_A L s.heap.size)) (F0 m 0 ls []) := by
  intro o0 x1 x2 x3 o4 h H locs ls wd hl hX
  have hx := cx.1.1
  have hb := cx.1.2.1
  unfold f_L_part_e at hX
  refine lv_aload hx hb dL_part_0 (lv_at hl 4 rfl) ?_
  refine lv_iconst (v := 0) hx hb dL_part_2 (by decide) ?_
  refine lv_aload_n hx hb dL_part_3 rfl (lv_at hl 0 rfl) ?_
  refine lv_iload_n hx hb dL_part_4 rfl (lv_at hl 1 rfl) ?_
  refine lv_iload_n hx hb dL_part_5 rfl (lv_at hl 2 rfl) ?_
  refine lv_iload_n hx hb dL_part_6 rfl (lv_at hl 3 rfl) ?_
  refine mh_xc mh_eI (K := 3) [.int x1, .int x2, .int x3] cx th wd (rfl : vwCl[11]? = some (RX11, TX11, 16)) yw_X11_part vw_L_66 rfl hl.1 rfl (Nat.le_of_ble_eq_true rfl) dL_part_7 ⟨Nat.le_of_ble_eq_true rfl, Nat.le_of_ble_eq_true rfl⟩ ⟨Nat.le_of_ble_eq_true rfl, Nat.le_of_ble_eq_true rfl⟩ (fun _ _ q => c_X11_part q) hX (fun k h2 H locs q ce wd hX hq hv hcl => ?_) (fun v3 h1 H locs wd hX => ?_)
  · by_cases hk1 : k = 1
    · rw [if_pos hk1] at hX
      refine mh_wc1 cx mh_wl1 mh_wz1 htab (by decide) hk1 hq hv hcl ?_
      refine lv_astore (lv' := [(5, .ref q), (0, .ref o0), (1, .int x1), (2, .int x2), (3, .int x3), (4, .ref o4)]) hx hb dL_part_15 hl (Nat.le_of_ble_eq_true rfl) rfl (fun ls hl => ?_)
      refine lv_iconst (v := 1) hx hb dL_part_17 (by decide) ?_
      exact mh_wiret cx wd hr hX dL_part_18 ⟨Nat.le_of_ble_eq_true rfl, Nat.le_of_ble_eq_true rfl⟩
    · rw [if_neg hk1] at hX
      cases hX
  · refine W.eq (g2 := F0 m 10 ls [.int v3, .int (0 : Int32), .ref o4]) rfl ?_
    refine lv_i2l hx hb dL_part_10 rfl ?_
    refine mh_last cx wd dL_part_11 hX (fun h4 H locs wd hX => ?_)
    refine lv_goto (tgt := 19) hx hb dL_part_12 rfl ?_
    refine lv_iconst (v := 0) hx hb dL_part_19 (by decide) ?_
    exact mh_wiret cx wd hr hX dL_part_20 ⟨Nat.le_of_ble_eq_true rfl, Nat.le_of_ble_eq_true rfl⟩
set_option maxRecDepth 100000 in
theorem c_L_part {l : Launch} {L : List Nat} {h h' : mh_H} {r : Int32} {o0 : Nat} {x1 : Int32} {x2 : Int32} {x3 : Int32} {o4 : Nat} (hX : f_L_part_e o0 x1 x2 x3 o4 h = some (r, h')) : mh_Mt l yL_part (Cond.codeWith yL_part cL_part 6 (some .int) [(0, 12, 15, 13)] :: mh_TB) (mh_rx 8 3) [.ref o0, .int x1, .int x2, .int x3, .ref o4] L h r h' 3 18 :=
  mh_wof (by decide) (Nat.le_of_ble_eq_true rfl) (fun p e s m below meth c D ks ls hr cx th nc htab wd hl => by
    have hl : lv_has ls 6 [(0, .ref o0), (1, .int x1), (2, .int x2), (3, .int x3), (4, .ref o4)] := hl
    exact w_L_part_e cx th nc htab hr o0 x1 x2 x3 o4 h _ _ ls wd hl hX)
def f_L_factor_e (o0 : Nat) (x1 : Int32) (x2 : Int32) (x3 : Int32) (o4 : Nat) (h : mh_H) : Option (Int32 × mh_H) :=
  mh_bc (mh_cal h o0 11 (f_X11_factor_e o0 x1 x2 x3 h)) (fun k h2 => if k = 1 then (some ((1 : Int32), h2)) else if k = 2 then (some ((2 : Int32), h2)) else none) fun v3 h1 =>
  (mh_sJ h1 o4 (0 : Int32) ((v3).toInt64)).bind fun h4 =>
  some ((0 : Int32), h4)
set_option maxRecDepth 100000 in
set_option maxHeartbeats 4000000 in
theorem w_L_factor_e {p : Program} {l : Launch} {e : Env} {s : State} {m : MethodId} {args : Array Value} {below : List Frame} {meth : Method} {c : Code} {D : va_G} {ks : Nat → ClassId} {L : List Nat} {r : Int32} {h' : mh_H} (cx : mh_C p m c cL_factor 6 s args RL meth D ks (mh_A L s.heap.size)) (th : mh_Th l (mh_A L s.heap.size) s) (nc : mh_Nc s) (htab : c.exceptionTable.toList = [⟨0, 12, 15, 13⟩, ⟨0, 12, 19, 19⟩]) (hr : meth.sig.returnType = (some .int)) :
    ∀ (o0 : Nat) (x1 : Int32) (x2 : Int32) (x3 : Int32) (o4 : Nat) (h : mh_H) (H : Heap) (locs : List Loc) (ls : Array Slot), mh_W D ks L (mh_A L s.heap.size) s.heap h H locs → lv_has ls 6 [(0, .ref o0), (1, .int x1), (2, .int x2), (3, .int x3), (4, .ref o4)] → f_L_factor_e o0 x1 x2 x3 o4 h = some (r, h') → W p l e (mh_rx 8 3) s m args below meth c H locs 0 0 (MQ below (mh_Qi D ks L s.heap.size r h') args s 3 18 (mh_A L s.heap.size)) (F0 m 0 ls []) := by
  intro o0 x1 x2 x3 o4 h H locs ls wd hl hX
  have hx := cx.1.1
  have hb := cx.1.2.1
  unfold f_L_factor_e at hX
  refine lv_aload hx hb dL_factor_0 (lv_at hl 4 rfl) ?_
  refine lv_iconst (v := 0) hx hb dL_factor_2 (by decide) ?_
  refine lv_aload_n hx hb dL_factor_3 rfl (lv_at hl 0 rfl) ?_
  refine lv_iload_n hx hb dL_factor_4 rfl (lv_at hl 1 rfl) ?_
  refine lv_iload_n hx hb dL_factor_5 rfl (lv_at hl 2 rfl) ?_
  refine lv_iload_n hx hb dL_factor_6 rfl (lv_at hl 3 rfl) ?_
  refine mh_xc mh_eI (K := 3) [.int x1, .int x2, .int x3] cx th wd (rfl : vwCl[11]? = some (RX11, TX11, 16)) yw_X11_factor vw_L_69 rfl hl.1 rfl (Nat.le_of_ble_eq_true rfl) dL_factor_7 ⟨Nat.le_of_ble_eq_true rfl, Nat.le_of_ble_eq_true rfl⟩ ⟨Nat.le_of_ble_eq_true rfl, Nat.le_of_ble_eq_true rfl⟩ (fun _ _ q => c_X11_factor q) hX (fun k h2 H locs q ce wd hX hq hv hcl => ?_) (fun v3 h1 H locs wd hX => ?_)
  · by_cases hk1 : k = 1
    · rw [if_pos hk1] at hX
      refine mh_wc1 cx mh_wl1 mh_wz1 htab (by decide) hk1 hq hv hcl ?_
      refine lv_astore (lv' := [(5, .ref q), (0, .ref o0), (1, .int x1), (2, .int x2), (3, .int x3), (4, .ref o4)]) hx hb dL_factor_15 hl (Nat.le_of_ble_eq_true rfl) rfl (fun ls hl => ?_)
      refine lv_iconst (v := 1) hx hb dL_factor_17 (by decide) ?_
      exact mh_wiret cx wd hr hX dL_factor_18 ⟨Nat.le_of_ble_eq_true rfl, Nat.le_of_ble_eq_true rfl⟩
    · rw [if_neg hk1] at hX
      by_cases hk2 : k = 2
      · rw [if_pos hk2] at hX
        refine mh_wc2 cx nc mh_wl1 mh_wl2 mh_wz2 htab (by decide) hk2 hq hv hcl ?_
        refine lv_astore (lv' := [(5, .ref q), (0, .ref o0), (1, .int x1), (2, .int x2), (3, .int x3), (4, .ref o4)]) hx hb dL_factor_19 hl (Nat.le_of_ble_eq_true rfl) rfl (fun ls hl => ?_)
        refine lv_iconst (v := 2) hx hb dL_factor_21 (by decide) ?_
        exact mh_wiret cx wd hr hX dL_factor_22 ⟨Nat.le_of_ble_eq_true rfl, Nat.le_of_ble_eq_true rfl⟩
      · rw [if_neg hk2] at hX
        cases hX
  · refine W.eq (g2 := F0 m 10 ls [.int v3, .int (0 : Int32), .ref o4]) rfl ?_
    refine lv_i2l hx hb dL_factor_10 rfl ?_
    refine mh_last cx wd dL_factor_11 hX (fun h4 H locs wd hX => ?_)
    refine lv_goto (tgt := 23) hx hb dL_factor_12 rfl ?_
    refine lv_iconst (v := 0) hx hb dL_factor_23 (by decide) ?_
    exact mh_wiret cx wd hr hX dL_factor_24 ⟨Nat.le_of_ble_eq_true rfl, Nat.le_of_ble_eq_true rfl⟩
set_option maxRecDepth 100000 in
theorem c_L_factor {l : Launch} {L : List Nat} {h h' : mh_H} {r : Int32} {o0 : Nat} {x1 : Int32} {x2 : Int32} {x3 : Int32} {o4 : Nat} (hX : f_L_factor_e o0 x1 x2 x3 o4 h = some (r, h')) : mh_Mt l yL_factor (Cond.codeWith yL_factor cL_factor 6 (some .int) [(0, 12, 15, 13), (0, 12, 19, 19)] :: mh_TB) (mh_rx 8 3) [.ref o0, .int x1, .int x2, .int x3, .ref o4] L h r h' 3 18 :=
  mh_wof (by decide) (Nat.le_of_ble_eq_true rfl) (fun p e s m below meth c D ks ls hr cx th nc htab wd hl => by
    have hl : lv_has ls 6 [(0, .ref o0), (1, .int x1), (2, .int x2), (3, .int x3), (4, .ref o4)] := hl
    exact w_L_factor_e cx th nc htab hr o0 x1 x2 x3 o4 h _ _ ls wd hl hX)
def f_L_ways_e (o0 : Nat) (x1 : Int32) (x2 : Int32) (o3 : Nat) (h : mh_H) : Option (Int32 × mh_H) :=
  mh_bc (mh_cal h o0 11 (f_X11_ways_e o0 x1 x2 h)) (fun k h2 => if k = 1 then (some ((1 : Int32), h2)) else if k = 2 then (some ((2 : Int32), h2)) else none) fun w3 h1 =>
  (mh_sJ h1 o3 (0 : Int32) w3).bind fun h4 =>
  some ((0 : Int32), h4)
set_option maxRecDepth 100000 in
set_option maxHeartbeats 4000000 in
theorem w_L_ways_e {p : Program} {l : Launch} {e : Env} {s : State} {m : MethodId} {args : Array Value} {below : List Frame} {meth : Method} {c : Code} {D : va_G} {ks : Nat → ClassId} {L : List Nat} {r : Int32} {h' : mh_H} (cx : mh_C p m c cL_ways 5 s args RL meth D ks (mh_A L s.heap.size)) (th : mh_Th l (mh_A L s.heap.size) s) (nc : mh_Nc s) (htab : c.exceptionTable.toList = [⟨0, 9, 12, 13⟩, ⟨0, 9, 16, 19⟩]) (hr : meth.sig.returnType = (some .int)) :
    ∀ (o0 : Nat) (x1 : Int32) (x2 : Int32) (o3 : Nat) (h : mh_H) (H : Heap) (locs : List Loc) (ls : Array Slot), mh_W D ks L (mh_A L s.heap.size) s.heap h H locs → lv_has ls 5 [(0, .ref o0), (1, .int x1), (2, .int x2), (3, .ref o3)] → f_L_ways_e o0 x1 x2 o3 h = some (r, h') → W p l e (mh_rx 8 2) s m args below meth c H locs 0 0 (MQ below (mh_Qi D ks L s.heap.size r h') args s 2 12 (mh_A L s.heap.size)) (F0 m 0 ls []) := by
  intro o0 x1 x2 o3 h H locs ls wd hl hX
  have hx := cx.1.1
  have hb := cx.1.2.1
  unfold f_L_ways_e at hX
  refine lv_aload_n hx hb dL_ways_0 rfl (lv_at hl 3 rfl) ?_
  refine lv_iconst (v := 0) hx hb dL_ways_1 (by decide) ?_
  refine lv_aload_n hx hb dL_ways_2 rfl (lv_at hl 0 rfl) ?_
  refine lv_iload_n hx hb dL_ways_3 rfl (lv_at hl 1 rfl) ?_
  refine lv_iload_n hx hb dL_ways_4 rfl (lv_at hl 2 rfl) ?_
  refine mh_xc mh_eJ (K := 2) [.int x1, .int x2] cx th wd (rfl : vwCl[11]? = some (RX11, TX11, 16)) yw_X11_ways vw_L_72 rfl hl.1 rfl (Nat.le_of_ble_eq_true rfl) dL_ways_5 ⟨Nat.le_of_ble_eq_true rfl, Nat.le_of_ble_eq_true rfl⟩ ⟨Nat.le_of_ble_eq_true rfl, Nat.le_of_ble_eq_true rfl⟩ (fun _ _ q => c_X11_ways q) hX (fun k h2 H locs q ce wd hX hq hv hcl => ?_) (fun w3 h1 H locs wd hX => ?_)
  · by_cases hk1 : k = 1
    · rw [if_pos hk1] at hX
      refine mh_wc1 cx mh_wl1 mh_wz1 htab (by decide) hk1 hq hv hcl ?_
      refine lv_astore (lv' := [(4, .ref q), (0, .ref o0), (1, .int x1), (2, .int x2), (3, .ref o3)]) hx hb dL_ways_12 hl (Nat.le_of_ble_eq_true rfl) rfl (fun ls hl => ?_)
      refine lv_iconst (v := 1) hx hb dL_ways_14 (by decide) ?_
      exact mh_wiret cx wd hr hX dL_ways_15 ⟨Nat.le_of_ble_eq_true rfl, Nat.le_of_ble_eq_true rfl⟩
    · rw [if_neg hk1] at hX
      by_cases hk2 : k = 2
      · rw [if_pos hk2] at hX
        refine mh_wc2 cx nc mh_wl1 mh_wl2 mh_wz2 htab (by decide) hk2 hq hv hcl ?_
        refine lv_astore (lv' := [(4, .ref q), (0, .ref o0), (1, .int x1), (2, .int x2), (3, .ref o3)]) hx hb dL_ways_16 hl (Nat.le_of_ble_eq_true rfl) rfl (fun ls hl => ?_)
        refine lv_iconst (v := 2) hx hb dL_ways_18 (by decide) ?_
        exact mh_wiret cx wd hr hX dL_ways_19 ⟨Nat.le_of_ble_eq_true rfl, Nat.le_of_ble_eq_true rfl⟩
      · rw [if_neg hk2] at hX
        cases hX
  · refine W.eq (g2 := F0 m 8 ls [.long w3, .int (0 : Int32), .ref o3]) rfl ?_
    refine mh_last cx wd dL_ways_8 hX (fun h4 H locs wd hX => ?_)
    refine lv_goto (tgt := 20) hx hb dL_ways_9 rfl ?_
    refine lv_iconst (v := 0) hx hb dL_ways_20 (by decide) ?_
    exact mh_wiret cx wd hr hX dL_ways_21 ⟨Nat.le_of_ble_eq_true rfl, Nat.le_of_ble_eq_true rfl⟩
set_option maxRecDepth 100000 in
theorem c_L_ways {l : Launch} {L : List Nat} {h h' : mh_H} {r : Int32} {o0 : Nat} {x1 : Int32} {x2 : Int32} {o3 : Nat} (hX : f_L_ways_e o0 x1 x2 o3 h = some (r, h')) : mh_Mt l yL_ways (Cond.codeWith yL_ways cL_ways 5 (some .int) [(0, 9, 12, 13), (0, 9, 16, 19)] :: mh_TB) (mh_rx 8 2) [.ref o0, .int x1, .int x2, .ref o3] L h r h' 2 12 :=
  mh_wof (by decide) (Nat.le_of_ble_eq_true rfl) (fun p e s m below meth c D ks ls hr cx th nc htab wd hl => by
    have hl : lv_has ls 5 [(0, .ref o0), (1, .int x1), (2, .int x2), (3, .ref o3)] := hl
    exact w_L_ways_e cx th nc htab hr o0 x1 x2 o3 h _ _ ls wd hl hX)
def f_L_of_b18 (t0 : Nat) (t1 : Int32) (t2 : Int64) (h : mh_H) : Option (Int32 × mh_H) :=
  (mh_sJ h t0 t1 t2).bind fun h1 =>
  some ((0 : Int32), h1)
def f_L_of_e (o0 : Nat) (x1 : Int32) (x2 : Int32) (y3 : Int64) (o5 : Nat) (h : mh_H) : Option (Int32 × mh_H) :=
  mh_bc (mh_cal h o0 11 (f_X11_of_e o0 x1 x2 y3 h)) (fun k h3 => if k = 1 then (some ((1 : Int32), h3)) else if k = 2 then (some ((2 : Int32), h3)) else none) fun v4 h2 =>
  if v4 = 0 then (
  f_L_of_b18 o5 (0 : Int32) (0 : Int64) h2) else
  f_L_of_b18 o5 (0 : Int32) (1 : Int64) h2
set_option maxRecDepth 100000 in
set_option maxHeartbeats 4000000 in
theorem w_L_of_b18 {p : Program} {l : Launch} {e : Env} {s : State} {m : MethodId} {args : Array Value} {below : List Frame} {meth : Method} {c : Code} {D : va_G} {ks : Nat → ClassId} {L : List Nat} {r : Int32} {h' : mh_H} (cx : mh_C p m c cL_of 7 s args RL meth D ks (mh_A L s.heap.size)) (th : mh_Th l (mh_A L s.heap.size) s) (nc : mh_Nc s) (htab : c.exceptionTable.toList = [⟨0, 19, 22, 13⟩, ⟨0, 19, 26, 19⟩]) (hr : meth.sig.returnType = (some .int)) :
    ∀ (t0 : Nat) (t1 : Int32) (t2 : Int64) (h : mh_H) (H : Heap) (locs : List Loc) (ls : Array Slot), mh_W D ks L (mh_A L s.heap.size) s.heap h H locs → lv_has ls 7 [] → f_L_of_b18 t0 t1 t2 h = some (r, h') → W p l e (mh_rx 8 2) s m args below meth c H locs 2 12 (MQ below (mh_Qi D ks L s.heap.size r h') args s 2 12 (mh_A L s.heap.size)) (F0 m 18 ls [.long t2, .int t1, .ref t0]) := by
  intro t0 t1 t2 h H locs ls wd hl hX
  have hx := cx.1.1
  have hb := cx.1.2.1
  unfold f_L_of_b18 at hX
  refine mh_last cx wd dL_of_18 hX (fun h1 H locs wd hX => ?_)
  refine lv_goto (tgt := 30) hx hb dL_of_19 rfl ?_
  refine lv_iconst (v := 0) hx hb dL_of_30 (by decide) ?_
  exact mh_wiret cx wd hr hX dL_of_31 ⟨Nat.le_of_ble_eq_true rfl, Nat.le_of_ble_eq_true rfl⟩
set_option maxRecDepth 100000 in
set_option maxHeartbeats 4000000 in
theorem w_L_of_e {p : Program} {l : Launch} {e : Env} {s : State} {m : MethodId} {args : Array Value} {below : List Frame} {meth : Method} {c : Code} {D : va_G} {ks : Nat → ClassId} {L : List Nat} {r : Int32} {h' : mh_H} (cx : mh_C p m c cL_of 7 s args RL meth D ks (mh_A L s.heap.size)) (th : mh_Th l (mh_A L s.heap.size) s) (nc : mh_Nc s) (htab : c.exceptionTable.toList = [⟨0, 19, 22, 13⟩, ⟨0, 19, 26, 19⟩]) (hr : meth.sig.returnType = (some .int)) :
    ∀ (o0 : Nat) (x1 : Int32) (x2 : Int32) (y3 : Int64) (o5 : Nat) (h : mh_H) (H : Heap) (locs : List Loc) (ls : Array Slot), mh_W D ks L (mh_A L s.heap.size) s.heap h H locs → lv_has ls 7 [(0, .ref o0), (1, .int x1), (2, .int x2), (3, .long y3), (5, .ref o5)] → f_L_of_e o0 x1 x2 y3 o5 h = some (r, h') → W p l e (mh_rx 8 2) s m args below meth c H locs 0 0 (MQ below (mh_Qi D ks L s.heap.size r h') args s 2 12 (mh_A L s.heap.size)) (F0 m 0 ls []) := by
  intro o0 x1 x2 y3 o5 h H locs ls wd hl hX
  have hx := cx.1.1
  have hb := cx.1.2.1
  unfold f_L_of_e at hX
  refine lv_aload hx hb dL_of_0 (lv_at hl 4 rfl) ?_
  refine lv_iconst (v := 0) hx hb dL_of_2 (by decide) ?_
  refine lv_aload_n hx hb dL_of_3 rfl (lv_at hl 0 rfl) ?_
  refine lv_iload_n hx hb dL_of_4 rfl (lv_at hl 1 rfl) ?_
  refine lv_iload_n hx hb dL_of_5 rfl (lv_at hl 2 rfl) ?_
  refine lv_lload_n hx hb dL_of_6 rfl (lv_at hl 3 rfl) ?_
  refine mh_xc mh_eI (K := 2) [.int x1, .int x2, .long y3] cx th wd (rfl : vwCl[11]? = some (RX11, TX11, 16)) yw_X11_of vw_L_76 rfl hl.1 rfl (Nat.le_of_ble_eq_true rfl) dL_of_7 ⟨Nat.le_of_ble_eq_true rfl, Nat.le_of_ble_eq_true rfl⟩ ⟨Nat.le_of_ble_eq_true rfl, Nat.le_of_ble_eq_true rfl⟩ (fun _ _ q => c_X11_of q) hX (fun k h3 H locs q ce wd hX hq hv hcl => ?_) (fun v4 h2 H locs wd hX => ?_)
  · by_cases hk1 : k = 1
    · rw [if_pos hk1] at hX
      refine mh_wc1 cx mh_wl1 mh_wz1 htab (by decide) hk1 hq hv hcl ?_
      refine lv_astore (lv' := [(6, .ref q), (0, .ref o0), (1, .int x1), (2, .int x2), (3, .long y3), (5, .ref o5)]) hx hb dL_of_22 hl (Nat.le_of_ble_eq_true rfl) rfl (fun ls hl => ?_)
      refine lv_iconst (v := 1) hx hb dL_of_24 (by decide) ?_
      exact mh_wiret cx wd hr hX dL_of_25 ⟨Nat.le_of_ble_eq_true rfl, Nat.le_of_ble_eq_true rfl⟩
    · rw [if_neg hk1] at hX
      by_cases hk2 : k = 2
      · rw [if_pos hk2] at hX
        refine mh_wc2 cx nc mh_wl1 mh_wl2 mh_wz2 htab (by decide) hk2 hq hv hcl ?_
        refine lv_astore (lv' := [(6, .ref q), (0, .ref o0), (1, .int x1), (2, .int x2), (3, .long y3), (5, .ref o5)]) hx hb dL_of_26 hl (Nat.le_of_ble_eq_true rfl) rfl (fun ls hl => ?_)
        refine lv_iconst (v := 2) hx hb dL_of_28 (by decide) ?_
        exact mh_wiret cx wd hr hX dL_of_29 ⟨Nat.le_of_ble_eq_true rfl, Nat.le_of_ble_eq_true rfl⟩
      · rw [if_neg hk2] at hX
        cases hX
  · refine W.eq (g2 := F0 m 10 ls [.int v4, .int (0 : Int32), .ref o5]) rfl ?_
    refine lv_if_eq (tgt := 17) hx hb dL_of_10 rfl (fun hc => (fun hX => ?_) ((mh_if hX).1 hc)) (fun hc => (fun hX => ?_) ((mh_if hX).2 hc))
    · refine lv_lconst (v := 0) hx hb dL_of_17 (by decide) ?_
      exact w_L_of_b18 cx th nc htab hr _ _ _ h2 _ _ ls wd (lv_sub hl [] rfl) hX
    · refine lv_lconst (v := 1) hx hb dL_of_13 (by decide) ?_
      refine lv_goto (tgt := 18) hx hb dL_of_14 rfl ?_
      exact w_L_of_b18 cx th nc htab hr _ _ _ h2 _ _ ls wd (lv_sub hl [] rfl) hX
set_option maxRecDepth 100000 in
theorem c_L_of {l : Launch} {L : List Nat} {h h' : mh_H} {r : Int32} {o0 : Nat} {x1 : Int32} {x2 : Int32} {y3 : Int64} {o5 : Nat} (hX : f_L_of_e o0 x1 x2 y3 o5 h = some (r, h')) : mh_Mt l yL_of (Cond.codeWith yL_of cL_of 7 (some .int) [(0, 19, 22, 13), (0, 19, 26, 19)] :: mh_TB) (mh_rx 8 2) [.ref o0, .int x1, .int x2, .long y3, .ref o5] L h r h' 2 12 :=
  mh_wof (by decide) (Nat.le_of_ble_eq_true rfl) (fun p e s m below meth c D ks ls hr cx th nc htab wd hl => by
    have hl : lv_has ls 7 [(0, .ref o0), (1, .int x1), (2, .int x2), (3, .long y3), (5, .ref o5)] := hl
    exact w_L_of_e cx th nc htab hr o0 x1 x2 y3 o5 h _ _ ls wd hl hX)
def f_L_hand_e (o0 : Nat) (x1 : Int32) (o2 : Nat) (h : mh_H) : Option (Int32 × mh_H) :=
  mh_bc (mh_cal h o0 11 (f_X11_hand_e o0 x1 h)) (fun k h2 => if k = 1 then (some ((1 : Int32), h2)) else none) fun v3 h1 =>
  (mh_sJ h1 o2 (0 : Int32) ((v3).toInt64)).bind fun h4 =>
  some ((0 : Int32), h4)
set_option maxRecDepth 100000 in
set_option maxHeartbeats 4000000 in
theorem w_L_hand_e {p : Program} {l : Launch} {e : Env} {s : State} {m : MethodId} {args : Array Value} {below : List Frame} {meth : Method} {c : Code} {D : va_G} {ks : Nat → ClassId} {L : List Nat} {r : Int32} {h' : mh_H} (cx : mh_C p m c cL_hand 4 s args RL meth D ks (mh_A L s.heap.size)) (th : mh_Th l (mh_A L s.heap.size) s) (nc : mh_Nc s) (htab : c.exceptionTable.toList = [⟨0, 9, 12, 13⟩]) (hr : meth.sig.returnType = (some .int)) :
    ∀ (o0 : Nat) (x1 : Int32) (o2 : Nat) (h : mh_H) (H : Heap) (locs : List Loc) (ls : Array Slot), mh_W D ks L (mh_A L s.heap.size) s.heap h H locs → lv_has ls 4 [(0, .ref o0), (1, .int x1), (2, .ref o2)] → f_L_hand_e o0 x1 o2 h = some (r, h') → W p l e (mh_rx 8 1) s m args below meth c H locs 0 0 (MQ below (mh_Qi D ks L s.heap.size r h') args s 1 6 (mh_A L s.heap.size)) (F0 m 0 ls []) := by
  intro o0 x1 o2 h H locs ls wd hl hX
  have hx := cx.1.1
  have hb := cx.1.2.1
  unfold f_L_hand_e at hX
  refine lv_aload_n hx hb dL_hand_0 rfl (lv_at hl 2 rfl) ?_
  refine lv_iconst (v := 0) hx hb dL_hand_1 (by decide) ?_
  refine lv_aload_n hx hb dL_hand_2 rfl (lv_at hl 0 rfl) ?_
  refine lv_iload_n hx hb dL_hand_3 rfl (lv_at hl 1 rfl) ?_
  refine mh_xc mh_eI (K := 1) [.int x1] cx th wd (rfl : vwCl[11]? = some (RX11, TX11, 16)) yw_X11_hand vw_L_80 rfl hl.1 rfl (Nat.le_of_ble_eq_true rfl) dL_hand_4 ⟨Nat.le_of_ble_eq_true rfl, Nat.le_of_ble_eq_true rfl⟩ ⟨Nat.le_of_ble_eq_true rfl, Nat.le_of_ble_eq_true rfl⟩ (fun _ _ q => c_X11_hand q) hX (fun k h2 H locs q ce wd hX hq hv hcl => ?_) (fun v3 h1 H locs wd hX => ?_)
  · by_cases hk1 : k = 1
    · rw [if_pos hk1] at hX
      refine mh_wc1 cx mh_wl1 mh_wz1 htab (by decide) hk1 hq hv hcl ?_
      refine lv_astore_n (lv' := [(3, .ref q), (0, .ref o0), (1, .int x1), (2, .ref o2)]) hx hb dL_hand_12 rfl hl (Nat.le_of_ble_eq_true rfl) rfl (fun ls hl => ?_)
      refine lv_iconst (v := 1) hx hb dL_hand_13 (by decide) ?_
      exact mh_wiret cx wd hr hX dL_hand_14 ⟨Nat.le_of_ble_eq_true rfl, Nat.le_of_ble_eq_true rfl⟩
    · rw [if_neg hk1] at hX
      cases hX
  · refine W.eq (g2 := F0 m 7 ls [.int v3, .int (0 : Int32), .ref o2]) rfl ?_
    refine lv_i2l hx hb dL_hand_7 rfl ?_
    refine mh_last cx wd dL_hand_8 hX (fun h4 H locs wd hX => ?_)
    refine lv_goto (tgt := 15) hx hb dL_hand_9 rfl ?_
    refine lv_iconst (v := 0) hx hb dL_hand_15 (by decide) ?_
    exact mh_wiret cx wd hr hX dL_hand_16 ⟨Nat.le_of_ble_eq_true rfl, Nat.le_of_ble_eq_true rfl⟩
set_option maxRecDepth 100000 in
theorem c_L_hand {l : Launch} {L : List Nat} {h h' : mh_H} {r : Int32} {o0 : Nat} {x1 : Int32} {o2 : Nat} (hX : f_L_hand_e o0 x1 o2 h = some (r, h')) : mh_Mt l yL_hand (Cond.codeWith yL_hand cL_hand 4 (some .int) [(0, 9, 12, 13)] :: mh_TB) (mh_rx 8 1) [.ref o0, .int x1, .ref o2] L h r h' 1 6 :=
  mh_wof (by decide) (Nat.le_of_ble_eq_true rfl) (fun p e s m below meth c D ks ls hr cx th nc htab wd hl => by
    have hl : lv_has ls 4 [(0, .ref o0), (1, .int x1), (2, .ref o2)] := hl
    exact w_L_hand_e cx th nc htab hr o0 x1 o2 h _ _ ls wd hl hX)
def f_L_put_e (o0 : Nat) (x1 : Int32) (x2 : Int32) (o3 : Nat) (h : mh_H) : Option (Int32 × mh_H) :=
  mh_bc (mh_cal h o0 11 (f_X11_put_e o0 x1 x2 h)) (fun k h2 => if k = 1 then (some ((1 : Int32), h2)) else if k = 2 then (some ((2 : Int32), h2)) else none) fun v3 h1 =>
  (mh_sJ h1 o3 (0 : Int32) ((v3).toInt64)).bind fun h4 =>
  some ((0 : Int32), h4)
set_option maxRecDepth 100000 in
set_option maxHeartbeats 4000000 in
theorem w_L_put_e {p : Program} {l : Launch} {e : Env} {s : State} {m : MethodId} {args : Array Value} {below : List Frame} {meth : Method} {c : Code} {D : va_G} {ks : Nat → ClassId} {L : List Nat} {r : Int32} {h' : mh_H} (cx : mh_C p m c cL_put 5 s args RL meth D ks (mh_A L s.heap.size)) (th : mh_Th l (mh_A L s.heap.size) s) (nc : mh_Nc s) (htab : c.exceptionTable.toList = [⟨0, 10, 13, 13⟩, ⟨0, 10, 17, 19⟩]) (hr : meth.sig.returnType = (some .int)) :
    ∀ (o0 : Nat) (x1 : Int32) (x2 : Int32) (o3 : Nat) (h : mh_H) (H : Heap) (locs : List Loc) (ls : Array Slot), mh_W D ks L (mh_A L s.heap.size) s.heap h H locs → lv_has ls 5 [(0, .ref o0), (1, .int x1), (2, .int x2), (3, .ref o3)] → f_L_put_e o0 x1 x2 o3 h = some (r, h') → W p l e (mh_rx 8 2) s m args below meth c H locs 0 0 (MQ below (mh_Qi D ks L s.heap.size r h') args s 2 12 (mh_A L s.heap.size)) (F0 m 0 ls []) := by
  intro o0 x1 x2 o3 h H locs ls wd hl hX
  have hx := cx.1.1
  have hb := cx.1.2.1
  unfold f_L_put_e at hX
  refine lv_aload_n hx hb dL_put_0 rfl (lv_at hl 3 rfl) ?_
  refine lv_iconst (v := 0) hx hb dL_put_1 (by decide) ?_
  refine lv_aload_n hx hb dL_put_2 rfl (lv_at hl 0 rfl) ?_
  refine lv_iload_n hx hb dL_put_3 rfl (lv_at hl 1 rfl) ?_
  refine lv_iload_n hx hb dL_put_4 rfl (lv_at hl 2 rfl) ?_
  refine mh_xc mh_eI (K := 2) [.int x1, .int x2] cx th wd (rfl : vwCl[11]? = some (RX11, TX11, 16)) yw_X11_put vw_L_83 rfl hl.1 rfl (Nat.le_of_ble_eq_true rfl) dL_put_5 ⟨Nat.le_of_ble_eq_true rfl, Nat.le_of_ble_eq_true rfl⟩ ⟨Nat.le_of_ble_eq_true rfl, Nat.le_of_ble_eq_true rfl⟩ (fun _ _ q => c_X11_put q) hX (fun k h2 H locs q ce wd hX hq hv hcl => ?_) (fun v3 h1 H locs wd hX => ?_)
  · by_cases hk1 : k = 1
    · rw [if_pos hk1] at hX
      refine mh_wc1 cx mh_wl1 mh_wz1 htab (by decide) hk1 hq hv hcl ?_
      refine lv_astore (lv' := [(4, .ref q), (0, .ref o0), (1, .int x1), (2, .int x2), (3, .ref o3)]) hx hb dL_put_13 hl (Nat.le_of_ble_eq_true rfl) rfl (fun ls hl => ?_)
      refine lv_iconst (v := 1) hx hb dL_put_15 (by decide) ?_
      exact mh_wiret cx wd hr hX dL_put_16 ⟨Nat.le_of_ble_eq_true rfl, Nat.le_of_ble_eq_true rfl⟩
    · rw [if_neg hk1] at hX
      by_cases hk2 : k = 2
      · rw [if_pos hk2] at hX
        refine mh_wc2 cx nc mh_wl1 mh_wl2 mh_wz2 htab (by decide) hk2 hq hv hcl ?_
        refine lv_astore (lv' := [(4, .ref q), (0, .ref o0), (1, .int x1), (2, .int x2), (3, .ref o3)]) hx hb dL_put_17 hl (Nat.le_of_ble_eq_true rfl) rfl (fun ls hl => ?_)
        refine lv_iconst (v := 2) hx hb dL_put_19 (by decide) ?_
        exact mh_wiret cx wd hr hX dL_put_20 ⟨Nat.le_of_ble_eq_true rfl, Nat.le_of_ble_eq_true rfl⟩
      · rw [if_neg hk2] at hX
        cases hX
  · refine W.eq (g2 := F0 m 8 ls [.int v3, .int (0 : Int32), .ref o3]) rfl ?_
    refine lv_i2l hx hb dL_put_8 rfl ?_
    refine mh_last cx wd dL_put_9 hX (fun h4 H locs wd hX => ?_)
    refine lv_goto (tgt := 21) hx hb dL_put_10 rfl ?_
    refine lv_iconst (v := 0) hx hb dL_put_21 (by decide) ?_
    exact mh_wiret cx wd hr hX dL_put_22 ⟨Nat.le_of_ble_eq_true rfl, Nat.le_of_ble_eq_true rfl⟩
set_option maxRecDepth 100000 in
theorem c_L_put {l : Launch} {L : List Nat} {h h' : mh_H} {r : Int32} {o0 : Nat} {x1 : Int32} {x2 : Int32} {o3 : Nat} (hX : f_L_put_e o0 x1 x2 o3 h = some (r, h')) : mh_Mt l yL_put (Cond.codeWith yL_put cL_put 5 (some .int) [(0, 10, 13, 13), (0, 10, 17, 19)] :: mh_TB) (mh_rx 8 2) [.ref o0, .int x1, .int x2, .ref o3] L h r h' 2 12 :=
  mh_wof (by decide) (Nat.le_of_ble_eq_true rfl) (fun p e s m below meth c D ks ls hr cx th nc htab wd hl => by
    have hl : lv_has ls 5 [(0, .ref o0), (1, .int x1), (2, .int x2), (3, .ref o3)] := hl
    exact w_L_put_e cx th nc htab hr o0 x1 x2 o3 h _ _ ls wd hl hX)
def f_L_rank_e (o0 : Nat) (o1 : Nat) (h : mh_H) : Option (Int32 × mh_H) :=
  mh_bc (mh_cal h o0 11 (f_X11_rank_e o0 h)) (fun k h2 => if k = 1 then (some ((1 : Int32), h2)) else none) fun w3 h1 =>
  (mh_sJ h1 o1 (0 : Int32) w3).bind fun h4 =>
  some ((0 : Int32), h4)
set_option maxRecDepth 100000 in
set_option maxHeartbeats 4000000 in
theorem w_L_rank_e {p : Program} {l : Launch} {e : Env} {s : State} {m : MethodId} {args : Array Value} {below : List Frame} {meth : Method} {c : Code} {D : va_G} {ks : Nat → ClassId} {L : List Nat} {r : Int32} {h' : mh_H} (cx : mh_C p m c cL_rank 3 s args RL meth D ks (mh_A L s.heap.size)) (th : mh_Th l (mh_A L s.heap.size) s) (nc : mh_Nc s) (htab : c.exceptionTable.toList = [⟨0, 7, 10, 13⟩]) (hr : meth.sig.returnType = (some .int)) :
    ∀ (o0 : Nat) (o1 : Nat) (h : mh_H) (H : Heap) (locs : List Loc) (ls : Array Slot), mh_W D ks L (mh_A L s.heap.size) s.heap h H locs → lv_has ls 3 [(0, .ref o0), (1, .ref o1)] → f_L_rank_e o0 o1 h = some (r, h') → W p l e (mh_rx 7 1) s m args below meth c H locs 0 0 (MQ below (mh_Qi D ks L s.heap.size r h') args s 1 6 (mh_A L s.heap.size)) (F0 m 0 ls []) := by
  intro o0 o1 h H locs ls wd hl hX
  have hx := cx.1.1
  have hb := cx.1.2.1
  unfold f_L_rank_e at hX
  refine lv_aload_n hx hb dL_rank_0 rfl (lv_at hl 1 rfl) ?_
  refine lv_iconst (v := 0) hx hb dL_rank_1 (by decide) ?_
  refine lv_aload_n hx hb dL_rank_2 rfl (lv_at hl 0 rfl) ?_
  refine mh_xc mh_eJ (K := 1) [] cx th wd (rfl : vwCl[11]? = some (RX11, TX11, 16)) yw_X11_rank vw_L_86 rfl hl.1 rfl (Nat.le_of_ble_eq_true rfl) dL_rank_3 ⟨Nat.le_of_ble_eq_true rfl, Nat.le_of_ble_eq_true rfl⟩ ⟨Nat.le_of_ble_eq_true rfl, Nat.le_of_ble_eq_true rfl⟩ (fun _ _ q => c_X11_rank q) hX (fun k h2 H locs q ce wd hX hq hv hcl => ?_) (fun w3 h1 H locs wd hX => ?_)
  · by_cases hk1 : k = 1
    · rw [if_pos hk1] at hX
      refine mh_wc1 cx mh_wl1 mh_wz1 htab (by decide) hk1 hq hv hcl ?_
      refine lv_astore_n (lv' := [(2, .ref q), (0, .ref o0), (1, .ref o1)]) hx hb dL_rank_10 rfl hl (Nat.le_of_ble_eq_true rfl) rfl (fun ls hl => ?_)
      refine lv_iconst (v := 1) hx hb dL_rank_11 (by decide) ?_
      exact mh_wiret cx wd hr hX dL_rank_12 ⟨Nat.le_of_ble_eq_true rfl, Nat.le_of_ble_eq_true rfl⟩
    · rw [if_neg hk1] at hX
      cases hX
  · refine W.eq (g2 := F0 m 6 ls [.long w3, .int (0 : Int32), .ref o1]) rfl ?_
    refine mh_last cx wd dL_rank_6 hX (fun h4 H locs wd hX => ?_)
    refine lv_goto (tgt := 13) hx hb dL_rank_7 rfl ?_
    refine lv_iconst (v := 0) hx hb dL_rank_13 (by decide) ?_
    exact mh_wiret cx wd hr hX dL_rank_14 ⟨Nat.le_of_ble_eq_true rfl, Nat.le_of_ble_eq_true rfl⟩
set_option maxRecDepth 100000 in
theorem c_L_rank {l : Launch} {L : List Nat} {h h' : mh_H} {r : Int32} {o0 : Nat} {o1 : Nat} (hX : f_L_rank_e o0 o1 h = some (r, h')) : mh_Mt l yL_rank (Cond.codeWith yL_rank cL_rank 3 (some .int) [(0, 7, 10, 13)] :: mh_TB) (mh_rx 7 1) [.ref o0, .ref o1] L h r h' 1 6 :=
  mh_wof (by decide) (Nat.le_of_ble_eq_true rfl) (fun p e s m below meth c D ks ls hr cx th nc htab wd hl => by
    have hl : lv_has ls 3 [(0, .ref o0), (1, .ref o1)] := hl
    exact w_L_rank_e cx th nc htab hr o0 o1 h _ _ ls wd hl hX)
def f_L_apart_e (o0 : Nat) (x1 : Int32) (x2 : Int32) (o3 : Nat) (h : mh_H) : Option (Int32 × mh_H) :=
  mh_bc (mh_cal h o0 11 (f_X11_apart_e o0 x1 x2 h)) (fun k h2 => if k = 1 then (some ((1 : Int32), h2)) else if k = 2 then (some ((2 : Int32), h2)) else none) fun v3 h1 =>
  (mh_sJ h1 o3 (0 : Int32) ((v3).toInt64)).bind fun h4 =>
  some ((0 : Int32), h4)
set_option maxRecDepth 100000 in
set_option maxHeartbeats 4000000 in
theorem w_L_apart_e {p : Program} {l : Launch} {e : Env} {s : State} {m : MethodId} {args : Array Value} {below : List Frame} {meth : Method} {c : Code} {D : va_G} {ks : Nat → ClassId} {L : List Nat} {r : Int32} {h' : mh_H} (cx : mh_C p m c cL_apart 5 s args RL meth D ks (mh_A L s.heap.size)) (th : mh_Th l (mh_A L s.heap.size) s) (nc : mh_Nc s) (htab : c.exceptionTable.toList = [⟨0, 10, 13, 13⟩, ⟨0, 10, 17, 19⟩]) (hr : meth.sig.returnType = (some .int)) :
    ∀ (o0 : Nat) (x1 : Int32) (x2 : Int32) (o3 : Nat) (h : mh_H) (H : Heap) (locs : List Loc) (ls : Array Slot), mh_W D ks L (mh_A L s.heap.size) s.heap h H locs → lv_has ls 5 [(0, .ref o0), (1, .int x1), (2, .int x2), (3, .ref o3)] → f_L_apart_e o0 x1 x2 o3 h = some (r, h') → W p l e (mh_rx 8 2) s m args below meth c H locs 0 0 (MQ below (mh_Qi D ks L s.heap.size r h') args s 2 12 (mh_A L s.heap.size)) (F0 m 0 ls []) := by
  intro o0 x1 x2 o3 h H locs ls wd hl hX
  have hx := cx.1.1
  have hb := cx.1.2.1
  unfold f_L_apart_e at hX
  refine lv_aload_n hx hb dL_apart_0 rfl (lv_at hl 3 rfl) ?_
  refine lv_iconst (v := 0) hx hb dL_apart_1 (by decide) ?_
  refine lv_aload_n hx hb dL_apart_2 rfl (lv_at hl 0 rfl) ?_
  refine lv_iload_n hx hb dL_apart_3 rfl (lv_at hl 1 rfl) ?_
  refine lv_iload_n hx hb dL_apart_4 rfl (lv_at hl 2 rfl) ?_
  refine mh_xc mh_eI (K := 2) [.int x1, .int x2] cx th wd (rfl : vwCl[11]? = some (RX11, TX11, 16)) yw_X11_apart vw_L_90 rfl hl.1 rfl (Nat.le_of_ble_eq_true rfl) dL_apart_5 ⟨Nat.le_of_ble_eq_true rfl, Nat.le_of_ble_eq_true rfl⟩ ⟨Nat.le_of_ble_eq_true rfl, Nat.le_of_ble_eq_true rfl⟩ (fun _ _ q => c_X11_apart q) hX (fun k h2 H locs q ce wd hX hq hv hcl => ?_) (fun v3 h1 H locs wd hX => ?_)
  · by_cases hk1 : k = 1
    · rw [if_pos hk1] at hX
      refine mh_wc1 cx mh_wl1 mh_wz1 htab (by decide) hk1 hq hv hcl ?_
      refine lv_astore (lv' := [(4, .ref q), (0, .ref o0), (1, .int x1), (2, .int x2), (3, .ref o3)]) hx hb dL_apart_13 hl (Nat.le_of_ble_eq_true rfl) rfl (fun ls hl => ?_)
      refine lv_iconst (v := 1) hx hb dL_apart_15 (by decide) ?_
      exact mh_wiret cx wd hr hX dL_apart_16 ⟨Nat.le_of_ble_eq_true rfl, Nat.le_of_ble_eq_true rfl⟩
    · rw [if_neg hk1] at hX
      by_cases hk2 : k = 2
      · rw [if_pos hk2] at hX
        refine mh_wc2 cx nc mh_wl1 mh_wl2 mh_wz2 htab (by decide) hk2 hq hv hcl ?_
        refine lv_astore (lv' := [(4, .ref q), (0, .ref o0), (1, .int x1), (2, .int x2), (3, .ref o3)]) hx hb dL_apart_17 hl (Nat.le_of_ble_eq_true rfl) rfl (fun ls hl => ?_)
        refine lv_iconst (v := 2) hx hb dL_apart_19 (by decide) ?_
        exact mh_wiret cx wd hr hX dL_apart_20 ⟨Nat.le_of_ble_eq_true rfl, Nat.le_of_ble_eq_true rfl⟩
      · rw [if_neg hk2] at hX
        cases hX
  · refine W.eq (g2 := F0 m 8 ls [.int v3, .int (0 : Int32), .ref o3]) rfl ?_
    refine lv_i2l hx hb dL_apart_8 rfl ?_
    refine mh_last cx wd dL_apart_9 hX (fun h4 H locs wd hX => ?_)
    refine lv_goto (tgt := 21) hx hb dL_apart_10 rfl ?_
    refine lv_iconst (v := 0) hx hb dL_apart_21 (by decide) ?_
    exact mh_wiret cx wd hr hX dL_apart_22 ⟨Nat.le_of_ble_eq_true rfl, Nat.le_of_ble_eq_true rfl⟩
set_option maxRecDepth 100000 in
theorem c_L_apart {l : Launch} {L : List Nat} {h h' : mh_H} {r : Int32} {o0 : Nat} {x1 : Int32} {x2 : Int32} {o3 : Nat} (hX : f_L_apart_e o0 x1 x2 o3 h = some (r, h')) : mh_Mt l yL_apart (Cond.codeWith yL_apart cL_apart 5 (some .int) [(0, 10, 13, 13), (0, 10, 17, 19)] :: mh_TB) (mh_rx 8 2) [.ref o0, .int x1, .int x2, .ref o3] L h r h' 2 12 :=
  mh_wof (by decide) (Nat.le_of_ble_eq_true rfl) (fun p e s m below meth c D ks ls hr cx th nc htab wd hl => by
    have hl : lv_has ls 5 [(0, .ref o0), (1, .int x1), (2, .int x2), (3, .ref o3)] := hl
    exact w_L_apart_e cx th nc htab hr o0 x1 x2 o3 h _ _ ls wd hl hX)
def f_L_stamps_e (o0 : Nat) (x1 : Int32) (x2 : Int32) (o3 : Nat) (h : mh_H) : Option (Int32 × mh_H) :=
  mh_bc (mh_cal h o0 11 (f_X11_stamps_e o0 x1 x2 h)) (fun k h2 => if k = 1 then (some ((1 : Int32), h2)) else if k = 2 then (some ((2 : Int32), h2)) else none) fun v3 h1 =>
  (mh_sJ h1 o3 (0 : Int32) ((v3).toInt64)).bind fun h4 =>
  some ((0 : Int32), h4)
set_option maxRecDepth 100000 in
set_option maxHeartbeats 4000000 in
theorem w_L_stamps_e {p : Program} {l : Launch} {e : Env} {s : State} {m : MethodId} {args : Array Value} {below : List Frame} {meth : Method} {c : Code} {D : va_G} {ks : Nat → ClassId} {L : List Nat} {r : Int32} {h' : mh_H} (cx : mh_C p m c cL_stamps 5 s args RL meth D ks (mh_A L s.heap.size)) (th : mh_Th l (mh_A L s.heap.size) s) (nc : mh_Nc s) (htab : c.exceptionTable.toList = [⟨0, 10, 13, 13⟩, ⟨0, 10, 17, 19⟩]) (hr : meth.sig.returnType = (some .int)) :
    ∀ (o0 : Nat) (x1 : Int32) (x2 : Int32) (o3 : Nat) (h : mh_H) (H : Heap) (locs : List Loc) (ls : Array Slot), mh_W D ks L (mh_A L s.heap.size) s.heap h H locs → lv_has ls 5 [(0, .ref o0), (1, .int x1), (2, .int x2), (3, .ref o3)] → f_L_stamps_e o0 x1 x2 o3 h = some (r, h') → W p l e (mh_rx 8 2) s m args below meth c H locs 0 0 (MQ below (mh_Qi D ks L s.heap.size r h') args s 2 12 (mh_A L s.heap.size)) (F0 m 0 ls []) := by
  intro o0 x1 x2 o3 h H locs ls wd hl hX
  have hx := cx.1.1
  have hb := cx.1.2.1
  unfold f_L_stamps_e at hX
  refine lv_aload_n hx hb dL_stamps_0 rfl (lv_at hl 3 rfl) ?_
  refine lv_iconst (v := 0) hx hb dL_stamps_1 (by decide) ?_
  refine lv_aload_n hx hb dL_stamps_2 rfl (lv_at hl 0 rfl) ?_
  refine lv_iload_n hx hb dL_stamps_3 rfl (lv_at hl 1 rfl) ?_
  refine lv_iload_n hx hb dL_stamps_4 rfl (lv_at hl 2 rfl) ?_
  refine mh_xc mh_eI (K := 2) [.int x1, .int x2] cx th wd (rfl : vwCl[11]? = some (RX11, TX11, 16)) yw_X11_stamps vw_L_93 rfl hl.1 rfl (Nat.le_of_ble_eq_true rfl) dL_stamps_5 ⟨Nat.le_of_ble_eq_true rfl, Nat.le_of_ble_eq_true rfl⟩ ⟨Nat.le_of_ble_eq_true rfl, Nat.le_of_ble_eq_true rfl⟩ (fun _ _ q => c_X11_stamps q) hX (fun k h2 H locs q ce wd hX hq hv hcl => ?_) (fun v3 h1 H locs wd hX => ?_)
  · by_cases hk1 : k = 1
    · rw [if_pos hk1] at hX
      refine mh_wc1 cx mh_wl1 mh_wz1 htab (by decide) hk1 hq hv hcl ?_
      refine lv_astore (lv' := [(4, .ref q), (0, .ref o0), (1, .int x1), (2, .int x2), (3, .ref o3)]) hx hb dL_stamps_13 hl (Nat.le_of_ble_eq_true rfl) rfl (fun ls hl => ?_)
      refine lv_iconst (v := 1) hx hb dL_stamps_15 (by decide) ?_
      exact mh_wiret cx wd hr hX dL_stamps_16 ⟨Nat.le_of_ble_eq_true rfl, Nat.le_of_ble_eq_true rfl⟩
    · rw [if_neg hk1] at hX
      by_cases hk2 : k = 2
      · rw [if_pos hk2] at hX
        refine mh_wc2 cx nc mh_wl1 mh_wl2 mh_wz2 htab (by decide) hk2 hq hv hcl ?_
        refine lv_astore (lv' := [(4, .ref q), (0, .ref o0), (1, .int x1), (2, .int x2), (3, .ref o3)]) hx hb dL_stamps_17 hl (Nat.le_of_ble_eq_true rfl) rfl (fun ls hl => ?_)
        refine lv_iconst (v := 2) hx hb dL_stamps_19 (by decide) ?_
        exact mh_wiret cx wd hr hX dL_stamps_20 ⟨Nat.le_of_ble_eq_true rfl, Nat.le_of_ble_eq_true rfl⟩
      · rw [if_neg hk2] at hX
        cases hX
  · refine W.eq (g2 := F0 m 8 ls [.int v3, .int (0 : Int32), .ref o3]) rfl ?_
    refine lv_i2l hx hb dL_stamps_8 rfl ?_
    refine mh_last cx wd dL_stamps_9 hX (fun h4 H locs wd hX => ?_)
    refine lv_goto (tgt := 21) hx hb dL_stamps_10 rfl ?_
    refine lv_iconst (v := 0) hx hb dL_stamps_21 (by decide) ?_
    exact mh_wiret cx wd hr hX dL_stamps_22 ⟨Nat.le_of_ble_eq_true rfl, Nat.le_of_ble_eq_true rfl⟩
set_option maxRecDepth 100000 in
theorem c_L_stamps {l : Launch} {L : List Nat} {h h' : mh_H} {r : Int32} {o0 : Nat} {x1 : Int32} {x2 : Int32} {o3 : Nat} (hX : f_L_stamps_e o0 x1 x2 o3 h = some (r, h')) : mh_Mt l yL_stamps (Cond.codeWith yL_stamps cL_stamps 5 (some .int) [(0, 10, 13, 13), (0, 10, 17, 19)] :: mh_TB) (mh_rx 8 2) [.ref o0, .int x1, .int x2, .ref o3] L h r h' 2 12 :=
  mh_wof (by decide) (Nat.le_of_ble_eq_true rfl) (fun p e s m below meth c D ks ls hr cx th nc htab wd hl => by
    have hl : lv_has ls 5 [(0, .ref o0), (1, .int x1), (2, .int x2), (3, .ref o3)] := hl
    exact w_L_stamps_e cx th nc htab hr o0 x1 x2 o3 h _ _ ls wd hl hX)
def f_L_span_e (o0 : Nat) (x1 : Int32) (x2 : Int32) (x3 : Int32) (o4 : Nat) (h : mh_H) : Option (Int32 × mh_H) :=
  mh_bc (mh_cal h o0 11 (f_X11_span_e o0 x1 x2 x3 h)) (fun k h2 => if k = 1 then (some ((1 : Int32), h2)) else if k = 2 then (some ((2 : Int32), h2)) else none) fun w3 h1 =>
  (mh_sJ h1 o4 (0 : Int32) w3).bind fun h4 =>
  some ((0 : Int32), h4)
set_option maxRecDepth 100000 in
set_option maxHeartbeats 4000000 in
theorem w_L_span_e {p : Program} {l : Launch} {e : Env} {s : State} {m : MethodId} {args : Array Value} {below : List Frame} {meth : Method} {c : Code} {D : va_G} {ks : Nat → ClassId} {L : List Nat} {r : Int32} {h' : mh_H} (cx : mh_C p m c cL_span 6 s args RL meth D ks (mh_A L s.heap.size)) (th : mh_Th l (mh_A L s.heap.size) s) (nc : mh_Nc s) (htab : c.exceptionTable.toList = [⟨0, 11, 14, 13⟩, ⟨0, 11, 18, 19⟩]) (hr : meth.sig.returnType = (some .int)) :
    ∀ (o0 : Nat) (x1 : Int32) (x2 : Int32) (x3 : Int32) (o4 : Nat) (h : mh_H) (H : Heap) (locs : List Loc) (ls : Array Slot), mh_W D ks L (mh_A L s.heap.size) s.heap h H locs → lv_has ls 6 [(0, .ref o0), (1, .int x1), (2, .int x2), (3, .int x3), (4, .ref o4)] → f_L_span_e o0 x1 x2 x3 o4 h = some (r, h') → W p l e (mh_rx 8 2) s m args below meth c H locs 0 0 (MQ below (mh_Qi D ks L s.heap.size r h') args s 2 12 (mh_A L s.heap.size)) (F0 m 0 ls []) := by
  intro o0 x1 x2 x3 o4 h H locs ls wd hl hX
  have hx := cx.1.1
  have hb := cx.1.2.1
  unfold f_L_span_e at hX
  refine lv_aload hx hb dL_span_0 (lv_at hl 4 rfl) ?_
  refine lv_iconst (v := 0) hx hb dL_span_2 (by decide) ?_
  refine lv_aload_n hx hb dL_span_3 rfl (lv_at hl 0 rfl) ?_
  refine lv_iload_n hx hb dL_span_4 rfl (lv_at hl 1 rfl) ?_
  refine lv_iload_n hx hb dL_span_5 rfl (lv_at hl 2 rfl) ?_
  refine lv_iload_n hx hb dL_span_6 rfl (lv_at hl 3 rfl) ?_
  refine mh_xc mh_eJ (K := 2) [.int x1, .int x2, .int x3] cx th wd (rfl : vwCl[11]? = some (RX11, TX11, 16)) yw_X11_span vw_L_96 rfl hl.1 rfl (Nat.le_of_ble_eq_true rfl) dL_span_7 ⟨Nat.le_of_ble_eq_true rfl, Nat.le_of_ble_eq_true rfl⟩ ⟨Nat.le_of_ble_eq_true rfl, Nat.le_of_ble_eq_true rfl⟩ (fun _ _ q => c_X11_span q) hX (fun k h2 H locs q ce wd hX hq hv hcl => ?_) (fun w3 h1 H locs wd hX => ?_)
  · by_cases hk1 : k = 1
    · rw [if_pos hk1] at hX
      refine mh_wc1 cx mh_wl1 mh_wz1 htab (by decide) hk1 hq hv hcl ?_
      refine lv_astore (lv' := [(5, .ref q), (0, .ref o0), (1, .int x1), (2, .int x2), (3, .int x3), (4, .ref o4)]) hx hb dL_span_14 hl (Nat.le_of_ble_eq_true rfl) rfl (fun ls hl => ?_)
      refine lv_iconst (v := 1) hx hb dL_span_16 (by decide) ?_
      exact mh_wiret cx wd hr hX dL_span_17 ⟨Nat.le_of_ble_eq_true rfl, Nat.le_of_ble_eq_true rfl⟩
    · rw [if_neg hk1] at hX
      by_cases hk2 : k = 2
      · rw [if_pos hk2] at hX
        refine mh_wc2 cx nc mh_wl1 mh_wl2 mh_wz2 htab (by decide) hk2 hq hv hcl ?_
        refine lv_astore (lv' := [(5, .ref q), (0, .ref o0), (1, .int x1), (2, .int x2), (3, .int x3), (4, .ref o4)]) hx hb dL_span_18 hl (Nat.le_of_ble_eq_true rfl) rfl (fun ls hl => ?_)
        refine lv_iconst (v := 2) hx hb dL_span_20 (by decide) ?_
        exact mh_wiret cx wd hr hX dL_span_21 ⟨Nat.le_of_ble_eq_true rfl, Nat.le_of_ble_eq_true rfl⟩
      · rw [if_neg hk2] at hX
        cases hX
  · refine W.eq (g2 := F0 m 10 ls [.long w3, .int (0 : Int32), .ref o4]) rfl ?_
    refine mh_last cx wd dL_span_10 hX (fun h4 H locs wd hX => ?_)
    refine lv_goto (tgt := 22) hx hb dL_span_11 rfl ?_
    refine lv_iconst (v := 0) hx hb dL_span_22 (by decide) ?_
    exact mh_wiret cx wd hr hX dL_span_23 ⟨Nat.le_of_ble_eq_true rfl, Nat.le_of_ble_eq_true rfl⟩
set_option maxRecDepth 100000 in
theorem c_L_span {l : Launch} {L : List Nat} {h h' : mh_H} {r : Int32} {o0 : Nat} {x1 : Int32} {x2 : Int32} {x3 : Int32} {o4 : Nat} (hX : f_L_span_e o0 x1 x2 x3 o4 h = some (r, h')) : mh_Mt l yL_span (Cond.codeWith yL_span cL_span 6 (some .int) [(0, 11, 14, 13), (0, 11, 18, 19)] :: mh_TB) (mh_rx 8 2) [.ref o0, .int x1, .int x2, .int x3, .ref o4] L h r h' 2 12 :=
  mh_wof (by decide) (Nat.le_of_ble_eq_true rfl) (fun p e s m below meth c D ks ls hr cx th nc htab wd hl => by
    have hl : lv_has ls 6 [(0, .ref o0), (1, .int x1), (2, .int x2), (3, .int x3), (4, .ref o4)] := hl
    exact w_L_span_e cx th nc htab hr o0 x1 x2 x3 o4 h _ _ ls wd hl hX)
def f_L_best_e (o0 : Nat) (x1 : Int32) (x2 : Int32) (x3 : Int32) (o4 : Nat) (h : mh_H) : Option (Int32 × mh_H) :=
  mh_bc (mh_cal h o0 11 (f_X11_best_e o0 x1 x2 x3 h)) (fun k h2 => if k = 1 then (some ((1 : Int32), h2)) else if k = 2 then (some ((2 : Int32), h2)) else none) fun v3 h1 =>
  (mh_sJ h1 o4 (0 : Int32) ((v3).toInt64)).bind fun h4 =>
  some ((0 : Int32), h4)
set_option maxRecDepth 100000 in
set_option maxHeartbeats 4000000 in
theorem w_L_best_e {p : Program} {l : Launch} {e : Env} {s : State} {m : MethodId} {args : Array Value} {below : List Frame} {meth : Method} {c : Code} {D : va_G} {ks : Nat → ClassId} {L : List Nat} {r : Int32} {h' : mh_H} (cx : mh_C p m c cL_best 6 s args RL meth D ks (mh_A L s.heap.size)) (th : mh_Th l (mh_A L s.heap.size) s) (nc : mh_Nc s) (htab : c.exceptionTable.toList = [⟨0, 12, 15, 13⟩, ⟨0, 12, 19, 19⟩]) (hr : meth.sig.returnType = (some .int)) :
    ∀ (o0 : Nat) (x1 : Int32) (x2 : Int32) (x3 : Int32) (o4 : Nat) (h : mh_H) (H : Heap) (locs : List Loc) (ls : Array Slot), mh_W D ks L (mh_A L s.heap.size) s.heap h H locs → lv_has ls 6 [(0, .ref o0), (1, .int x1), (2, .int x2), (3, .int x3), (4, .ref o4)] → f_L_best_e o0 x1 x2 x3 o4 h = some (r, h') → W p l e (mh_rx 8 2) s m args below meth c H locs 0 0 (MQ below (mh_Qi D ks L s.heap.size r h') args s 2 12 (mh_A L s.heap.size)) (F0 m 0 ls []) := by
  intro o0 x1 x2 x3 o4 h H locs ls wd hl hX
  have hx := cx.1.1
  have hb := cx.1.2.1
  unfold f_L_best_e at hX
  refine lv_aload hx hb dL_best_0 (lv_at hl 4 rfl) ?_
  refine lv_iconst (v := 0) hx hb dL_best_2 (by decide) ?_
  refine lv_aload_n hx hb dL_best_3 rfl (lv_at hl 0 rfl) ?_
  refine lv_iload_n hx hb dL_best_4 rfl (lv_at hl 1 rfl) ?_
  refine lv_iload_n hx hb dL_best_5 rfl (lv_at hl 2 rfl) ?_
  refine lv_iload_n hx hb dL_best_6 rfl (lv_at hl 3 rfl) ?_
  refine mh_xc mh_eI (K := 2) [.int x1, .int x2, .int x3] cx th wd (rfl : vwCl[11]? = some (RX11, TX11, 16)) yw_X11_best vw_L_100 rfl hl.1 rfl (Nat.le_of_ble_eq_true rfl) dL_best_7 ⟨Nat.le_of_ble_eq_true rfl, Nat.le_of_ble_eq_true rfl⟩ ⟨Nat.le_of_ble_eq_true rfl, Nat.le_of_ble_eq_true rfl⟩ (fun _ _ q => c_X11_best q) hX (fun k h2 H locs q ce wd hX hq hv hcl => ?_) (fun v3 h1 H locs wd hX => ?_)
  · by_cases hk1 : k = 1
    · rw [if_pos hk1] at hX
      refine mh_wc1 cx mh_wl1 mh_wz1 htab (by decide) hk1 hq hv hcl ?_
      refine lv_astore (lv' := [(5, .ref q), (0, .ref o0), (1, .int x1), (2, .int x2), (3, .int x3), (4, .ref o4)]) hx hb dL_best_15 hl (Nat.le_of_ble_eq_true rfl) rfl (fun ls hl => ?_)
      refine lv_iconst (v := 1) hx hb dL_best_17 (by decide) ?_
      exact mh_wiret cx wd hr hX dL_best_18 ⟨Nat.le_of_ble_eq_true rfl, Nat.le_of_ble_eq_true rfl⟩
    · rw [if_neg hk1] at hX
      by_cases hk2 : k = 2
      · rw [if_pos hk2] at hX
        refine mh_wc2 cx nc mh_wl1 mh_wl2 mh_wz2 htab (by decide) hk2 hq hv hcl ?_
        refine lv_astore (lv' := [(5, .ref q), (0, .ref o0), (1, .int x1), (2, .int x2), (3, .int x3), (4, .ref o4)]) hx hb dL_best_19 hl (Nat.le_of_ble_eq_true rfl) rfl (fun ls hl => ?_)
        refine lv_iconst (v := 2) hx hb dL_best_21 (by decide) ?_
        exact mh_wiret cx wd hr hX dL_best_22 ⟨Nat.le_of_ble_eq_true rfl, Nat.le_of_ble_eq_true rfl⟩
      · rw [if_neg hk2] at hX
        cases hX
  · refine W.eq (g2 := F0 m 10 ls [.int v3, .int (0 : Int32), .ref o4]) rfl ?_
    refine lv_i2l hx hb dL_best_10 rfl ?_
    refine mh_last cx wd dL_best_11 hX (fun h4 H locs wd hX => ?_)
    refine lv_goto (tgt := 23) hx hb dL_best_12 rfl ?_
    refine lv_iconst (v := 0) hx hb dL_best_23 (by decide) ?_
    exact mh_wiret cx wd hr hX dL_best_24 ⟨Nat.le_of_ble_eq_true rfl, Nat.le_of_ble_eq_true rfl⟩
set_option maxRecDepth 100000 in
theorem c_L_best {l : Launch} {L : List Nat} {h h' : mh_H} {r : Int32} {o0 : Nat} {x1 : Int32} {x2 : Int32} {x3 : Int32} {o4 : Nat} (hX : f_L_best_e o0 x1 x2 x3 o4 h = some (r, h')) : mh_Mt l yL_best (Cond.codeWith yL_best cL_best 6 (some .int) [(0, 12, 15, 13), (0, 12, 19, 19)] :: mh_TB) (mh_rx 8 2) [.ref o0, .int x1, .int x2, .int x3, .ref o4] L h r h' 2 12 :=
  mh_wof (by decide) (Nat.le_of_ble_eq_true rfl) (fun p e s m below meth c D ks ls hr cx th nc htab wd hl => by
    have hl : lv_has ls 6 [(0, .ref o0), (1, .int x1), (2, .int x2), (3, .int x3), (4, .ref o4)] := hl
    exact w_L_best_e cx th nc htab hr o0 x1 x2 x3 o4 h _ _ ls wd hl hX)
def f_L_open_e (o0 : Nat) (x1 : Int32) (x2 : Int32) (h : mh_H) : Option (Int32 × mh_H) :=
  mh_bc (mh_cal h o0 11 (f_X11_open_e o0 x1 x2 h)) (fun k h2 => if k = 1 then (some ((1 : Int32), h2)) else none) fun _ h1 =>
  some ((0 : Int32), h1)
set_option maxRecDepth 100000 in
set_option maxHeartbeats 4000000 in
theorem w_L_open_e {p : Program} {l : Launch} {e : Env} {s : State} {m : MethodId} {args : Array Value} {below : List Frame} {meth : Method} {c : Code} {D : va_G} {ks : Nat → ClassId} {L : List Nat} {r : Int32} {h' : mh_H} (cx : mh_C p m c cL_open 4 s args RL meth D ks (mh_A L s.heap.size)) (th : mh_Th l (mh_A L s.heap.size) s) (nc : mh_Nc s) (htab : c.exceptionTable.toList = [⟨0, 6, 9, 13⟩]) (hr : meth.sig.returnType = (some .int)) :
    ∀ (o0 : Nat) (x1 : Int32) (x2 : Int32) (h : mh_H) (H : Heap) (locs : List Loc) (ls : Array Slot), mh_W D ks L (mh_A L s.heap.size) s.heap h H locs → lv_has ls 4 [(0, .ref o0), (1, .int x1), (2, .int x2)] → f_L_open_e o0 x1 x2 h = some (r, h') → W p l e (mh_rx 8 2) s m args below meth c H locs 0 0 (MQ below (mh_Qi D ks L s.heap.size r h') args s 2 12 (mh_A L s.heap.size)) (F0 m 0 ls []) := by
  intro o0 x1 x2 h H locs ls wd hl hX
  have hx := cx.1.1
  have hb := cx.1.2.1
  unfold f_L_open_e at hX
  refine lv_aload_n hx hb dL_open_0 rfl (lv_at hl 0 rfl) ?_
  refine lv_iload_n hx hb dL_open_1 rfl (lv_at hl 1 rfl) ?_
  refine lv_iload_n hx hb dL_open_2 rfl (lv_at hl 2 rfl) ?_
  refine mh_xc mh_eV (K := 2) [.int x1, .int x2] cx th wd (rfl : vwCl[11]? = some (RX11, TX11, 16)) yw_X11_open vw_L_103 rfl hl.1 rfl (Nat.le_of_ble_eq_true rfl) dL_open_3 ⟨Nat.le_of_ble_eq_true rfl, Nat.le_of_ble_eq_true rfl⟩ ⟨Nat.le_of_ble_eq_true rfl, Nat.le_of_ble_eq_true rfl⟩ (fun _ _ q => c_X11_open q) hX (fun k h2 H locs q ce wd hX hq hv hcl => ?_) (fun _ h1 H locs wd hX => ?_)
  · by_cases hk1 : k = 1
    · rw [if_pos hk1] at hX
      refine mh_wc1 cx mh_wl1 mh_wz1 htab (by decide) hk1 hq hv hcl ?_
      refine lv_astore_n (lv' := [(3, .ref q), (0, .ref o0), (1, .int x1), (2, .int x2)]) hx hb dL_open_9 rfl hl (Nat.le_of_ble_eq_true rfl) rfl (fun ls hl => ?_)
      refine lv_iconst (v := 1) hx hb dL_open_10 (by decide) ?_
      exact mh_wiret cx wd hr hX dL_open_11 ⟨Nat.le_of_ble_eq_true rfl, Nat.le_of_ble_eq_true rfl⟩
    · rw [if_neg hk1] at hX
      cases hX
  · refine W.eq (g2 := F0 m 6 ls []) rfl ?_
    refine lv_goto (tgt := 12) hx hb dL_open_6 rfl ?_
    refine lv_iconst (v := 0) hx hb dL_open_12 (by decide) ?_
    exact mh_wiret cx wd hr hX dL_open_13 ⟨Nat.le_of_ble_eq_true rfl, Nat.le_of_ble_eq_true rfl⟩
set_option maxRecDepth 100000 in
theorem c_L_open {l : Launch} {L : List Nat} {h h' : mh_H} {r : Int32} {o0 : Nat} {x1 : Int32} {x2 : Int32} (hX : f_L_open_e o0 x1 x2 h = some (r, h')) : mh_Mt l yL_open (Cond.codeWith yL_open cL_open 4 (some .int) [(0, 6, 9, 13)] :: mh_TB) (mh_rx 8 2) [.ref o0, .int x1, .int x2] L h r h' 2 12 :=
  mh_wof (by decide) (Nat.le_of_ble_eq_true rfl) (fun p e s m below meth c D ks ls hr cx th nc htab wd hl => by
    have hl : lv_has ls 4 [(0, .ref o0), (1, .int x1), (2, .int x2)] := hl
    exact w_L_open_e cx th nc htab hr o0 x1 x2 h _ _ ls wd hl hX)
def f_L_fill_e (o0 : Nat) (x1 : Int32) (x2 : Int32) (x3 : Int32) (o4 : Nat) (h : mh_H) : Option (Int32 × mh_H) :=
  mh_bc (mh_cal h o0 11 (f_X11_fill_e o0 x1 x2 x3 h)) (fun k h2 => if k = 1 then (some ((1 : Int32), h2)) else none) fun v3 h1 =>
  (mh_sJ h1 o4 (0 : Int32) ((v3).toInt64)).bind fun h4 =>
  some ((0 : Int32), h4)
set_option maxRecDepth 100000 in
set_option maxHeartbeats 4000000 in
theorem w_L_fill_e {p : Program} {l : Launch} {e : Env} {s : State} {m : MethodId} {args : Array Value} {below : List Frame} {meth : Method} {c : Code} {D : va_G} {ks : Nat → ClassId} {L : List Nat} {r : Int32} {h' : mh_H} (cx : mh_C p m c cL_fill 6 s args RL meth D ks (mh_A L s.heap.size)) (th : mh_Th l (mh_A L s.heap.size) s) (nc : mh_Nc s) (htab : c.exceptionTable.toList = [⟨0, 12, 15, 13⟩]) (hr : meth.sig.returnType = (some .int)) :
    ∀ (o0 : Nat) (x1 : Int32) (x2 : Int32) (x3 : Int32) (o4 : Nat) (h : mh_H) (H : Heap) (locs : List Loc) (ls : Array Slot), mh_W D ks L (mh_A L s.heap.size) s.heap h H locs → lv_has ls 6 [(0, .ref o0), (1, .int x1), (2, .int x2), (3, .int x3), (4, .ref o4)] → f_L_fill_e o0 x1 x2 x3 o4 h = some (r, h') → W p l e (mh_rx 8 1) s m args below meth c H locs 0 0 (MQ below (mh_Qi D ks L s.heap.size r h') args s 1 6 (mh_A L s.heap.size)) (F0 m 0 ls []) := by
  intro o0 x1 x2 x3 o4 h H locs ls wd hl hX
  have hx := cx.1.1
  have hb := cx.1.2.1
  unfold f_L_fill_e at hX
  refine lv_aload hx hb dL_fill_0 (lv_at hl 4 rfl) ?_
  refine lv_iconst (v := 0) hx hb dL_fill_2 (by decide) ?_
  refine lv_aload_n hx hb dL_fill_3 rfl (lv_at hl 0 rfl) ?_
  refine lv_iload_n hx hb dL_fill_4 rfl (lv_at hl 1 rfl) ?_
  refine lv_iload_n hx hb dL_fill_5 rfl (lv_at hl 2 rfl) ?_
  refine lv_iload_n hx hb dL_fill_6 rfl (lv_at hl 3 rfl) ?_
  refine mh_xc mh_eI (K := 1) [.int x1, .int x2, .int x3] cx th wd (rfl : vwCl[11]? = some (RX11, TX11, 16)) yw_X11_fill vw_L_107 rfl hl.1 rfl (Nat.le_of_ble_eq_true rfl) dL_fill_7 ⟨Nat.le_of_ble_eq_true rfl, Nat.le_of_ble_eq_true rfl⟩ ⟨Nat.le_of_ble_eq_true rfl, Nat.le_of_ble_eq_true rfl⟩ (fun _ _ q => c_X11_fill q) hX (fun k h2 H locs q ce wd hX hq hv hcl => ?_) (fun v3 h1 H locs wd hX => ?_)
  · by_cases hk1 : k = 1
    · rw [if_pos hk1] at hX
      refine mh_wc1 cx mh_wl1 mh_wz1 htab (by decide) hk1 hq hv hcl ?_
      refine lv_astore (lv' := [(5, .ref q), (0, .ref o0), (1, .int x1), (2, .int x2), (3, .int x3), (4, .ref o4)]) hx hb dL_fill_15 hl (Nat.le_of_ble_eq_true rfl) rfl (fun ls hl => ?_)
      refine lv_iconst (v := 1) hx hb dL_fill_17 (by decide) ?_
      exact mh_wiret cx wd hr hX dL_fill_18 ⟨Nat.le_of_ble_eq_true rfl, Nat.le_of_ble_eq_true rfl⟩
    · rw [if_neg hk1] at hX
      cases hX
  · refine W.eq (g2 := F0 m 10 ls [.int v3, .int (0 : Int32), .ref o4]) rfl ?_
    refine lv_i2l hx hb dL_fill_10 rfl ?_
    refine mh_last cx wd dL_fill_11 hX (fun h4 H locs wd hX => ?_)
    refine lv_goto (tgt := 19) hx hb dL_fill_12 rfl ?_
    refine lv_iconst (v := 0) hx hb dL_fill_19 (by decide) ?_
    exact mh_wiret cx wd hr hX dL_fill_20 ⟨Nat.le_of_ble_eq_true rfl, Nat.le_of_ble_eq_true rfl⟩
set_option maxRecDepth 100000 in
theorem c_L_fill {l : Launch} {L : List Nat} {h h' : mh_H} {r : Int32} {o0 : Nat} {x1 : Int32} {x2 : Int32} {x3 : Int32} {o4 : Nat} (hX : f_L_fill_e o0 x1 x2 x3 o4 h = some (r, h')) : mh_Mt l yL_fill (Cond.codeWith yL_fill cL_fill 6 (some .int) [(0, 12, 15, 13)] :: mh_TB) (mh_rx 8 1) [.ref o0, .int x1, .int x2, .int x3, .ref o4] L h r h' 1 6 :=
  mh_wof (by decide) (Nat.le_of_ble_eq_true rfl) (fun p e s m below meth c D ks ls hr cx th nc htab wd hl => by
    have hl : lv_has ls 6 [(0, .ref o0), (1, .int x1), (2, .int x2), (3, .int x3), (4, .ref o4)] := hl
    exact w_L_fill_e cx th nc htab hr o0 x1 x2 x3 o4 h _ _ ls wd hl hX)
def f_L_has_e (o0 : Nat) (x1 : Int32) (x2 : Int32) (o3 : Nat) (h : mh_H) : Option (Int32 × mh_H) :=
  mh_bc (mh_cal h o0 11 (f_X11_has_e o0 x1 x2 h)) (fun k h2 => if k = 1 then (some ((1 : Int32), h2)) else none) fun v3 h1 =>
  (mh_sJ h1 o3 (0 : Int32) ((v3).toInt64)).bind fun h4 =>
  some ((0 : Int32), h4)
set_option maxRecDepth 100000 in
set_option maxHeartbeats 4000000 in
theorem w_L_has_e {p : Program} {l : Launch} {e : Env} {s : State} {m : MethodId} {args : Array Value} {below : List Frame} {meth : Method} {c : Code} {D : va_G} {ks : Nat → ClassId} {L : List Nat} {r : Int32} {h' : mh_H} (cx : mh_C p m c cL_has 5 s args RL meth D ks (mh_A L s.heap.size)) (th : mh_Th l (mh_A L s.heap.size) s) (nc : mh_Nc s) (htab : c.exceptionTable.toList = [⟨0, 10, 13, 13⟩]) (hr : meth.sig.returnType = (some .int)) :
    ∀ (o0 : Nat) (x1 : Int32) (x2 : Int32) (o3 : Nat) (h : mh_H) (H : Heap) (locs : List Loc) (ls : Array Slot), mh_W D ks L (mh_A L s.heap.size) s.heap h H locs → lv_has ls 5 [(0, .ref o0), (1, .int x1), (2, .int x2), (3, .ref o3)] → f_L_has_e o0 x1 x2 o3 h = some (r, h') → W p l e (mh_rx 8 2) s m args below meth c H locs 0 0 (MQ below (mh_Qi D ks L s.heap.size r h') args s 2 12 (mh_A L s.heap.size)) (F0 m 0 ls []) := by
  intro o0 x1 x2 o3 h H locs ls wd hl hX
  have hx := cx.1.1
  have hb := cx.1.2.1
  unfold f_L_has_e at hX
  refine lv_aload_n hx hb dL_has_0 rfl (lv_at hl 3 rfl) ?_
  refine lv_iconst (v := 0) hx hb dL_has_1 (by decide) ?_
  refine lv_aload_n hx hb dL_has_2 rfl (lv_at hl 0 rfl) ?_
  refine lv_iload_n hx hb dL_has_3 rfl (lv_at hl 1 rfl) ?_
  refine lv_iload_n hx hb dL_has_4 rfl (lv_at hl 2 rfl) ?_
  refine mh_xc mh_eI (K := 2) [.int x1, .int x2] cx th wd (rfl : vwCl[11]? = some (RX11, TX11, 16)) yw_X11_has vw_L_110 rfl hl.1 rfl (Nat.le_of_ble_eq_true rfl) dL_has_5 ⟨Nat.le_of_ble_eq_true rfl, Nat.le_of_ble_eq_true rfl⟩ ⟨Nat.le_of_ble_eq_true rfl, Nat.le_of_ble_eq_true rfl⟩ (fun _ _ q => c_X11_has q) hX (fun k h2 H locs q ce wd hX hq hv hcl => ?_) (fun v3 h1 H locs wd hX => ?_)
  · by_cases hk1 : k = 1
    · rw [if_pos hk1] at hX
      refine mh_wc1 cx mh_wl1 mh_wz1 htab (by decide) hk1 hq hv hcl ?_
      refine lv_astore (lv' := [(4, .ref q), (0, .ref o0), (1, .int x1), (2, .int x2), (3, .ref o3)]) hx hb dL_has_13 hl (Nat.le_of_ble_eq_true rfl) rfl (fun ls hl => ?_)
      refine lv_iconst (v := 1) hx hb dL_has_15 (by decide) ?_
      exact mh_wiret cx wd hr hX dL_has_16 ⟨Nat.le_of_ble_eq_true rfl, Nat.le_of_ble_eq_true rfl⟩
    · rw [if_neg hk1] at hX
      cases hX
  · refine W.eq (g2 := F0 m 8 ls [.int v3, .int (0 : Int32), .ref o3]) rfl ?_
    refine lv_i2l hx hb dL_has_8 rfl ?_
    refine mh_last cx wd dL_has_9 hX (fun h4 H locs wd hX => ?_)
    refine lv_goto (tgt := 17) hx hb dL_has_10 rfl ?_
    refine lv_iconst (v := 0) hx hb dL_has_17 (by decide) ?_
    exact mh_wiret cx wd hr hX dL_has_18 ⟨Nat.le_of_ble_eq_true rfl, Nat.le_of_ble_eq_true rfl⟩
set_option maxRecDepth 100000 in
theorem c_L_has {l : Launch} {L : List Nat} {h h' : mh_H} {r : Int32} {o0 : Nat} {x1 : Int32} {x2 : Int32} {o3 : Nat} (hX : f_L_has_e o0 x1 x2 o3 h = some (r, h')) : mh_Mt l yL_has (Cond.codeWith yL_has cL_has 5 (some .int) [(0, 10, 13, 13)] :: mh_TB) (mh_rx 8 2) [.ref o0, .int x1, .int x2, .ref o3] L h r h' 2 12 :=
  mh_wof (by decide) (Nat.le_of_ble_eq_true rfl) (fun p e s m below meth c D ks ls hr cx th nc htab wd hl => by
    have hl : lv_has ls 5 [(0, .ref o0), (1, .int x1), (2, .int x2), (3, .ref o3)] := hl
    exact w_L_has_e cx th nc htab hr o0 x1 x2 o3 h _ _ ls wd hl hX)
def f_L_pays_e (o0 : Nat) (x1 : Int32) (x2 : Int32) (o3 : Nat) (h : mh_H) : Option (Int32 × mh_H) :=
  mh_bc (mh_cal h o0 11 (f_X11_pays_e o0 x1 x2 h)) (fun k h2 => if k = 1 then (some ((1 : Int32), h2)) else none) fun v3 h1 =>
  (mh_sJ h1 o3 (0 : Int32) ((v3).toInt64)).bind fun h4 =>
  some ((0 : Int32), h4)
set_option maxRecDepth 100000 in
set_option maxHeartbeats 4000000 in
theorem w_L_pays_e {p : Program} {l : Launch} {e : Env} {s : State} {m : MethodId} {args : Array Value} {below : List Frame} {meth : Method} {c : Code} {D : va_G} {ks : Nat → ClassId} {L : List Nat} {r : Int32} {h' : mh_H} (cx : mh_C p m c cL_pays 5 s args RL meth D ks (mh_A L s.heap.size)) (th : mh_Th l (mh_A L s.heap.size) s) (nc : mh_Nc s) (htab : c.exceptionTable.toList = [⟨0, 10, 13, 13⟩]) (hr : meth.sig.returnType = (some .int)) :
    ∀ (o0 : Nat) (x1 : Int32) (x2 : Int32) (o3 : Nat) (h : mh_H) (H : Heap) (locs : List Loc) (ls : Array Slot), mh_W D ks L (mh_A L s.heap.size) s.heap h H locs → lv_has ls 5 [(0, .ref o0), (1, .int x1), (2, .int x2), (3, .ref o3)] → f_L_pays_e o0 x1 x2 o3 h = some (r, h') → W p l e (mh_rx 8 1) s m args below meth c H locs 0 0 (MQ below (mh_Qi D ks L s.heap.size r h') args s 1 6 (mh_A L s.heap.size)) (F0 m 0 ls []) := by
  intro o0 x1 x2 o3 h H locs ls wd hl hX
  have hx := cx.1.1
  have hb := cx.1.2.1
  unfold f_L_pays_e at hX
  refine lv_aload_n hx hb dL_pays_0 rfl (lv_at hl 3 rfl) ?_
  refine lv_iconst (v := 0) hx hb dL_pays_1 (by decide) ?_
  refine lv_aload_n hx hb dL_pays_2 rfl (lv_at hl 0 rfl) ?_
  refine lv_iload_n hx hb dL_pays_3 rfl (lv_at hl 1 rfl) ?_
  refine lv_iload_n hx hb dL_pays_4 rfl (lv_at hl 2 rfl) ?_
  refine mh_xc mh_eI (K := 1) [.int x1, .int x2] cx th wd (rfl : vwCl[11]? = some (RX11, TX11, 16)) yw_X11_pays vw_L_113 rfl hl.1 rfl (Nat.le_of_ble_eq_true rfl) dL_pays_5 ⟨Nat.le_of_ble_eq_true rfl, Nat.le_of_ble_eq_true rfl⟩ ⟨Nat.le_of_ble_eq_true rfl, Nat.le_of_ble_eq_true rfl⟩ (fun _ _ q => c_X11_pays q) hX (fun k h2 H locs q ce wd hX hq hv hcl => ?_) (fun v3 h1 H locs wd hX => ?_)
  · by_cases hk1 : k = 1
    · rw [if_pos hk1] at hX
      refine mh_wc1 cx mh_wl1 mh_wz1 htab (by decide) hk1 hq hv hcl ?_
      refine lv_astore (lv' := [(4, .ref q), (0, .ref o0), (1, .int x1), (2, .int x2), (3, .ref o3)]) hx hb dL_pays_13 hl (Nat.le_of_ble_eq_true rfl) rfl (fun ls hl => ?_)
      refine lv_iconst (v := 1) hx hb dL_pays_15 (by decide) ?_
      exact mh_wiret cx wd hr hX dL_pays_16 ⟨Nat.le_of_ble_eq_true rfl, Nat.le_of_ble_eq_true rfl⟩
    · rw [if_neg hk1] at hX
      cases hX
  · refine W.eq (g2 := F0 m 8 ls [.int v3, .int (0 : Int32), .ref o3]) rfl ?_
    refine lv_i2l hx hb dL_pays_8 rfl ?_
    refine mh_last cx wd dL_pays_9 hX (fun h4 H locs wd hX => ?_)
    refine lv_goto (tgt := 17) hx hb dL_pays_10 rfl ?_
    refine lv_iconst (v := 0) hx hb dL_pays_17 (by decide) ?_
    exact mh_wiret cx wd hr hX dL_pays_18 ⟨Nat.le_of_ble_eq_true rfl, Nat.le_of_ble_eq_true rfl⟩
set_option maxRecDepth 100000 in
theorem c_L_pays {l : Launch} {L : List Nat} {h h' : mh_H} {r : Int32} {o0 : Nat} {x1 : Int32} {x2 : Int32} {o3 : Nat} (hX : f_L_pays_e o0 x1 x2 o3 h = some (r, h')) : mh_Mt l yL_pays (Cond.codeWith yL_pays cL_pays 5 (some .int) [(0, 10, 13, 13)] :: mh_TB) (mh_rx 8 1) [.ref o0, .int x1, .int x2, .ref o3] L h r h' 1 6 :=
  mh_wof (by decide) (Nat.le_of_ble_eq_true rfl) (fun p e s m below meth c D ks ls hr cx th nc htab wd hl => by
    have hl : lv_has ls 5 [(0, .ref o0), (1, .int x1), (2, .int x2), (3, .ref o3)] := hl
    exact w_L_pays_e cx th nc htab hr o0 x1 x2 o3 h _ _ ls wd hl hX)
def f_L_holes_e (o0 : Nat) (x1 : Int32) (o2 : Nat) (h : mh_H) : Option (Int32 × mh_H) :=
  mh_bc (mh_cal h o0 11 (f_X11_holes_e o0 x1 h)) (fun k h2 => if k = 1 then (some ((1 : Int32), h2)) else none) fun v3 h1 =>
  (mh_sJ h1 o2 (0 : Int32) ((v3).toInt64)).bind fun h4 =>
  some ((0 : Int32), h4)
set_option maxRecDepth 100000 in
set_option maxHeartbeats 4000000 in
theorem w_L_holes_e {p : Program} {l : Launch} {e : Env} {s : State} {m : MethodId} {args : Array Value} {below : List Frame} {meth : Method} {c : Code} {D : va_G} {ks : Nat → ClassId} {L : List Nat} {r : Int32} {h' : mh_H} (cx : mh_C p m c cL_holes 4 s args RL meth D ks (mh_A L s.heap.size)) (th : mh_Th l (mh_A L s.heap.size) s) (nc : mh_Nc s) (htab : c.exceptionTable.toList = [⟨0, 9, 12, 13⟩]) (hr : meth.sig.returnType = (some .int)) :
    ∀ (o0 : Nat) (x1 : Int32) (o2 : Nat) (h : mh_H) (H : Heap) (locs : List Loc) (ls : Array Slot), mh_W D ks L (mh_A L s.heap.size) s.heap h H locs → lv_has ls 4 [(0, .ref o0), (1, .int x1), (2, .ref o2)] → f_L_holes_e o0 x1 o2 h = some (r, h') → W p l e (mh_rx 8 1) s m args below meth c H locs 0 0 (MQ below (mh_Qi D ks L s.heap.size r h') args s 1 6 (mh_A L s.heap.size)) (F0 m 0 ls []) := by
  intro o0 x1 o2 h H locs ls wd hl hX
  have hx := cx.1.1
  have hb := cx.1.2.1
  unfold f_L_holes_e at hX
  refine lv_aload_n hx hb dL_holes_0 rfl (lv_at hl 2 rfl) ?_
  refine lv_iconst (v := 0) hx hb dL_holes_1 (by decide) ?_
  refine lv_aload_n hx hb dL_holes_2 rfl (lv_at hl 0 rfl) ?_
  refine lv_iload_n hx hb dL_holes_3 rfl (lv_at hl 1 rfl) ?_
  refine mh_xc mh_eI (K := 1) [.int x1] cx th wd (rfl : vwCl[11]? = some (RX11, TX11, 16)) yw_X11_holes vw_L_116 rfl hl.1 rfl (Nat.le_of_ble_eq_true rfl) dL_holes_4 ⟨Nat.le_of_ble_eq_true rfl, Nat.le_of_ble_eq_true rfl⟩ ⟨Nat.le_of_ble_eq_true rfl, Nat.le_of_ble_eq_true rfl⟩ (fun _ _ q => c_X11_holes q) hX (fun k h2 H locs q ce wd hX hq hv hcl => ?_) (fun v3 h1 H locs wd hX => ?_)
  · by_cases hk1 : k = 1
    · rw [if_pos hk1] at hX
      refine mh_wc1 cx mh_wl1 mh_wz1 htab (by decide) hk1 hq hv hcl ?_
      refine lv_astore_n (lv' := [(3, .ref q), (0, .ref o0), (1, .int x1), (2, .ref o2)]) hx hb dL_holes_12 rfl hl (Nat.le_of_ble_eq_true rfl) rfl (fun ls hl => ?_)
      refine lv_iconst (v := 1) hx hb dL_holes_13 (by decide) ?_
      exact mh_wiret cx wd hr hX dL_holes_14 ⟨Nat.le_of_ble_eq_true rfl, Nat.le_of_ble_eq_true rfl⟩
    · rw [if_neg hk1] at hX
      cases hX
  · refine W.eq (g2 := F0 m 7 ls [.int v3, .int (0 : Int32), .ref o2]) rfl ?_
    refine lv_i2l hx hb dL_holes_7 rfl ?_
    refine mh_last cx wd dL_holes_8 hX (fun h4 H locs wd hX => ?_)
    refine lv_goto (tgt := 15) hx hb dL_holes_9 rfl ?_
    refine lv_iconst (v := 0) hx hb dL_holes_15 (by decide) ?_
    exact mh_wiret cx wd hr hX dL_holes_16 ⟨Nat.le_of_ble_eq_true rfl, Nat.le_of_ble_eq_true rfl⟩
set_option maxRecDepth 100000 in
theorem c_L_holes {l : Launch} {L : List Nat} {h h' : mh_H} {r : Int32} {o0 : Nat} {x1 : Int32} {o2 : Nat} (hX : f_L_holes_e o0 x1 o2 h = some (r, h')) : mh_Mt l yL_holes (Cond.codeWith yL_holes cL_holes 4 (some .int) [(0, 9, 12, 13)] :: mh_TB) (mh_rx 8 1) [.ref o0, .int x1, .ref o2] L h r h' 1 6 :=
  mh_wof (by decide) (Nat.le_of_ble_eq_true rfl) (fun p e s m below meth c D ks ls hr cx th nc htab wd hl => by
    have hl : lv_has ls 4 [(0, .ref o0), (1, .int x1), (2, .ref o2)] := hl
    exact w_L_holes_e cx th nc htab hr o0 x1 o2 h _ _ ls wd hl hX)
def f_L_change_e (o0 : Nat) (x1 : Int32) (x2 : Int32) (x3 : Int32) (o4 : Nat) (h : mh_H) : Option (Int32 × mh_H) :=
  mh_bc (mh_cal h o0 11 (f_X11_change_e o0 x1 x2 x3 h)) (fun k h2 => if k = 1 then (some ((1 : Int32), h2)) else if k = 2 then (some ((2 : Int32), h2)) else none) fun v3 h1 =>
  (mh_sJ h1 o4 (0 : Int32) ((v3).toInt64)).bind fun h4 =>
  some ((0 : Int32), h4)
set_option maxRecDepth 100000 in
set_option maxHeartbeats 4000000 in
theorem w_L_change_e {p : Program} {l : Launch} {e : Env} {s : State} {m : MethodId} {args : Array Value} {below : List Frame} {meth : Method} {c : Code} {D : va_G} {ks : Nat → ClassId} {L : List Nat} {r : Int32} {h' : mh_H} (cx : mh_C p m c cL_change 6 s args RL meth D ks (mh_A L s.heap.size)) (th : mh_Th l (mh_A L s.heap.size) s) (nc : mh_Nc s) (htab : c.exceptionTable.toList = [⟨0, 12, 15, 13⟩, ⟨0, 12, 19, 19⟩]) (hr : meth.sig.returnType = (some .int)) :
    ∀ (o0 : Nat) (x1 : Int32) (x2 : Int32) (x3 : Int32) (o4 : Nat) (h : mh_H) (H : Heap) (locs : List Loc) (ls : Array Slot), mh_W D ks L (mh_A L s.heap.size) s.heap h H locs → lv_has ls 6 [(0, .ref o0), (1, .int x1), (2, .int x2), (3, .int x3), (4, .ref o4)] → f_L_change_e o0 x1 x2 x3 o4 h = some (r, h') → W p l e (mh_rx 9 3) s m args below meth c H locs 0 0 (MQ below (mh_Qi D ks L s.heap.size r h') args s 3 18 (mh_A L s.heap.size)) (F0 m 0 ls []) := by
  intro o0 x1 x2 x3 o4 h H locs ls wd hl hX
  have hx := cx.1.1
  have hb := cx.1.2.1
  unfold f_L_change_e at hX
  refine lv_aload hx hb dL_change_0 (lv_at hl 4 rfl) ?_
  refine lv_iconst (v := 0) hx hb dL_change_2 (by decide) ?_
  refine lv_aload_n hx hb dL_change_3 rfl (lv_at hl 0 rfl) ?_
  refine lv_iload_n hx hb dL_change_4 rfl (lv_at hl 1 rfl) ?_
  refine lv_iload_n hx hb dL_change_5 rfl (lv_at hl 2 rfl) ?_
  refine lv_iload_n hx hb dL_change_6 rfl (lv_at hl 3 rfl) ?_
  refine mh_xc mh_eI (K := 3) [.int x1, .int x2, .int x3] cx th wd (rfl : vwCl[11]? = some (RX11, TX11, 16)) yw_X11_change vw_L_119 rfl hl.1 rfl (Nat.le_of_ble_eq_true rfl) dL_change_7 ⟨Nat.le_of_ble_eq_true rfl, Nat.le_of_ble_eq_true rfl⟩ ⟨Nat.le_of_ble_eq_true rfl, Nat.le_of_ble_eq_true rfl⟩ (fun _ _ q => c_X11_change q) hX (fun k h2 H locs q ce wd hX hq hv hcl => ?_) (fun v3 h1 H locs wd hX => ?_)
  · by_cases hk1 : k = 1
    · rw [if_pos hk1] at hX
      refine mh_wc1 cx mh_wl1 mh_wz1 htab (by decide) hk1 hq hv hcl ?_
      refine lv_astore (lv' := [(5, .ref q), (0, .ref o0), (1, .int x1), (2, .int x2), (3, .int x3), (4, .ref o4)]) hx hb dL_change_15 hl (Nat.le_of_ble_eq_true rfl) rfl (fun ls hl => ?_)
      refine lv_iconst (v := 1) hx hb dL_change_17 (by decide) ?_
      exact mh_wiret cx wd hr hX dL_change_18 ⟨Nat.le_of_ble_eq_true rfl, Nat.le_of_ble_eq_true rfl⟩
    · rw [if_neg hk1] at hX
      by_cases hk2 : k = 2
      · rw [if_pos hk2] at hX
        refine mh_wc2 cx nc mh_wl1 mh_wl2 mh_wz2 htab (by decide) hk2 hq hv hcl ?_
        refine lv_astore (lv' := [(5, .ref q), (0, .ref o0), (1, .int x1), (2, .int x2), (3, .int x3), (4, .ref o4)]) hx hb dL_change_19 hl (Nat.le_of_ble_eq_true rfl) rfl (fun ls hl => ?_)
        refine lv_iconst (v := 2) hx hb dL_change_21 (by decide) ?_
        exact mh_wiret cx wd hr hX dL_change_22 ⟨Nat.le_of_ble_eq_true rfl, Nat.le_of_ble_eq_true rfl⟩
      · rw [if_neg hk2] at hX
        cases hX
  · refine W.eq (g2 := F0 m 10 ls [.int v3, .int (0 : Int32), .ref o4]) rfl ?_
    refine lv_i2l hx hb dL_change_10 rfl ?_
    refine mh_last cx wd dL_change_11 hX (fun h4 H locs wd hX => ?_)
    refine lv_goto (tgt := 23) hx hb dL_change_12 rfl ?_
    refine lv_iconst (v := 0) hx hb dL_change_23 (by decide) ?_
    exact mh_wiret cx wd hr hX dL_change_24 ⟨Nat.le_of_ble_eq_true rfl, Nat.le_of_ble_eq_true rfl⟩
set_option maxRecDepth 100000 in
theorem c_L_change {l : Launch} {L : List Nat} {h h' : mh_H} {r : Int32} {o0 : Nat} {x1 : Int32} {x2 : Int32} {x3 : Int32} {o4 : Nat} (hX : f_L_change_e o0 x1 x2 x3 o4 h = some (r, h')) : mh_Mt l yL_change (Cond.codeWith yL_change cL_change 6 (some .int) [(0, 12, 15, 13), (0, 12, 19, 19)] :: mh_TB) (mh_rx 9 3) [.ref o0, .int x1, .int x2, .int x3, .ref o4] L h r h' 3 18 :=
  mh_wof (by decide) (Nat.le_of_ble_eq_true rfl) (fun p e s m below meth c D ks ls hr cx th nc htab wd hl => by
    have hl : lv_has ls 6 [(0, .ref o0), (1, .int x1), (2, .int x2), (3, .int x3), (4, .ref o4)] := hl
    exact w_L_change_e cx th nc htab hr o0 x1 x2 x3 o4 h _ _ ls wd hl hX)
def f_L_deal_e (o0 : Nat) (x1 : Int32) (x2 : Int32) (x3 : Int32) (o4 : Nat) (h : mh_H) : Option (Int32 × mh_H) :=
  mh_bc (mh_cal h o0 11 (f_X11_deal_e o0 x1 x2 x3 h)) (fun k h2 => if k = 1 then (some ((1 : Int32), h2)) else if k = 2 then (some ((2 : Int32), h2)) else none) fun v3 h1 =>
  (mh_sJ h1 o4 (0 : Int32) ((v3).toInt64)).bind fun h4 =>
  some ((0 : Int32), h4)
set_option maxRecDepth 100000 in
set_option maxHeartbeats 4000000 in
theorem w_L_deal_e {p : Program} {l : Launch} {e : Env} {s : State} {m : MethodId} {args : Array Value} {below : List Frame} {meth : Method} {c : Code} {D : va_G} {ks : Nat → ClassId} {L : List Nat} {r : Int32} {h' : mh_H} (cx : mh_C p m c cL_deal 6 s args RL meth D ks (mh_A L s.heap.size)) (th : mh_Th l (mh_A L s.heap.size) s) (nc : mh_Nc s) (htab : c.exceptionTable.toList = [⟨0, 12, 15, 13⟩, ⟨0, 12, 19, 19⟩]) (hr : meth.sig.returnType = (some .int)) :
    ∀ (o0 : Nat) (x1 : Int32) (x2 : Int32) (x3 : Int32) (o4 : Nat) (h : mh_H) (H : Heap) (locs : List Loc) (ls : Array Slot), mh_W D ks L (mh_A L s.heap.size) s.heap h H locs → lv_has ls 6 [(0, .ref o0), (1, .int x1), (2, .int x2), (3, .int x3), (4, .ref o4)] → f_L_deal_e o0 x1 x2 x3 o4 h = some (r, h') → W p l e (mh_rx 9 3) s m args below meth c H locs 0 0 (MQ below (mh_Qi D ks L s.heap.size r h') args s 3 18 (mh_A L s.heap.size)) (F0 m 0 ls []) := by
  intro o0 x1 x2 x3 o4 h H locs ls wd hl hX
  have hx := cx.1.1
  have hb := cx.1.2.1
  unfold f_L_deal_e at hX
  refine lv_aload hx hb dL_deal_0 (lv_at hl 4 rfl) ?_
  refine lv_iconst (v := 0) hx hb dL_deal_2 (by decide) ?_
  refine lv_aload_n hx hb dL_deal_3 rfl (lv_at hl 0 rfl) ?_
  refine lv_iload_n hx hb dL_deal_4 rfl (lv_at hl 1 rfl) ?_
  refine lv_iload_n hx hb dL_deal_5 rfl (lv_at hl 2 rfl) ?_
  refine lv_iload_n hx hb dL_deal_6 rfl (lv_at hl 3 rfl) ?_
  refine mh_xc mh_eI (K := 3) [.int x1, .int x2, .int x3] cx th wd (rfl : vwCl[11]? = some (RX11, TX11, 16)) yw_X11_deal vw_L_122 rfl hl.1 rfl (Nat.le_of_ble_eq_true rfl) dL_deal_7 ⟨Nat.le_of_ble_eq_true rfl, Nat.le_of_ble_eq_true rfl⟩ ⟨Nat.le_of_ble_eq_true rfl, Nat.le_of_ble_eq_true rfl⟩ (fun _ _ q => c_X11_deal q) hX (fun k h2 H locs q ce wd hX hq hv hcl => ?_) (fun v3 h1 H locs wd hX => ?_)
  · by_cases hk1 : k = 1
    · rw [if_pos hk1] at hX
      refine mh_wc1 cx mh_wl1 mh_wz1 htab (by decide) hk1 hq hv hcl ?_
      refine lv_astore (lv' := [(5, .ref q), (0, .ref o0), (1, .int x1), (2, .int x2), (3, .int x3), (4, .ref o4)]) hx hb dL_deal_15 hl (Nat.le_of_ble_eq_true rfl) rfl (fun ls hl => ?_)
      refine lv_iconst (v := 1) hx hb dL_deal_17 (by decide) ?_
      exact mh_wiret cx wd hr hX dL_deal_18 ⟨Nat.le_of_ble_eq_true rfl, Nat.le_of_ble_eq_true rfl⟩
    · rw [if_neg hk1] at hX
      by_cases hk2 : k = 2
      · rw [if_pos hk2] at hX
        refine mh_wc2 cx nc mh_wl1 mh_wl2 mh_wz2 htab (by decide) hk2 hq hv hcl ?_
        refine lv_astore (lv' := [(5, .ref q), (0, .ref o0), (1, .int x1), (2, .int x2), (3, .int x3), (4, .ref o4)]) hx hb dL_deal_19 hl (Nat.le_of_ble_eq_true rfl) rfl (fun ls hl => ?_)
        refine lv_iconst (v := 2) hx hb dL_deal_21 (by decide) ?_
        exact mh_wiret cx wd hr hX dL_deal_22 ⟨Nat.le_of_ble_eq_true rfl, Nat.le_of_ble_eq_true rfl⟩
      · rw [if_neg hk2] at hX
        cases hX
  · refine W.eq (g2 := F0 m 10 ls [.int v3, .int (0 : Int32), .ref o4]) rfl ?_
    refine lv_i2l hx hb dL_deal_10 rfl ?_
    refine mh_last cx wd dL_deal_11 hX (fun h4 H locs wd hX => ?_)
    refine lv_goto (tgt := 23) hx hb dL_deal_12 rfl ?_
    refine lv_iconst (v := 0) hx hb dL_deal_23 (by decide) ?_
    exact mh_wiret cx wd hr hX dL_deal_24 ⟨Nat.le_of_ble_eq_true rfl, Nat.le_of_ble_eq_true rfl⟩
set_option maxRecDepth 100000 in
theorem c_L_deal {l : Launch} {L : List Nat} {h h' : mh_H} {r : Int32} {o0 : Nat} {x1 : Int32} {x2 : Int32} {x3 : Int32} {o4 : Nat} (hX : f_L_deal_e o0 x1 x2 x3 o4 h = some (r, h')) : mh_Mt l yL_deal (Cond.codeWith yL_deal cL_deal 6 (some .int) [(0, 12, 15, 13), (0, 12, 19, 19)] :: mh_TB) (mh_rx 9 3) [.ref o0, .int x1, .int x2, .int x3, .ref o4] L h r h' 3 18 :=
  mh_wof (by decide) (Nat.le_of_ble_eq_true rfl) (fun p e s m below meth c D ks ls hr cx th nc htab wd hl => by
    have hl : lv_has ls 6 [(0, .ref o0), (1, .int x1), (2, .int x2), (3, .int x3), (4, .ref o4)] := hl
    exact w_L_deal_e cx th nc htab hr o0 x1 x2 x3 o4 h _ _ ls wd hl hX)
