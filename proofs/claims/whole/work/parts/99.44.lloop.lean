/-! the law's loop -/
theorem mh_and63 (x : Int32) : ∃ j, j < 64 ∧ x &&& 63 = nI j := by
  have h1 : (x &&& 63).toBitVec.toNat < 64 := by
    rw [Int32.toBitVec_and, BitVec.toNat_and]
    exact Nat.lt_of_le_of_lt Nat.and_le_right (by decide)
  refine ⟨(x &&& 63).toBitVec.toNat, h1, ?_⟩
  apply Int32.toBitVec_inj.mp
  apply BitVec.eq_of_toNat_eq
  show _ = (BitVec.ofNat 32 _).toNat
  rw [BitVec.toNat_ofNat, Nat.mod_eq_of_lt (by omega)]
theorem mh_gt5 {N i : Nat} (hN : N ≤ 2560) (hi : i ≤ 2565) : nI N - 5 < nI i ↔ N < i + 5 := by
  rw [Int32.lt_iff_toInt_lt, Int32.toInt_sub, nI_toInt (by omega), nI_toInt (by omega), show (5 : Int32).toInt = 5 from rfl, Int.bmod_eq_of_le (by omega) (by omega)]
  omega
section MhLoop
variable {p : Program} {l : Launch} {e : Env} {s : State} {m : MethodId} {args : Array Value} {below : List Frame} {meth : Method} {c : Code} {D : va_G} {ks : Nat → ClassId} {L : List Nat} {A : Nat → Prop} {b N : Nat} {xs : Nat → Int32} {ad bd : Nat → Nat} {o : Nat} {Q : State → Prop}
set_option maxHeartbeats 4000000 in
theorem mh_turn {σ : mh_Sg} {F : Nat → Int32} {h : mh_H} {H : Heap} {locs : List Loc} {ls : Array Slot} {cells slots i : Nat} (cx : mh_C p m c cL_law 8 s args RL meth D ks A) (th : mh_Th l A s) (nc : mh_Nc s) (hS : va_X b N xs s s.heap ∧ b < s.heap.size ∧ ¬ A b) (hc : cells + 3 ≤ room_1.cells ∧ slots + 18 ≤ room_1.slots) (hN : N ≤ 2560) (hi : i + 5 ≤ N) (wd : mh_W D ks L A s.heap h H locs) (hl : lv_has ls 8 [(0, .ref b), (1, .ref (ad 1289)), (2, .ref (bd 0)), (3, .ref o), (4, .int (nI i))]) (hL : mh_LI h ad bd o σ F)
    (kk : ∀ h' H locs ls σ' F', mh_LI h' ad bd o σ' F' → mh_W D ks L A s.heap h' H locs → lv_has ls 8 [(0, .ref b), (1, .ref (ad 1289)), (2, .ref (bd 0)), (3, .ref o), (4, .int (nI i))] → W p l e room_1 s m args below meth c H locs (cells + 3) (slots + 18) Q (F0 m 2678 ls [])) : W p l e room_1 s m args below meth c H locs cells slots Q (F0 m 39 ls [.int (xs i &&& 63)]) := by
  have hx := cx.1.1
  have hb := cx.1.2.1
  obtain ⟨j, hj, ej⟩ := mh_and63 (xs i)
  rw [ej]
  by_cases hj2 : 38 ≤ j
  · refine lv_tableOut (tgt := 2678) hx hb dL_law_39 (Or.inr (by rw [nI_toInt (by omega)]; omega)) rfl ?_
    refine W.widen (k := cells + 3) (n := slots + 18) (by omega) (by omega) ?_
    exact kk h H locs ls σ F hL wd hl
  · obtain rfl | rfl | rfl | rfl | rfl | rfl | rfl | rfl | rfl | rfl | rfl | rfl | rfl | rfl | rfl | rfl | rfl | rfl | rfl | rfl | rfl | rfl | rfl | rfl | rfl | rfl | rfl | rfl | rfl | rfl | rfl | rfl | rfl | rfl | rfl | rfl | rfl | rfl : j = 0 ∨ j = 1 ∨ j = 2 ∨ j = 3 ∨ j = 4 ∨ j = 5 ∨ j = 6 ∨ j = 7 ∨ j = 8 ∨ j = 9 ∨ j = 10 ∨ j = 11 ∨ j = 12 ∨ j = 13 ∨ j = 14 ∨ j = 15 ∨ j = 16 ∨ j = 17 ∨ j = 18 ∨ j = 19 ∨ j = 20 ∨ j = 21 ∨ j = 22 ∨ j = 23 ∨ j = 24 ∨ j = 25 ∨ j = 26 ∨ j = 27 ∨ j = 28 ∨ j = 29 ∨ j = 30 ∨ j = 31 ∨ j = 32 ∨ j = 33 ∨ j = 34 ∨ j = 35 ∨ j = 36 ∨ j = 37 := by omega
    · obtain ⟨h', σ', F', e1, e2⟩ := mh_L_k0 (xs := xs) hL hi hN
      refine lv_tableIn (off := 165) (tgt := 204) hx hb dL_law_39 (by decide) (by decide) rfl rfl ?_
      exact w_L_k0 cx th nc hS hc wd hl e1 (fun H locs ls wd hl => kk h' H locs ls σ' F' e2 wd hl)
    · obtain ⟨h', σ', F', e1, e2⟩ := mh_L_k1 (xs := xs) hL hi hN
      refine lv_tableIn (off := 202) (tgt := 241) hx hb dL_law_39 (by decide) (by decide) rfl rfl ?_
      exact w_L_k1 cx th nc hS hc wd hl e1 (fun H locs ls wd hl => kk h' H locs ls σ' F' e2 wd hl)
    · obtain ⟨h', σ', F', e1, e2⟩ := mh_L_k2 (xs := xs) hL hi hN
      refine lv_tableIn (off := 239) (tgt := 278) hx hb dL_law_39 (by decide) (by decide) rfl rfl ?_
      exact w_L_k2 cx th nc hS hc wd hl e1 (fun H locs ls wd hl => kk h' H locs ls σ' F' e2 wd hl)
    · obtain ⟨h', σ', F', e1, e2⟩ := mh_L_k3 (xs := xs) hL hi hN
      refine lv_tableIn (off := 307) (tgt := 346) hx hb dL_law_39 (by decide) (by decide) rfl rfl ?_
      exact w_L_k3 cx th nc hS hc wd hl e1 (fun H locs ls wd hl => kk h' H locs ls σ' F' e2 wd hl)
    · obtain ⟨h', σ', F', e1, e2⟩ := mh_L_k4 (xs := xs) hL hi hN
      refine lv_tableIn (off := 320) (tgt := 359) hx hb dL_law_39 (by decide) (by decide) rfl rfl ?_
      exact w_L_k4 cx th nc hS hc wd hl e1 (fun H locs ls wd hl => kk h' H locs ls σ' F' e2 wd hl)
    · obtain ⟨h', σ', F', e1, e2⟩ := mh_L_k5 (xs := xs) hL hi hN
      refine lv_tableIn (off := 333) (tgt := 372) hx hb dL_law_39 (by decide) (by decide) rfl rfl ?_
      exact w_L_k5 cx th nc hS hc wd hl e1 (fun H locs ls wd hl => kk h' H locs ls σ' F' e2 wd hl)
    · obtain ⟨h', σ', F', e1, e2⟩ := mh_L_k6 (xs := xs) hL hi hN
      refine lv_tableIn (off := 432) (tgt := 471) hx hb dL_law_39 (by decide) (by decide) rfl rfl ?_
      exact w_L_k6 cx th nc hS hc wd hl e1 (fun H locs ls wd hl => kk h' H locs ls σ' F' e2 wd hl)
    · obtain ⟨h', σ', F', e1, e2⟩ := mh_L_k7 (xs := xs) hL hi hN
      refine lv_tableIn (off := 543) (tgt := 582) hx hb dL_law_39 (by decide) (by decide) rfl rfl ?_
      exact w_L_k7 cx th nc hS hc wd hl e1 (fun H locs ls wd hl => kk h' H locs ls σ' F' e2 wd hl)
    · obtain ⟨h', σ', F', e1, e2⟩ := mh_L_k8 (xs := xs) hL hi hN
      refine lv_tableIn (off := 642) (tgt := 681) hx hb dL_law_39 (by decide) (by decide) rfl rfl ?_
      exact w_L_k8 cx th nc hS hc wd hl e1 (fun H locs ls wd hl => kk h' H locs ls σ' F' e2 wd hl)
    · obtain ⟨h', σ', F', e1, e2⟩ := mh_L_k9 (xs := xs) hL hi hN
      refine lv_tableIn (off := 705) (tgt := 744) hx hb dL_law_39 (by decide) (by decide) rfl rfl ?_
      exact w_L_k9 cx th nc hS hc wd hl e1 (fun H locs ls wd hl => kk h' H locs ls σ' F' e2 wd hl)
    · obtain ⟨h', σ', F', e1, e2⟩ := mh_L_k10 (xs := xs) hL hi hN
      refine lv_tableIn (off := 761) (tgt := 800) hx hb dL_law_39 (by decide) (by decide) rfl rfl ?_
      exact w_L_k10 cx th nc hS hc wd hl e1 (fun H locs ls wd hl => kk h' H locs ls σ' F' e2 wd hl)
    · obtain ⟨h', σ', F', e1, e2⟩ := mh_L_k11 (xs := xs) hL hi hN
      refine lv_tableIn (off := 817) (tgt := 856) hx hb dL_law_39 (by decide) (by decide) rfl rfl ?_
      exact w_L_k11 cx th nc hS hc wd hl e1 (fun H locs ls wd hl => kk h' H locs ls σ' F' e2 wd hl)
    · obtain ⟨h', σ', F', e1, e2⟩ := mh_L_k12 (xs := xs) hL hi hN
      refine lv_tableIn (off := 872) (tgt := 911) hx hb dL_law_39 (by decide) (by decide) rfl rfl ?_
      exact w_L_k12 cx th nc hS hc wd hl e1 (fun H locs ls wd hl => kk h' H locs ls σ' F' e2 wd hl)
    · obtain ⟨h', σ', F', e1, e2⟩ := mh_L_k13 (xs := xs) hL hi hN
      refine lv_tableIn (off := 928) (tgt := 967) hx hb dL_law_39 (by decide) (by decide) rfl rfl ?_
      exact w_L_k13 cx th nc hS hc wd hl e1 (fun H locs ls wd hl => kk h' H locs ls σ' F' e2 wd hl)
    · obtain ⟨h', σ', F', e1, e2⟩ := mh_L_k14 (xs := xs) hL hi hN
      refine lv_tableIn (off := 996) (tgt := 1035) hx hb dL_law_39 (by decide) (by decide) rfl rfl ?_
      exact w_L_k14 cx th nc hS hc wd hl e1 (fun H locs ls wd hl => kk h' H locs ls σ' F' e2 wd hl)
    · obtain ⟨h', σ', F', e1, e2⟩ := mh_L_k15 (xs := xs) hL hi hN
      refine lv_tableIn (off := 1064) (tgt := 1103) hx hb dL_law_39 (by decide) (by decide) rfl rfl ?_
      exact w_L_k15 cx th nc hS hc wd hl e1 (fun H locs ls wd hl => kk h' H locs ls σ' F' e2 wd hl)
    · obtain ⟨h', σ', F', e1, e2⟩ := mh_L_k16 (xs := xs) hL hi hN
      refine lv_tableIn (off := 1127) (tgt := 1166) hx hb dL_law_39 (by decide) (by decide) rfl rfl ?_
      exact w_L_k16 cx th nc hS hc wd hl e1 (fun H locs ls wd hl => kk h' H locs ls σ' F' e2 wd hl)
    · obtain ⟨h', σ', F', e1, e2⟩ := mh_L_k17 (xs := xs) hL hi hN
      refine lv_tableIn (off := 1183) (tgt := 1222) hx hb dL_law_39 (by decide) (by decide) rfl rfl ?_
      exact w_L_k17 cx th nc hS hc wd hl e1 (fun H locs ls wd hl => kk h' H locs ls σ' F' e2 wd hl)
    · obtain ⟨h', σ', F', e1, e2⟩ := mh_L_k18 (xs := xs) hL hi hN
      refine lv_tableIn (off := 1258) (tgt := 1297) hx hb dL_law_39 (by decide) (by decide) rfl rfl ?_
      exact w_L_k18 cx th nc hS hc wd hl e1 (fun H locs ls wd hl => kk h' H locs ls σ' F' e2 wd hl)
    · obtain ⟨h', σ', F', e1, e2⟩ := mh_L_k19 (xs := xs) hL hi hN
      refine lv_tableIn (off := 1338) (tgt := 1377) hx hb dL_law_39 (by decide) (by decide) rfl rfl ?_
      exact w_L_k19 cx th nc hS hc wd hl e1 (fun H locs ls wd hl => kk h' H locs ls σ' F' e2 wd hl)
    · obtain ⟨h', σ', F', e1, e2⟩ := mh_L_k20 (xs := xs) hL hi hN
      refine lv_tableIn (off := 1418) (tgt := 1457) hx hb dL_law_39 (by decide) (by decide) rfl rfl ?_
      exact w_L_k20 cx th nc hS hc wd hl e1 (fun H locs ls wd hl => kk h' H locs ls σ' F' e2 wd hl)
    · obtain ⟨h', σ', F', e1, e2⟩ := mh_L_k21 (xs := xs) hL hi hN
      refine lv_tableIn (off := 1498) (tgt := 1537) hx hb dL_law_39 (by decide) (by decide) rfl rfl ?_
      exact w_L_k21 cx th nc hS hc wd hl e1 (fun H locs ls wd hl => kk h' H locs ls σ' F' e2 wd hl)
    · obtain ⟨h', σ', F', e1, e2⟩ := mh_L_k22 (xs := xs) hL hi hN
      refine lv_tableIn (off := 1565) (tgt := 1604) hx hb dL_law_39 (by decide) (by decide) rfl rfl ?_
      exact w_L_k22 cx th nc hS hc wd hl e1 (fun H locs ls wd hl => kk h' H locs ls σ' F' e2 wd hl)
    · obtain ⟨h', σ', F', e1, e2⟩ := mh_L_k23 (xs := xs) hL hi hN
      refine lv_tableIn (off := 1684) (tgt := 1723) hx hb dL_law_39 (by decide) (by decide) rfl rfl ?_
      exact w_L_k23 cx th nc hS hc wd hl e1 (fun H locs ls wd hl => kk h' H locs ls σ' F' e2 wd hl)
    · obtain ⟨h', σ', F', e1, e2⟩ := mh_L_k24 (xs := xs) hL hi hN
      refine lv_tableIn (off := 1740) (tgt := 1779) hx hb dL_law_39 (by decide) (by decide) rfl rfl ?_
      exact w_L_k24 cx th nc hS hc wd hl e1 (fun H locs ls wd hl => kk h' H locs ls σ' F' e2 wd hl)
    · obtain ⟨h', σ', F', e1, e2⟩ := mh_L_k25 (xs := xs) hL hi hN
      refine lv_tableIn (off := 1808) (tgt := 1847) hx hb dL_law_39 (by decide) (by decide) rfl rfl ?_
      exact w_L_k25 cx th nc hS hc wd hl e1 (fun H locs ls wd hl => kk h' H locs ls σ' F' e2 wd hl)
    · obtain ⟨h', σ', F', e1, e2⟩ := mh_L_k26 (xs := xs) hL hi hN
      refine lv_tableIn (off := 1851) (tgt := 1890) hx hb dL_law_39 (by decide) (by decide) rfl rfl ?_
      exact w_L_k26 cx th nc hS hc wd hl e1 (fun H locs ls wd hl => kk h' H locs ls σ' F' e2 wd hl)
    · obtain ⟨h', σ', F', e1, e2⟩ := mh_L_k27 (xs := xs) hL hi hN
      refine lv_tableIn (off := 1919) (tgt := 1958) hx hb dL_law_39 (by decide) (by decide) rfl rfl ?_
      exact w_L_k27 cx th nc hS hc wd hl e1 (fun H locs ls wd hl => kk h' H locs ls σ' F' e2 wd hl)
    · obtain ⟨h', σ', F', e1, e2⟩ := mh_L_k28 (xs := xs) hL hi hN
      refine lv_tableIn (off := 1987) (tgt := 2026) hx hb dL_law_39 (by decide) (by decide) rfl rfl ?_
      exact w_L_k28 cx th nc hS hc wd hl e1 (fun H locs ls wd hl => kk h' H locs ls σ' F' e2 wd hl)
    · obtain ⟨h', σ', F', e1, e2⟩ := mh_L_k29 (xs := xs) hL hi hN
      refine lv_tableIn (off := 2066) (tgt := 2105) hx hb dL_law_39 (by decide) (by decide) rfl rfl ?_
      exact w_L_k29 cx th nc hS hc wd hl e1 (fun H locs ls wd hl => kk h' H locs ls σ' F' e2 wd hl)
    · obtain ⟨h', σ', F', e1, e2⟩ := mh_L_k30 (xs := xs) hL hi hN
      refine lv_tableIn (off := 2146) (tgt := 2185) hx hb dL_law_39 (by decide) (by decide) rfl rfl ?_
      exact w_L_k30 cx th nc hS hc wd hl e1 (fun H locs ls wd hl => kk h' H locs ls σ' F' e2 wd hl)
    · obtain ⟨h', σ', F', e1, e2⟩ := mh_L_k31 (xs := xs) hL hi hN
      refine lv_tableIn (off := 2159) (tgt := 2198) hx hb dL_law_39 (by decide) (by decide) rfl rfl ?_
      exact w_L_k31 cx th nc hS hc wd hl e1 (fun H locs ls wd hl => kk h' H locs ls σ' F' e2 wd hl)
    · obtain ⟨h', σ', F', e1, e2⟩ := mh_L_k32 (xs := xs) hL hi hN
      refine lv_tableIn (off := 2207) (tgt := 2246) hx hb dL_law_39 (by decide) (by decide) rfl rfl ?_
      exact w_L_k32 cx th nc hS hc wd hl e1 (fun H locs ls wd hl => kk h' H locs ls σ' F' e2 wd hl)
    · obtain ⟨h', σ', F', e1, e2⟩ := mh_L_k33 (xs := xs) hL hi hN
      refine lv_tableIn (off := 2287) (tgt := 2326) hx hb dL_law_39 (by decide) (by decide) rfl rfl ?_
      exact w_L_k33 cx th nc hS hc wd hl e1 (fun H locs ls wd hl => kk h' H locs ls σ' F' e2 wd hl)
    · obtain ⟨h', σ', F', e1, e2⟩ := mh_L_k34 (xs := xs) hL hi hN
      refine lv_tableIn (off := 2355) (tgt := 2394) hx hb dL_law_39 (by decide) (by decide) rfl rfl ?_
      exact w_L_k34 cx th nc hS hc wd hl e1 (fun H locs ls wd hl => kk h' H locs ls σ' F' e2 wd hl)
    · obtain ⟨h', σ', F', e1, e2⟩ := mh_L_k35 (xs := xs) hL hi hN
      refine lv_tableIn (off := 2423) (tgt := 2462) hx hb dL_law_39 (by decide) (by decide) rfl rfl ?_
      exact w_L_k35 cx th nc hS hc wd hl e1 (fun H locs ls wd hl => kk h' H locs ls σ' F' e2 wd hl)
    · obtain ⟨h', σ', F', e1, e2⟩ := mh_L_k36 (xs := xs) hL hi hN
      refine lv_tableIn (off := 2479) (tgt := 2518) hx hb dL_law_39 (by decide) (by decide) rfl rfl ?_
      exact w_L_k36 cx th nc hS hc wd hl e1 (fun H locs ls wd hl => kk h' H locs ls σ' F' e2 wd hl)
    · obtain ⟨h', σ', F', e1, e2⟩ := mh_L_k37 (xs := xs) hL hi hN
      refine lv_tableIn (off := 2559) (tgt := 2598) hx hb dL_law_39 (by decide) (by decide) rfl rfl ?_
      exact w_L_k37 cx th nc hS hc wd hl e1 (fun H locs ls wd hl => kk h' H locs ls σ' F' e2 wd hl)
theorem mh_lloop {A : Nat → Prop} (hAs : ∀ q, A q → s.heap.size ≤ q) (cx : mh_C p m c cL_law 8 s #[Value.ref b] RL meth D ks A) (th : mh_Th l A s) (nc : mh_Nc s) (hS : va_X b N xs s s.heap ∧ b < s.heap.size ∧ ¬ A b) (hN : N ≤ 2560) (hr : meth.sig.returnType = ret) : ∀ (n i : Nat) {σ : mh_Sg} {F : Nat → Int32} {h : mh_H} {H : Heap} {locs : List Loc} {ls : Array Slot} {cells slots : Nat}, N < i + 5 * n + 5 → i ≤ 2560 → cells + 3 * n ≤ 601024 → slots + 18 * n ≤ 7293034 → mh_W D ks L A s.heap h H locs → lv_has ls 8 [(0, .ref b), (1, .ref (ad 1289)), (2, .ref (bd 0)), (3, .ref o), (4, .int (nI i))] → mh_LI h ad bd o σ F → W p l e room_1 s m #[Value.ref b] below meth c H locs cells slots (lw_Z below #[Value.ref b] s) (F0 m 23 ls []) := by
  have hx := cx.1.1
  have hb := cx.1.2.1
  -- the end
  have fin : ∀ {H : Heap} {locs : List Loc} {ls : Array Slot} {cells slots : Nat} {h : mh_H}, cells ≤ 601024 → slots ≤ 7293034 → mh_W D ks L A s.heap h H locs → W p l e room_1 s m #[Value.ref b] below meth c H locs cells slots (lw_Z below #[Value.ref b] s) (F0 m 2684 ls []) := fun c1 c2 wd => by
    refine lv_iconst (v := 1) hx hb dL_law_2684 (by decide) ?_
    refine va_forget (fun q hq => hAs _ (wd.2.2.1.2.2 q hq)) ?_
    refine W.widen (k := 601024) (n := 7293034) c1 c2 ?_
    exact lw_ret hx hb hr cx.2.2.1 dL_law_2685
  have head : ∀ {i : Nat} {H : Heap} {locs : List Loc} {ls : Array Slot} {cells slots : Nat} {h : mh_H}, i ≤ 2560 → cells ≤ 601024 → slots ≤ 7293034 → mh_W D ks L A s.heap h H locs → lv_has ls 8 [(0, .ref b), (1, .ref (ad 1289)), (2, .ref (bd 0)), (3, .ref o), (4, .int (nI i))] → (i + 5 ≤ N → W p l e room_1 s m #[Value.ref b] below meth c H locs cells slots (lw_Z below #[Value.ref b] s) (F0 m 39 ls [.int (xs i &&& 63)])) → W p l e room_1 s m #[Value.ref b] below meth c H locs cells slots (lw_Z below #[Value.ref b] s) (F0 m 23 ls []) := fun {i} {H} {locs} {ls} {cells} {slots} {h} hi c1 c2 wd hl kk => by
    refine lv_iload hx hb dL_law_23 (lv_at hl 4 rfl) ?_
    refine lv_aload_n hx hb dL_law_25 rfl (lv_at hl 0 rfl) ?_
    refine va_slen hx hb hS.1 hS.2.1 hS.2.2 wd.2.2.1 dL_law_26 ?_
    refine lv_iconst (v := 5) hx hb dL_law_27 (by decide) ?_
    refine lv_isub hx hb dL_law_28 ?_
    refine lv_icmp_gt (tgt := 2684) hx hb dL_law_29 rfl (fun _ => fin c1 c2 wd) (fun hc => ?_)
    have hi5 : i + 5 ≤ N := by
      have : ¬ N < i + 5 := fun q => hc ((mh_gt5 hN (show i ≤ 2565 by omega)).mpr q)
      omega
    refine lv_aload_n hx hb dL_law_32 rfl (lv_at hl 0 rfl) ?_
    refine lv_iload hx hb dL_law_33 (lv_at hl 4 rfl) ?_
    refine va_sld hx hb hS.1 hS.2.1 hS.2.2 wd.2.2.1 (nI_in (show i < N by omega) (by omega)) dL_law_35 ?_
    rw [nI_clamp (by omega)]
    refine lv_bipush (v := 63) hx hb dL_law_36 (by decide) ?_
    refine lv_iand hx hb dL_law_38 ?_
    exact kk hi5
  intro n
  induction n with
  | zero =>
    intro i σ F h H locs ls cells slots h1 h2 h3 h4 wd hl hL
    exact head h2 (by omega) (by omega) wd hl (fun q => by omega)
  | succ n ih =>
    intro i σ F h H locs ls cells slots h1 h2 h3 h4 wd hl hL
    refine head h2 (by omega) (by omega) wd hl (fun hi => ?_)
    refine mh_turn cx th nc hS ⟨show cells + 3 ≤ 601024 by omega, show slots + 18 ≤ 7293034 by omega⟩ hN hi wd hl hL (fun h' H locs ls σ' F' hL wd hl => ?_)
    refine lv_iinc (k := 4) (v := nI (i + 5)) (lv' := [(4, .int (nI (i + 5))), (0, .ref b), (1, .ref (ad 1289)), (2, .ref (bd 0)), (3, .ref o)]) hx hb dL_law_2678 hl rfl (by rw [show Int32.ofInt 5 = nI 5 from rfl, nI_add]) (Nat.le_of_ble_eq_true rfl) rfl (fun ls hl => ?_)
    refine lv_goto (tgt := 23) hx hb dL_law_2681 rfl ?_
    exact ih (i + 5) (by omega) (by omega) (by omega) (by omega) wd (lv_sub hl [1, 2, 3, 4, 0] rfl) hL
end MhLoop
