def mh_fs (f : Nat → List Nat) (j : Nat) (x : List Nat) : Nat → List Nat := fun i => if i = j then x else f i
def mh_setm (σ : mh_Sg) (j : Nat) (m : List Nat) : mh_Sg := (σ.1, (mh_fs σ.2.1.1 j m, σ.2.1.2), σ.2.2)
def mh_setp (σ : mh_Sg) (j : Nat) (c n : List Nat) : mh_Sg := (σ.1, (σ.2.1.1, mh_fs σ.2.1.2.1 j c, mh_fs σ.2.1.2.2 j n), σ.2.2)
def mh_nx (σ : mh_Sg) : Nat := (σ.1.1 + 1) % 21
def mh_cp (σ : mh_Sg) (f : Nat → List Nat) : Nat → List Nat := fun j => if mh_nx σ * 8 ≤ j ∧ j < mh_nx σ * 8 + 8 then f (σ.1.1 * 8 + (j - mh_nx σ * 8)) else f j
def mh_bg (σ : mh_Sg) : mh_Sg := ((mh_nx σ, min (σ.1.2.1 + 1) 20, 0), (mh_cp σ σ.2.1.1, mh_cp σ σ.2.1.2.1, mh_cp σ σ.2.1.2.2), σ.2.2)
theorem mh_cp_at {σ : mh_Sg} {f : Nat → List Nat} {p : Nat} (hp : p < 8) : mh_cp σ f (mh_nx σ * 8 + p) = f (σ.1.1 * 8 + p) := by
  unfold mh_cp
  rw [if_pos ⟨by omega, by omega⟩]
  congr 1
  omega
theorem mh_cc_h {ad : Nat → Nat} {σ σ' : mh_Sg} {h : mh_H} (e1 : σ'.2.2 = σ.2.2) : ∀ j, j < 16 → j ≠ 0 → mh_cc ad σ j h → mh_cc ad σ' j h := by
  intro j hj hn hc
  obtain rfl | rfl | rfl | rfl | rfl | rfl | rfl | rfl | rfl | rfl | rfl | rfl | rfl | rfl | rfl : j = 1 ∨ j = 2 ∨ j = 3 ∨ j = 4 ∨ j = 5 ∨ j = 6 ∨ j = 7 ∨ j = 8 ∨ j = 9 ∨ j = 10 ∨ j = 11 ∨ j = 12 ∨ j = 13 ∨ j = 14 ∨ j = 15 := by omega
  case _ => exact hc
  case _ => exact hc
  case _ => exact hc
  case _ => exact hc
  case _ => exact hc
  case _ => exact hc
  case _ => exact hc
  case _ => exact hc
  case _ => unfold mh_cc at hc ⊢; rw [e1]; exact hc
  case _ => exact hc
  case _ => exact hc
  case _ => exact hc
  case _ => exact hc
  case _ => unfold mh_cc at hc ⊢; rw [e1]; exact hc
  case _ => unfold mh_cc at hc ⊢; rw [e1]; exact hc
section MhState
variable {h : mh_H} {ad : Nat → Nat} {σ : mh_Sg}
theorem mh_CI.inj (hC : mh_CI h ad σ) {M : Nat} (hM : M ≤ 1290) : mh_Inj ad M := fun i j h1 h2 e => hC.1 i j (by omega) (by omega) e
theorem mh_x_begin (hC : mh_CI h ad σ) : ∃ h', f_X3_begin_e (ad 1008) h = some h' ∧ mh_CI h' ad (mh_bg σ) ∧ mh_frC ad h h' := by
  have hn := hC.now
  obtain ⟨hA, hS⟩ := hC.A
  have hi := hC.inj (show 1011 ≤ 1290 by omega)
  obtain ⟨h', e1, e2, e3, e4⟩ := mh_fx3_begin hi hA (m := fun i => σ.2.1.1 (σ.1.1 * 8 + i)) (c := fun i => σ.2.1.2.1 (σ.1.1 * 8 + i)) (n := fun i => σ.2.1.2.2 (σ.1.1 * 8 + i)) (fun i hi => (hS _ (by omega)).1) (fun i hi => ⟨_, _, _, (hS ((σ.1.1 + 1) % 21 * 8 + i) (by omega)).1⟩)
  have hnx : (σ.1.1 + 1) % 21 < 21 := Nat.mod_lt _ (by omega)
  refine ⟨h', e1, hC.upd 0 (by omega) (fun b hb => e4 b (hb _ (Nat.zero_le _) (by show 1008 < 1011; omega)) (fun i q h1 h2 => hb _ (Nat.zero_le _) (by show _ < 1011; omega))) ⟨e2, fun j hj => ?_⟩ (mh_cc_h rfl)⟩
  by_cases hjn : mh_nx σ * 8 ≤ j ∧ j < mh_nx σ * 8 + 8
  · have e : j = mh_nx σ * 8 + (j - mh_nx σ * 8) := by omega
    rw [e]
    have hp : j - mh_nx σ * 8 < 8 := by omega
    show mh_Sl h' ad (mh_nx σ * 8 + (j - mh_nx σ * 8)) (mh_cp σ σ.2.1.1 _) (mh_cp σ σ.2.1.2.1 _) (mh_cp σ σ.2.1.2.2 _) ∧ mh_ms (mh_cp σ σ.2.1.1 _) ∧ mh_pz (mh_cp σ σ.2.1.2.1 _) (mh_cp σ σ.2.1.2.2 _)
    rw [mh_cp_at hp, mh_cp_at hp, mh_cp_at hp]
    exact ⟨e3 _ hp, (hS _ (by omega)).2⟩
  · have k1 : ∀ f, mh_cp σ f j = f j := fun f => if_neg hjn
    show mh_Sl h' ad j (mh_cp σ σ.2.1.1 j) (mh_cp σ σ.2.1.2.1 j) (mh_cp σ σ.2.1.2.2 j) ∧ mh_ms (mh_cp σ σ.2.1.1 j) ∧ mh_pz (mh_cp σ σ.2.1.2.1 j) (mh_cp σ σ.2.1.2.2 j)
    rw [k1, k1, k1]
    refine ⟨(hS j hj).1.keep (fun q hq => e4 _ (hi.ne (by omega) (by omega) (by omega)) (fun i q' h1 h2 => hi.ne (by omega) (by omega) ?_)), (hS j hj).2⟩
    unfold mh_nx at hjn
    omega
theorem mh_CI.mint (hC : mh_CI h ad σ) {h' : mh_H} {j : Nat} (hj : j < 168) {f : Nat → Int32} {m : List Nat} (hc : mh_Co h' (ad (6 * j)) (ad (6 * j + 1)) f m) (hm : mh_ms m) (hf : ∀ b, b ≠ ad (6 * j) → b ≠ ad (6 * j + 1) → h' b = h b) : mh_CI h' ad (mh_setm σ j m) ∧ mh_frC ad h h' := by
  obtain ⟨hA, hS⟩ := hC.A
  have hi := hC.inj (show 1011 ≤ 1290 by omega)
  refine hC.upd 0 (by omega) (fun b hb => hf b (hb _ (Nat.zero_le _) (by show _ < 1011; omega)) (hb _ (Nat.zero_le _) (by show _ < 1011; omega))) ⟨hA.keep (hf _ (hi.ne (by omega) (by omega) (by omega)) (hi.ne (by omega) (by omega) (by omega))) (hf _ (hi.ne (by omega) (by omega) (by omega)) (hi.ne (by omega) (by omega) (by omega))) (hf _ (hi.ne (by omega) (by omega) (by omega)) (hi.ne (by omega) (by omega) (by omega))), fun i hi' => ?_⟩ (mh_cc_h rfl)
  show mh_Sl h' ad i (mh_fs σ.2.1.1 j m i) (σ.2.1.2.1 i) (σ.2.1.2.2 i) ∧ mh_ms (mh_fs σ.2.1.1 j m i) ∧ mh_pz (σ.2.1.2.1 i) (σ.2.1.2.2 i)
  unfold mh_fs
  have hk : ∀ q, q < 6 → (i ≠ j ∨ 2 ≤ q) → h' (ad (6 * i + q)) = h (ad (6 * i + q)) := fun q hq hor => hf _ (hi.ne (by omega) (by omega) (by omega)) (hi.ne (by omega) (by omega) (by omega))
  by_cases e : i = j
  · rw [if_pos e, e]
    obtain ⟨⟨f1, s1⟩, f2, g2, s2⟩ := (hS j hj).1
    subst e
    exact ⟨⟨⟨f, hc⟩, f2, g2, s2.keep (hk 2 (by omega) (Or.inr (by omega))) (hk 3 (by omega) (Or.inr (by omega))) (hk 4 (by omega) (Or.inr (by omega))) (hk 5 (by omega) (Or.inr (by omega)))⟩, hm, (hS i hj).2.2⟩
  · rw [if_neg e]
    exact ⟨(hS i hi').1.keep (fun q hq => hk q hq (Or.inl e)), (hS i hi').2⟩
theorem mh_CI.purse (hC : mh_CI h ad σ) {h' : mh_H} {j : Nat} (hj : j < 168) {f g : Nat → Int32} {c n : List Nat} (hp : mh_Pu h' (ad (6 * j + 2)) (ad (6 * j + 3)) (ad (6 * j + 4)) (ad (6 * j + 5)) f g c n) (hz : mh_pz c n) (hf : mh_fr [ad (6 * j + 2), ad (6 * j + 3), ad (6 * j + 4), ad (6 * j + 5)] h h') : mh_CI h' ad (mh_setp σ j c n) ∧ mh_frC ad h h' := by
  obtain ⟨hA, hS⟩ := hC.A
  have hi := hC.inj (show 1011 ≤ 1290 by omega)
  have hk : ∀ x, x < 1011 → (x < 6 * j + 2 ∨ 6 * j + 6 ≤ x) → h' (ad x) = h (ad x) := fun x hx hor => hf _ (by
    simp only [List.mem_cons, List.not_mem_nil, or_false, not_or]
    exact ⟨hi.ne hx (by omega) (by omega), hi.ne hx (by omega) (by omega), hi.ne hx (by omega) (by omega), hi.ne hx (by omega) (by omega)⟩)
  refine hC.upd 0 (by omega) (hf.rg (fun x hx => ?_)) ⟨hA.keep (hk _ (by omega) (by omega)) (hk _ (by omega) (by omega)) (hk _ (by omega) (by omega)), fun i hi' => ?_⟩ (mh_cc_h rfl)
  · simp only [List.mem_cons, List.not_mem_nil, or_false] at hx
    rcases hx with q | q | q | q
    · exact ⟨_, Nat.zero_le _, by show _ < 1011; omega, q⟩
    · exact ⟨_, Nat.zero_le _, by show _ < 1011; omega, q⟩
    · exact ⟨_, Nat.zero_le _, by show _ < 1011; omega, q⟩
    · exact ⟨_, Nat.zero_le _, by show _ < 1011; omega, q⟩
  · show mh_Sl h' ad i (σ.2.1.1 i) (mh_fs σ.2.1.2.1 j c i) (mh_fs σ.2.1.2.2 j n i) ∧ mh_ms (σ.2.1.1 i) ∧ mh_pz (mh_fs σ.2.1.2.1 j c i) (mh_fs σ.2.1.2.2 j n i)
    unfold mh_fs
    by_cases e : i = j
    · rw [if_pos e, if_pos e]
      subst e
      obtain ⟨⟨f1, s1⟩, f2, g2, s2⟩ := (hS i hj).1
      exact ⟨⟨⟨f1, s1.keep (hk _ (by omega) (by omega)) (hk _ (by omega) (by omega))⟩, f, g, hp⟩, (hS i hj).2.1, hz⟩
    · rw [if_neg e, if_neg e]
      exact ⟨(hS i hi').1.keep (fun q hq => hk _ (by omega) (by omega)), (hS i hi').2⟩
/-- where a value comes to stand among rising ones -/
theorem mh_pf_spec {cs : List Nat} (h : mh_ms cs) {x : Nat} (hx : x < 2 ^ 31) : (∀ j, j < mh_pf cs (nI x) → cs.getD j 0 < x) ∧ (mh_pf cs (nI x) < cs.length → x ≤ cs.getD (mh_pf cs (nI x)) 0) := by
  obtain ⟨i, h1, h2⟩ := pk_least (fun i => i = cs.length ∨ (i < cs.length ∧ x ≤ cs.getD i 0)) ⟨cs.length, Or.inl rfl⟩
  have hle : i ≤ cs.length := by omega
  have hlt : ∀ j, j < i → cs.getD j 0 < x := fun j hj => Nat.lt_of_not_le (fun q => h2 j hj (Or.inr ⟨by omega, q⟩))
  have hge : i < cs.length → x ≤ cs.getD i 0 := fun q => by
    rcases h1 with h1 | h1
    · omega
    · exact h1.2
  have e := mh_pf_is hx (fun c hc => by have := (h.1.2 c hc).2; omega) hle hlt hge
  rw [e]
  exact ⟨hlt, hge⟩
theorem mh_ins_ms {cs : List Nat} (h : mh_ms cs) {x : Nat} (h1 : 1 ≤ x) (h2 : x ≤ 300) (hl : cs.length < 12) (hn : x ∉ cs) : mh_ms (mh_ins cs x) := by
  obtain ⟨s1, s2⟩ := mh_pf_spec h (x := x) (by omega)
  have pl := mh_pf_le cs (nI x)
  refine ⟨⟨by rw [mh_ins_len]; omega, fun y hy => ?_⟩, ?_⟩
  · unfold mh_ins at hy
    rcases List.mem_append.mp hy with q | q
    · exact h.1.2 y (List.mem_of_mem_take q)
    · rcases List.mem_cons.mp q with q | q
      · rw [q]; exact ⟨h1, h2⟩
      · exact h.1.2 y (List.mem_of_mem_drop q)
  · unfold mh_ins
    refine List.pairwise_append.mpr ⟨h.2.sublist (List.take_sublist _ _), List.pairwise_cons.mpr ⟨fun y hy => ?_, h.2.sublist (List.drop_sublist _ _)⟩, fun y hy z hz => ?_⟩
    · obtain ⟨j, j1, j2⟩ := mh_mem_get hy
      rw [List.length_drop] at j1
      have e : (cs.drop (mh_pf cs (nI x))).getD j 0 = cs.getD (mh_pf cs (nI x) + j) 0 := by
        rw [List.getD_eq_getElem?_getD, List.getElem?_drop, ← List.getD_eq_getElem?_getD]
      rw [e] at j2
      have a := s2 (by omega)
      have b : cs.getD (mh_pf cs (nI x)) 0 ≤ y := by
        by_cases hj : j = 0
        · rw [← j2, hj]; exact Nat.le_refl _
        · rw [← j2]; exact Nat.le_of_lt (mh_pw_ne h.2 (by omega) (by omega))
      have c : y ≠ x := fun q => hn (q ▸ List.mem_of_mem_drop hy)
      omega
    · have hyx : y < x := by
        obtain ⟨j, j1, j2⟩ := mh_mem_get hy
        rw [List.length_take] at j1
        have e : (cs.take (mh_pf cs (nI x))).getD j 0 = cs.getD j 0 := by
          rw [List.getD_eq_getElem?_getD, List.getElem?_take_of_lt (by omega), ← List.getD_eq_getElem?_getD]
        rw [e] at j2
        rw [← j2]
        exact s1 j (by omega)
      rcases List.mem_cons.mp hz with q | q
      · omega
      · have hy2 := List.pairwise_append.mp (show (cs.take (mh_pf cs (nI x)) ++ cs.drop (mh_pf cs (nI x))).Pairwise (· < ·) by rw [List.take_append_drop]; exact h.2)
        exact hy2.2.2 y hy z q
/-! coin, melt, undo, redo -/
def mh_okC (σ : mh_Sg) (x1 x2 : Int32) (p v : Nat) : Prop := p < 8 ∧ x1 = nI p ∧ 1 ≤ v ∧ v ≤ 300 ∧ x2 = nI v ∧ (σ.2.1.1 (σ.1.1 * 8 + p)).length < 12 ∧ v ∉ σ.2.1.1 (σ.1.1 * 8 + p)
def mh_Scoin (σ : mh_Sg) (x1 x2 : Int32) (r : Int32) (σ' : mh_Sg) : Prop := (∃ p v, mh_okC σ x1 x2 p v ∧ r = nI ((σ.2.1.1 (σ.1.1 * 8 + p)).length + 1) ∧ σ' = mh_setm (mh_bg σ) (mh_nx σ * 8 + p) (mh_ins (σ.2.1.1 (σ.1.1 * 8 + p)) v)) ∨ ((∀ p v, ¬ mh_okC σ x1 x2 p v) ∧ r = -1 ∧ σ' = σ)
theorem mh_K_coin (hC : mh_CI h ad σ) (x1 x2 : Int32) : ∃ r h' σ', f_X11_coin_e (ad 1289) x1 x2 h = some (r, h') ∧ mh_Scoin σ x1 x2 r σ' ∧ mh_CI h' ad σ' ∧ mh_frC ad h h' := by
  unfold f_X11_coin_e
  rcases mh_x_isPlace (h := h) x1 with ⟨p, p1, p2, p3⟩ | ⟨p1, p3⟩
  · rw [mh_b2_eq p3, if_neg (by decide)]
    have no : (∀ v, 1 ≤ v → v ≤ 300 → x2 ≠ nI v) → ∀ q v, ¬ mh_okC σ x1 x2 q v := fun hv q v ho => hv v ho.2.2.1 ho.2.2.2.1 ho.2.2.2.2.1
    by_cases c1 : x2 < (1 : Int32)
    · rw [if_pos c1]
      refine ⟨_, h, σ, rfl, Or.inr ⟨no (fun v v1 v2 e => ?_), rfl, rfl⟩, hC, mh_frC.rfl⟩
      rw [e] at c1
      exact absurd ((mh_ltr (b := 1) 1 rfl (by omega) (by omega)).mp c1) (by omega)
    · rw [if_neg c1]
      by_cases c2 : x2 ≤ (300 : Int32)
      · rw [if_pos c2]
        have n0 : ¬ x2 < 0 := fun q => c1 (Int32.lt_trans q (by decide))
        obtain ⟨v, v1, v2⟩ := nI_of2 (M := 300) (n := 300) rfl n0 c2
        have v0 : 1 ≤ v := Nat.le_of_not_lt (fun q => c1 (by rw [v2]; exact (mh_ltr (b := 1) 1 rfl (by omega) (by omega)).mpr q))
        subst p2 v2
        obtain ⟨f, hc⟩ := mh_x_mint hC p1
        have hms := mh_x_ms hC p1
        have hn := hC.now
        rw [mh_gR_eq (k := 0) hC.ob rfl, Option.bind_some, mh_cal_eq hC.A.1.1, mh_b2_eq (mh_fx3_mint hC.A.1 p1), mh_cal_eq hc.1, mh_b2_eq (mh_fx1_isFull hc)]
        have hl := hms.1.1
        by_cases c3 : (σ.2.1.1 (σ.1.1 * 8 + p)).length = 12
        · rw [if_pos c3, if_neg (by decide)]
          refine ⟨_, h, σ, rfl, Or.inr ⟨fun q w ho => ?_, rfl, rfl⟩, hC, mh_frC.rfl⟩
          have e : q = p := ((nI_eq (by omega) (by have := ho.1; omega)).mp ho.2.1).symm
          have := ho.2.2.2.2.2.1
          rw [e] at this
          omega
        · rw [if_neg c3, if_pos rfl, mh_cal_eq hc.1, mh_b2_eq (mh_fx1_holds hc _)]
          by_cases c4 : mh_hd (σ.2.1.1 (σ.1.1 * 8 + p)) (nI v) = true
          · rw [if_pos c4, if_neg (by decide)]
            refine ⟨_, h, σ, rfl, Or.inr ⟨fun q w ho => ?_, rfl, rfl⟩, hC, mh_frC.rfl⟩
            have e : q = p := ((nI_eq (by omega) (by have := ho.1; omega)).mp ho.2.1).symm
            have e2 : w = v := ((nI_eq (by omega) (by have := ho.2.2.2.1; omega)).mp ho.2.2.2.2.1).symm
            have := ho.2.2.2.2.2.2
            rw [e, e2] at this
            exact this ((mh_hd_iff hms (by omega)).mp c4)
          · rw [if_neg c4, if_pos rfl]
            have hnm : v ∉ σ.2.1.1 (σ.1.1 * 8 + p) := fun q => c4 ((mh_hd_iff hms (by omega)).mpr q)
            obtain ⟨h1, b1, b2, b3⟩ := mh_x_begin hC
            obtain ⟨f1, hc1⟩ := mh_x_mint b2 p1
            have hn1 := b2.now
            have ecp : (mh_bg σ).2.1.1 ((mh_bg σ).1.1 * 8 + p) = σ.2.1.1 (σ.1.1 * 8 + p) := mh_cp_at p1
            rw [ecp] at hc1
            obtain ⟨h2, f2, y1, y2, y3⟩ := mh_fx1_insert hc1 hc1.ne v (by omega) (by simpa using c4)
            obtain ⟨z1, z2⟩ := b2.mint (j := (mh_bg σ).1.1 * 8 + p) (by omega) y2 (mh_ins_ms hms v0 v1 (by omega) hnm) y3
            rw [mh_gR_eq (k := 0) hC.ob rfl, Option.bind_some, mh_cal_eq hC.A.1.1, b1, Option.bind_some, mh_gR_eq (k := 0) b2.ob rfl, Option.bind_some, mh_cal_eq b2.A.1.1, mh_b2_eq (mh_fx3_mint b2.A.1 p1), mh_cal_eq hc1.1, mh_b2_eq y1, mh_cal_eq y2.1, mh_b2_eq (mh_fx1_count y2), mh_ins_len]
            exact ⟨_, h2, _, rfl, Or.inl ⟨p, v, ⟨p1, rfl, v0, v1, rfl, by omega, hnm⟩, rfl, rfl⟩, z1, b3.trans z2⟩
      · rw [if_neg c2]
        refine ⟨_, h, σ, rfl, Or.inr ⟨no (fun v v1 v2 e => ?_), rfl, rfl⟩, hC, mh_frC.rfl⟩
        rw [e] at c2
        exact c2 ((mh_ler (b := 300) 300 rfl (by omega) (by omega)).mpr v2)
  · rw [mh_b2_eq p3, if_pos rfl]
    exact ⟨_, h, σ, rfl, Or.inr ⟨fun q w ho => p1 q ho.1 ho.2.1, rfl, rfl⟩, hC, mh_frC.rfl⟩
def mh_Smelt (σ : mh_Sg) (x1 x2 : Int32) (r : Int32) (σ' : mh_Sg) : Prop := (∃ p i, p < 8 ∧ x1 = nI p ∧ i < (σ.2.1.1 (σ.1.1 * 8 + p)).length ∧ x2 = nI ((σ.2.1.1 (σ.1.1 * 8 + p)).getD i 0) ∧ r = 1 ∧ σ' = mh_setm (mh_bg σ) (mh_nx σ * 8 + p) ((σ.2.1.1 (σ.1.1 * 8 + p)).eraseIdx i)) ∨ ((∀ p i, p < 8 → x1 = nI p → i < (σ.2.1.1 (σ.1.1 * 8 + p)).length → x2 ≠ nI ((σ.2.1.1 (σ.1.1 * 8 + p)).getD i 0)) ∧ r = 0 ∧ σ' = σ)
theorem mh_hd_ex {cs : List Nat} (h : mh_ms cs) (x : Int32) : mh_hd cs x = true ↔ ∃ i, i < cs.length ∧ x = nI (cs.getD i 0) := by
  constructor
  · intro q
    exact ⟨_, mh_hd_pf q, (mh_hd_val q).symm⟩
  · intro ⟨i, i1, i2⟩
    rw [i2]
    exact (mh_hd_iff h (by have := h.1.le i; omega)).mpr (mh_get_mem i1)
theorem mh_K_melt (hC : mh_CI h ad σ) (x1 x2 : Int32) : ∃ r h' σ', f_X11_melt_e (ad 1289) x1 x2 h = some (r, h') ∧ mh_Smelt σ x1 x2 r σ' ∧ mh_CI h' ad σ' ∧ mh_frC ad h h' := by
  unfold f_X11_melt_e
  rcases mh_x_isPlace (h := h) x1 with ⟨p, p1, p2, p3⟩ | ⟨p1, p3⟩
  · subst p2
    obtain ⟨f, hc⟩ := mh_x_mint hC p1
    have hms := mh_x_ms hC p1
    have hn := hC.now
    rw [mh_b2_eq p3, if_neg (by decide), mh_gR_eq (k := 0) hC.ob rfl, Option.bind_some, mh_cal_eq hC.A.1.1, mh_b2_eq (mh_fx3_mint hC.A.1 p1), mh_cal_eq hc.1, mh_b2_eq (mh_fx1_holds hc _)]
    by_cases c4 : mh_hd (σ.2.1.1 (σ.1.1 * 8 + p)) x2 = true
    · rw [if_pos c4, if_neg (by decide)]
      have hi := mh_hd_pf c4
      have hv := (mh_hd_val c4).symm
      obtain ⟨h1, b1, b2, b3⟩ := mh_x_begin hC
      obtain ⟨f1, hc1⟩ := mh_x_mint b2 p1
      have hn1 := b2.now
      have ecp : (mh_bg σ).2.1.1 ((mh_bg σ).1.1 * 8 + p) = σ.2.1.1 (σ.1.1 * 8 + p) := mh_cp_at p1
      rw [ecp] at hc1
      obtain ⟨h2, f2, y1, y2, y3⟩ := mh_fx1_remove hc1 hc1.ne x2 c4
      obtain ⟨z1, z2⟩ := b2.mint (j := (mh_bg σ).1.1 * 8 + p) (by omega) y2 (mh_ms_sub hms (List.eraseIdx_sublist _ _)) y3
      rw [mh_gR_eq (k := 0) hC.ob rfl, Option.bind_some, mh_cal_eq hC.A.1.1, b1, Option.bind_some, mh_gR_eq (k := 0) b2.ob rfl, Option.bind_some, mh_cal_eq b2.A.1.1, mh_b2_eq (mh_fx3_mint b2.A.1 p1), mh_cal_eq hc1.1, y1, Option.bind_some]
      exact ⟨1, h2, _, rfl, Or.inl ⟨p, _, p1, rfl, hi, hv, rfl, rfl⟩, z1, b3.trans z2⟩
    · rw [if_neg c4, if_pos rfl]
      refine ⟨0, h, σ, rfl, Or.inr ⟨fun q i q1 q2 q3 q4 => ?_, rfl, rfl⟩, hC, mh_frC.rfl⟩
      have e : q = p := ((nI_eq (by omega) (by omega)).mp q2).symm
      subst e
      exact c4 ((mh_hd_ex hms x2).mpr ⟨i, q3, q4⟩)
  · rw [mh_b2_eq p3, if_pos rfl]
    exact ⟨0, h, σ, rfl, Or.inr ⟨fun q i q1 q2 => absurd q2 (p1 q q1), rfl, rfl⟩, hC, mh_frC.rfl⟩
def mh_Sundo (σ : mh_Sg) : Int32 × mh_Sg := if σ.1.2.1 = 0 then (0, σ) else (1, (((σ.1.1 + 20) % 21, σ.1.2.1 - 1, σ.1.2.2 + 1), σ.2))
def mh_Sredo (σ : mh_Sg) : Int32 × mh_Sg := if σ.1.2.2 = 0 then (0, σ) else (1, (((σ.1.1 + 1) % 21, σ.1.2.1 + 1, σ.1.2.2 - 1), σ.2))
def mh_St20 (σ : mh_Sg) : Prop := σ.1.2.1 + σ.1.2.2 ≤ 20
theorem mh_K_undo (hC : mh_CI h ad σ) (h20 : mh_St20 σ) : ∃ h', f_X11_undo_e (ad 1289) h = some ((mh_Sundo σ).1, h') ∧ mh_CI h' ad (mh_Sundo σ).2 ∧ mh_frC ad h h' := by
  unfold f_X11_undo_e mh_Sundo
  rw [mh_gR_eq (k := 0) hC.ob rfl, Option.bind_some, mh_cal_eq hC.A.1.1]
  obtain ⟨hA, hS⟩ := hC.A
  have hi := hC.inj (show 1011 ≤ 1290 by omega)
  unfold mh_St20 at h20
  by_cases hb : σ.1.2.1 = 0
  · rw [if_pos hb]
    rw [hb] at hA
    rw [mh_b2_eq (mh_fx3_back0 hA)]
    exact ⟨h, rfl, hC, mh_frC.rfl⟩
  · rw [if_neg hb]
    have hA0 := hA
    rw [show σ.1.2.1 = (σ.1.2.1 - 1) + 1 by omega] at hA
    rw [mh_b2_eq (mh_fx3_back hA)]
    have hn := hC.now
    obtain ⟨z1, z2⟩ := hC.upd (σ' := (((σ.1.1 + 20) % 21, σ.1.2.1 - 1, σ.1.2.2 + 1), σ.2)) 0 (by omega) (h' := mh_up h (ad 1008) (mh_Hs (ad 1009) (ad 1010) ((σ.1.1 + 20) % 21) (σ.1.2.1 - 1) (σ.1.2.2 + 1))) (fun b hb => mh_up_ne (hb 1008 (Nat.zero_le _) (by show 1008 < 1011; omega))) ⟨hA.turn (hi.ne (by omega) (by omega) (by omega)) (hi.ne (by omega) (by omega) (by omega)) (Nat.mod_lt _ (by omega)) (by show σ.1.2.1 - 1 ≤ 20; omega) (by show σ.1.2.2 + 1 ≤ 20; omega), fun j hj => ⟨(hS j hj).1.keep (fun q hq => mh_up_ne (hi.ne (by omega) (by omega) (by omega))), (hS j hj).2⟩⟩ (mh_cc_h rfl)
    exact ⟨_, rfl, z1, z2⟩
theorem mh_K_redo (hC : mh_CI h ad σ) (h20 : mh_St20 σ) : ∃ h', f_X11_redo_e (ad 1289) h = some ((mh_Sredo σ).1, h') ∧ mh_CI h' ad (mh_Sredo σ).2 ∧ mh_frC ad h h' := by
  unfold f_X11_redo_e mh_Sredo
  rw [mh_gR_eq (k := 0) hC.ob rfl, Option.bind_some, mh_cal_eq hC.A.1.1]
  obtain ⟨hA, hS⟩ := hC.A
  have hi := hC.inj (show 1011 ≤ 1290 by omega)
  unfold mh_St20 at h20
  by_cases hb : σ.1.2.2 = 0
  · rw [if_pos hb]
    rw [hb] at hA
    rw [mh_b2_eq (mh_fx3_forth0 hA)]
    exact ⟨h, rfl, hC, mh_frC.rfl⟩
  · rw [if_neg hb]
    rw [show σ.1.2.2 = (σ.1.2.2 - 1) + 1 by omega] at hA
    rw [mh_b2_eq (mh_fx3_forth hA)]
    have hn := hC.now
    obtain ⟨z1, z2⟩ := hC.upd (σ' := (((σ.1.1 + 1) % 21, σ.1.2.1 + 1, σ.1.2.2 - 1), σ.2)) 0 (by omega) (h' := mh_up h (ad 1008) (mh_Hs (ad 1009) (ad 1010) ((σ.1.1 + 1) % 21) (σ.1.2.1 + 1) (σ.1.2.2 - 1))) (fun b hb => mh_up_ne (hb 1008 (Nat.zero_le _) (by show 1008 < 1011; omega))) ⟨hA.turn (hi.ne (by omega) (by omega) (by omega)) (hi.ne (by omega) (by omega) (by omega)) (Nat.mod_lt _ (by omega)) (by show σ.1.2.1 + 1 ≤ 20; omega) (by show σ.1.2.2 - 1 ≤ 20; omega), fun j hj => ⟨(hS j hj).1.keep (fun q hq => mh_up_ne (hi.ne (by omega) (by omega) (by omega))), (hS j hj).2⟩⟩ (mh_cc_h rfl)
    exact ⟨_, rfl, z1, z2⟩
end MhState
