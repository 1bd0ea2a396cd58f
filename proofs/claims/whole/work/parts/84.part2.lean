theorem mh_maxI {x y : Nat} (hx : x < 2 ^ 31) (hy : y < 2 ^ 31) : (if nI x < nI y then nI y else nI x) = nI (max x y) := by
  by_cases c : x < y
  · rw [if_pos ((nI_ltI hx hy).mpr c), Nat.max_eq_right (by omega)]
  · rw [if_neg (fun q => c ((nI_ltI hx hy).mp q)), Nat.max_eq_left (by omega)]
theorem mh_w_lt {m : Nat} {cs : List Nat} {w : Nat → Nat} (hE : mh_Ex m cs (fun x => x) w) (h0 : 0 < m) (hm : m ≤ 300) (hb : ∀ x, x ∈ cs → x ≤ 300) {r : Nat} (hr : r < m) : w r < 2 ^ 31 := by
  have hI : mh_INF = 2147483647 := rfl
  by_cases c : w r = mh_INF
  · omega
  · have := mh_ls_b hE h0 hm hb hr c
    omega
section MhPartB
variable {h : mh_H} {ad : Nat → Nat} {σ : mh_Sg}
theorem mh_x_pays (hC : mh_CI h ad σ) {a b : Nat} (ha : a < 8) (hb : b < 8) (ne1 : mh_mi σ a ≠ []) (ne2 : mh_mi σ b ≠ []) {f : Nat → Int32} {L : List Nat} (hc : mh_Co h (ad 1029) (ad 1030) f L) (hL : mh_ms L) (hb2 : ∀ x, x ∈ L → mh_both (mh_mi σ a) (mh_mi σ b) x) : ∃ r h', f_X11_pickedPayCommon_e (ad 1289) (ad (6 * (σ.1.1 * 8 + a))) (ad (6 * (σ.1.1 * 8 + b))) h = some (r, h') ∧ mh_bp r (∀ s, mh_both (mh_mi σ a) (mh_mi σ b) s → mh_py L s) ∧ mh_CI h' ad σ ∧ mh_frC ad h h' ∧ mh_Co h' (ad 1029) (ad 1030) f L := by
  have ms1 : mh_ms (mh_mi σ a) := mh_x_ms hC ha
  have ms2 : mh_ms (mh_mi σ b) := mh_x_ms hC hb
  have g1 : 1 ≤ (mh_mi σ a).getD 0 0 ∧ (mh_mi σ a).getD 0 0 ≤ 300 := ms1.1.get (List.length_pos_iff.mpr ne1)
  have g2 : 1 ≤ (mh_mi σ b).getD 0 0 ∧ (mh_mi σ b).getD 0 0 ≤ 300 := ms2.1.get (List.length_pos_iff.mpr ne2)
  unfold f_X11_pickedPayCommon_e
  rw [mh_gR_eq (k := 5) hC.ob rfl, Option.bind_some, mh_cal_eq hC.needs, mh_b2_eq (mh_fx5_picked hC.needs), mh_cal_eq hc.1, mh_b2_eq (mh_fx1_least hc)]
  by_cases hne : L = []
  · rw [if_pos (by rw [hne]; rfl)]
    refine ⟨_, h, rfl, mh_bp0 (fun q => ?_), hC, mh_frC.rfl, hc⟩
    have hb3 : mh_both (mh_mi σ a) (mh_mi σ b) ((mh_mi σ b).getD 0 0 * (mh_mi σ a).getD 0 0) := ⟨mh_py_mul (mh_py_least ne1) _, by rw [Nat.mul_comm]; exact mh_py_mul (mh_py_least ne2) _⟩
    have := q _ hb3
    rw [hne] at this
    have := mh_py_nil.mp this
    have := Nat.mul_pos (show 0 < (mh_mi σ b).getD 0 0 by omega) (show 0 < (mh_mi σ a).getD 0 0 by omega)
    omega
  · have g3 : 1 ≤ L.getD 0 0 ∧ L.getD 0 0 ≤ 300 := hL.1.get (List.length_pos_iff.mpr hne)
    rw [if_neg (fun q => absurd ((mh_eqr (b := 0) 0 rfl (by omega) (by omega)).mp q) (by omega))]
    have I := hC.1
    obtain ⟨fa, ca⟩ := mh_x_mint hC ha
    have ca : mh_Co h (ad (6 * (σ.1.1 * 8 + a))) (ad (6 * (σ.1.1 * 8 + a) + 1)) fa (mh_mi σ a) := ca
    obtain ⟨h1, f1, w1, t1, t2, t3, t4, t5, t6⟩ := mh_x_lsT hC mh_lsB2 ca ms1.1 g3.1 g3.2
    obtain ⟨fb, cb⟩ := mh_x_mint t4 hb
    have cb : mh_Co h1 (ad (6 * (σ.1.1 * 8 + b))) (ad (6 * (σ.1.1 * 8 + b) + 1)) fb (mh_mi σ b) := cb
    obtain ⟨h2, f2, w2, u1, u2, u3, u4, u5, u6⟩ := mh_x_lsT t4 mh_lsB3 cb ms2.1 g3.1 g3.2
    have hc2 : mh_Co h2 (ad 1029) (ad 1030) f L := (hc.keep (mh_lsk I (by omega) t6 (by omega) (by omega) (by omega)) (mh_lsk I (by omega) t6 (by omega) (by omega) (by omega))).keep (mh_lsk I (by omega) u6 (by omega) (by omega) (by omega)) (mh_lsk I (by omega) u6 (by omega) (by omega) (by omega))
    obtain ⟨h3, f3, w3, v1, v2, v3, v4, v5, v6⟩ := mh_x_lsT u4 mh_lsB4 hc2 hL.1 g3.1 g3.2
    have hc3 : mh_Co h3 (ad 1029) (ad 1030) f L := hc2.keep (mh_lsk I (by omega) v6 (by omega) (by omega) (by omega)) (mh_lsk I (by omega) v6 (by omega) (by omega) (by omega))
    have L2 : mh_LS h3 (ad 1020) (ad 1021) (ad 1022) (L.getD 0 0) f2 w2 := u2.keepE (mh_lsk I (by omega) v6 (by omega) (by omega) (by omega)) (mh_lsk I (by omega) v6 (by omega) (by omega) (by omega)) (mh_lsk I (by omega) v6 (by omega) (by omega) (by omega))
    have L1 : mh_LS h3 (ad 1017) (ad 1018) (ad 1019) (L.getD 0 0) f1 w1 := (t2.keepE (mh_lsk I (by omega) u6 (by omega) (by omega) (by omega)) (mh_lsk I (by omega) u6 (by omega) (by omega) (by omega)) (mh_lsk I (by omega) u6 (by omega) (by omega) (by omega))).keepE (mh_lsk I (by omega) v6 (by omega) (by omega) (by omega)) (mh_lsk I (by omega) v6 (by omega) (by omega) (by omega)) (mh_lsk I (by omega) v6 (by omega) (by omega) (by omega))
    rw [mh_gR_eq (k := 2) hC.ob rfl, Option.bind_some, mh_cal_eq (hC.lso mh_lsB2), t1, Option.bind_some, mh_gR_eq (k := 3) t4.ob rfl, Option.bind_some, mh_cal_eq (t4.lso mh_lsB3), u1, Option.bind_some, mh_gR_eq (k := 4) u4.ob rfl, Option.bind_some, mh_cal_eq (u4.lso mh_lsB4), v1, Option.bind_some, mh_nm_eq]
    have hbb : ∀ {cs : List Nat}, mh_ms cs → ∀ x, x ∈ cs → x ≤ 300 := fun hm x hx => (hm.1.2 x hx).2
    have hcom := mh_common t3 u3 v3 g3.1 g3.2 (hbb ms1) (hbb ms2) hb2 (mh_py_least hne)
    have key := mh_wh (fun n (i : Nat) => f_X11_pickedPayCommon_b54 n (ad 1289) (nI (L.getD 0 0)) (nI i) h3) (fun (r : Int32) => some (r, h3)) (fun i => i ≤ L.getD 0 0 ∧ ∀ r, r < i → w3 r = max (w1 r) (w2 r)) (fun i => L.getD 0 0 - i) (fun r => mh_bp r (∀ r, r < L.getD 0 0 → w3 r = max (w1 r) (w2 r)))
      (fun n i hi => by
        obtain ⟨q1, q2⟩ := hi
        have q1 : i ≤ L.getD 0 0 := q1
        show (∃ s', _ ∧ _ ∧ f_X11_pickedPayCommon_b54 (n + 1) (ad 1289) (nI (L.getD 0 0)) (nI i) h3 = _) ∨ ∃ r, _ ∧ f_X11_pickedPayCommon_b54 (n + 1) (ad 1289) (nI (L.getD 0 0)) (nI i) h3 = _
        by_cases hlt : i < L.getD 0 0
        · have l1 := mh_w_lt t3 g3.1 g3.2 (hbb ms1) hlt
          have l2 := mh_w_lt u3 g3.1 g3.2 (hbb ms2) hlt
          have l3 := mh_w_lt v3 g3.1 g3.2 (hbb hL) hlt
          rw [f_X11_pickedPayCommon_b54, if_neg (fun q => absurd ((nI_leI (by omega) (by omega)).mp q) (by omega)), mh_gR_eq (k := 4) v4.ob rfl, Option.bind_some, mh_cal_eq v2.1, mh_b2_eq (mh_fx4_least v2 hlt), mh_gR_eq (k := 2) v4.ob rfl, Option.bind_some, mh_cal_eq L1.1, mh_b2_eq (mh_fx4_least L1 hlt), mh_gR_eq (k := 3) v4.ob rfl, Option.bind_some, mh_cal_eq L2.1, mh_b2_eq (mh_fx4_least L2 hlt), mh_maxI l1 l2]
          by_cases hq : w3 i = max (w1 i) (w2 i)
          · left
            refine ⟨i + 1, ⟨hlt, fun r hr => ?_⟩, by omega, ?_⟩
            · by_cases e : r = i
              · rw [e]; exact hq
              · exact q2 r (by omega)
            · rw [if_pos (by rw [hq]), mh_nm_eq, mh_inc]
          · right
            exact ⟨0, mh_bp0 (fun q => hq (q i hlt)), by rw [if_neg (fun q => hq ((nI_eq l3 (by omega)).mp q))]; rfl⟩
        · right
          have e : i = L.getD 0 0 := by omega
          refine ⟨1, mh_bp1 (fun r hr => q2 r (by omega)), ?_⟩
          rw [f_X11_pickedPayCommon_b54, if_pos ((nI_leI (by omega) (by omega)).mpr (by omega))]
          rfl)
      300 mh_fu 0 (by omega) ⟨Nat.zero_le _, fun r hr => absurd hr (Nat.not_lt_zero r)⟩ (mh_fuel _ (by omega))
    obtain ⟨r, z1, z2⟩ := key
    exact ⟨r, h3, z2, z1.iff hcom, v4, t5.trans (u5.trans v5), hc3⟩
theorem mh_K_part (hC : mh_CI h ad σ) (x1 x2 x3 : Int32) : ∃ r h' σ', f_X11_part_e (ad 1289) x1 x2 x3 h = some (r, h') ∧ mh_Spart σ x1 x2 x3 r σ' ∧ mh_CI h' ad σ' ∧ mh_frC ad h h' := by
  unfold f_X11_part_e
  rw [mh_cal_eq hC.ob]
  rcases mh_place x1 with ⟨a, a1, a2⟩ | hx
  · rcases mh_place x2 with ⟨b, b1, b2⟩ | hy
    · rcases mh_place x3 with ⟨p, p1, p2⟩ | hz
      · subst a2 b2 p2
        obtain ⟨h1, c1, c2, c3, c4⟩ := mh_x_clear hC
        obtain ⟨fa, ca⟩ := mh_x_mint c3 a1
        obtain ⟨fb, cb⟩ := mh_x_mint c3 b1
        have ca : mh_Co h1 (ad (6 * (σ.1.1 * 8 + a))) (ad (6 * (σ.1.1 * 8 + a) + 1)) fa (mh_mi σ a) := ca
        have cb : mh_Co h1 (ad (6 * (σ.1.1 * 8 + b))) (ad (6 * (σ.1.1 * 8 + b) + 1)) fb (mh_mi σ b) := cb
        have ms1 : mh_ms (mh_mi σ a) := mh_x_ms hC a1
        have ms2 : mh_ms (mh_mi σ b) := mh_x_ms hC b1
        have l1 := ms1.1.1
        have l2 := ms2.1.1
        have emp : (mh_mi σ a = [] ∨ mh_mi σ b = []) → ∃ r h' σ', f_X11_part_b43 (ad 1289) (nI p) h1 = some (r, h') ∧ mh_Sbec σ p (mh_okp (mh_both (mh_mi σ a) (mh_mi σ b))) (mh_pk (mh_both (mh_mi σ a) (mh_mi σ b)) 300) r σ' ∧ mh_CI h' ad σ' ∧ mh_frC ad h h' := fun he => by
          have z0 : ∀ s, mh_both (mh_mi σ a) (mh_mi σ b) s → s = 0 := fun s q => by
            rcases he with e | e
            · have q1 := q.1
              rw [e] at q1
              exact mh_py_nil.mp q1
            · have q1 := q.2
              rw [e] at q1
              exact mh_py_nil.mp q1
          have ep : mh_pk (fun _ => False) 300 = mh_pk (mh_both (mh_mi σ a) (mh_mi σ b)) 300 := mh_pk_congr 300 (fun x x1 x2 => ⟨False.elim, fun q => by have := z0 x q; omega⟩)
          have e0 : mh_pk (mh_both (mh_mi σ a) (mh_mi σ b)) 300 = [] := by
            cases hq : mh_pk (mh_both (mh_mi σ a) (mh_mi σ b)) 300 with
            | nil => rfl
            | cons x l =>
              have := mh_pk_in (off := mh_both (mh_mi σ a) (mh_mi σ b)) 300 x (by rw [hq]; exact List.mem_cons_self)
              have := z0 x this.2.2
              omega
          obtain ⟨r, h4, k1, k2, k3, k4, k5⟩ := mh_x_pick c3 c2
          rw [ep] at k2
          rcases k2 with ⟨d1, d2, f, d3⟩ | ⟨d1, d2⟩
          · obtain ⟨h5, y1, y2, y3⟩ := mh_x_become k3 p1 d3 (mh_pk_ms d2) k5
            unfold f_X11_part_b43
            rw [mh_gR_eq (k := 5) c3.ob rfl, Option.bind_some, mh_cal_eq c3.needs, mh_b2_eq k1, mh_cal_eq k3.ob, mh_b2_eq y1]
            exact ⟨_, h5, _, rfl, Or.inl ⟨⟨d2, fun s q => by rw [z0 s q]; exact mh_py0 _⟩, rfl, rfl⟩, y2, c4.trans (k4.trans y3)⟩
          · rw [e0] at d2
            exact absurd d2 (by decide)
        rw [mh_bx_r (mh_x_mintAt hC a1), mh_cal_eq hC.ob, mh_bx_r (mh_x_mintAt hC b1), mh_cal_eq hC.ob, mh_bx_r (mh_x_mintAt hC p1), mh_gR_eq (k := 5) hC.ob rfl, Option.bind_some, mh_cal_eq hC.needs, c1, Option.bind_some, mh_cal_eq ca.1, mh_b2_eq (mh_fx1_count ca)]
        by_cases e1 : mh_mi σ a = []
        · obtain ⟨r, h', σ', y1, y2, y3, y4⟩ := emp (Or.inl e1)
          rw [if_pos (by rw [e1]; rfl)]
          exact ⟨r, h', σ', y1, Or.inl ⟨a, b, p, a1, b1, p1, rfl, rfl, rfl, y2⟩, y3, y4⟩
        · have := List.length_pos_iff.mpr e1
          rw [if_neg (fun q => absurd ((mh_eqr (b := 0) 0 rfl (by omega) (by omega)).mp q) (by omega)), mh_cal_eq cb.1, mh_b2_eq (mh_fx1_count cb)]
          by_cases e2 : mh_mi σ b = []
          · obtain ⟨r, h', σ', y1, y2, y3, y4⟩ := emp (Or.inr e2)
            rw [if_pos (by rw [e2]; rfl)]
            exact ⟨r, h', σ', y1, Or.inl ⟨a, b, p, a1, b1, p1, rfl, rfl, rfl, y2⟩, y3, y4⟩
          · have := List.length_pos_iff.mpr e2
            obtain ⟨h2, g1, g2, g3, g4⟩ := mh_x_offerCommon c3 c2 a1 b1 e1 e2
            obtain ⟨r, h4, k1, k2, k3, k4, k5⟩ := mh_x_pick g2 g4
            rw [mh_pk_of1] at k2
            rw [if_neg (fun q => absurd ((mh_eqr (b := 0) 0 rfl (by omega) (by omega)).mp q) (by omega)), mh_cal_eq c3.ob, g1, Option.bind_some, mh_gR_eq (k := 5) g2.ob rfl, Option.bind_some, mh_cal_eq g2.needs, mh_b2_eq k1]
            rcases k2 with ⟨d1, d2, f, d3⟩ | ⟨d1, d2⟩
            · obtain ⟨z, h5, y1, y2, y3, y4, y5⟩ := mh_x_pays k3 a1 b1 e1 e2 d3 (mh_pk_ms d2) (fun x hx => (mh_pk_in 300 x hx).2.2)
              rw [d1, if_neg (by decide), mh_cal_eq k3.ob, mh_b2_eq y1]
              rcases y2 with ⟨v1, v2⟩ | ⟨v1, v2⟩
              · obtain ⟨h6, u1, u2, u3⟩ := mh_x_become y3 p1 y5 (mh_pk_ms d2) y3.needs
                rw [v2, if_neg (by decide), mh_cal_eq y3.ob, mh_b2_eq u1]
                exact ⟨_, h6, _, rfl, Or.inl ⟨a, b, p, a1, b1, p1, rfl, rfl, rfl, Or.inl ⟨⟨d2, v1⟩, rfl, rfl⟩⟩, u2, c4.trans (g3.trans (k4.trans (y4.trans u3)))⟩
              · rw [v2, if_pos rfl]
                exact ⟨_, h5, σ, rfl, Or.inl ⟨a, b, p, a1, b1, p1, rfl, rfl, rfl, Or.inr ⟨fun q => v1 q.2, rfl, rfl⟩⟩, y3, c4.trans (g3.trans (k4.trans y4))⟩
            · rw [d1, if_pos rfl]
              exact ⟨_, h4, σ, rfl, Or.inl ⟨a, b, p, a1, b1, p1, rfl, rfl, rfl, Or.inr ⟨fun q => by have := q.1; omega, rfl, rfl⟩⟩, k3, c4.trans (g3.trans k4)⟩
      · subst a2 b2
        rw [mh_bx_r (mh_x_mintAt hC a1), mh_cal_eq hC.ob, mh_bx_r (mh_x_mintAt hC b1), mh_cal_eq hC.ob, mh_bx_l (mh_x_mintNo hz)]
        exact ⟨_, h, σ, rfl, Or.inr ⟨fun _ _ p _ _ hp q => hz p hp q.2.2, rfl, rfl⟩, hC, mh_frC.rfl⟩
    · subst a2
      rw [mh_bx_r (mh_x_mintAt hC a1), mh_cal_eq hC.ob, mh_bx_l (mh_x_mintNo hy)]
      exact ⟨_, h, σ, rfl, Or.inr ⟨fun _ b _ _ hb _ q => hy b hb q.2.1, rfl, rfl⟩, hC, mh_frC.rfl⟩
  · rw [mh_bx_l (mh_x_mintNo hx)]
    exact ⟨_, h, σ, rfl, Or.inr ⟨fun a _ _ ha _ _ q => hx a ha q.1, rfl, rfl⟩, hC, mh_frC.rfl⟩
end MhPartB
