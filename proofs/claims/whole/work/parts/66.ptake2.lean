def mh_PT (h : mh_H) (o pu ap vp tp kv : Nat) (cs ns : List Nat) : Prop :=
  ∃ (f g : Nat → Int32) (fk : Nat → Int64), h o = some (.inr (8, [.ref pu, .ref kv, .int (nI (mh_dot cs ns))])) ∧ mh_Pu h pu ap vp tp f g cs ns ∧ h kv = some (.inl (1, 20001, .inr (.inl fk))) ∧ mh_pz cs ns ∧ ∀ s, s ≤ mh_dot cs ns → mh_Tk (mh_Pk cs ns cs.length) s (fk s)
theorem mh_dot_take {cs ns : List Nat} {i : Nat} (hi : i < cs.length) (hn : ns.length = cs.length) : mh_dot (cs.take (i + 1)) (ns.take (i + 1)) = mh_dot (cs.take i) (ns.take i) + ns.getD i 0 * cs.getD i 0 := by
  rw [mh_take_s hi, mh_take_s (show i < ns.length by omega), mh_dot_app _ _ _ _ (by rw [List.length_take, List.length_take]; omega), Nat.mul_comm]
theorem mh_Sv_dot {cs ns : List Nat} (hn : ns.length = cs.length) : ∀ (i : Nat) (ks : List Nat), i ≤ cs.length → mh_Sv ns i ks → mh_dot (cs.take i) ks ≤ mh_dot (cs.take i) (ns.take i) := by
  intro i
  induction i with
  | zero =>
    intro ks _ h
    rw [List.eq_nil_of_length_eq_zero h.1]
    exact Nat.le_refl _
  | succ i ih =>
    intro ks hi h
    obtain ⟨k, l, e, h1, h2⟩ := mh_Sv_inv h
    subst e
    rw [mh_dot_take (by omega) hn, mh_take_s (by omega), mh_dot_app _ _ _ _ (by rw [List.length_take, h1.1]; omega)]
    have a := ih l (by omega) h1
    have b := Nat.mul_le_mul_left (cs.getD i 0) h2
    rw [Nat.mul_comm (ns.getD i 0)]
    omega
theorem mh_dot_mono {cs ns : List Nat} (hn : ns.length = cs.length) : ∀ (d i : Nat), i + d = cs.length → mh_dot (cs.take i) (ns.take i) ≤ mh_dot cs ns := by
  intro d
  induction d with
  | zero =>
    intro i h
    rw [Nat.add_zero] at h
    rw [h, List.take_length, ← hn, List.take_length]
    exact Nat.le_refl _
  | succ d ih =>
    intro i h
    have := ih (i + 1) (by omega)
    rw [mh_dot_take (by omega) hn] at this
    omega
theorem mh_fx8_take {h : mh_H} {o pu ap vp tp kv o1 a1 v1 t1 : Nat} {cs ns c1 n1 : List Nat} {f1 g1 : Nat → Int32} (hP : mh_PT h o pu ap vp tp kv cs ns) (hq : mh_Pu h o1 a1 v1 t1 f1 g1 c1 n1) (hz : mh_pz c1 n1) (d1 : a1 ≠ ap) (d2 : v1 ≠ vp) (d3 : v1 ≠ tp) (d4 : t1 ≠ vp) (d5 : t1 ≠ tp) (d6 : vp ≠ tp) (d7 : o1 ≠ pu) :
    ∃ h', f_X8_take_e o o1 h = some h' ∧ mh_PT h' o pu ap vp tp kv c1 n1 ∧ mh_fr [o, ap, vp, tp, kv] h h' := by
  have hP0 := hP
  obtain ⟨f, g, fk, r1, r2, r3, r4, r5⟩ := hP
  have hal := mh_fx7_alike r2 hq (fun i => by have := r4.2.2.1 i; omega) (fun i => by have := hz.2.2.1 i; omega) (fun i => by have := r4.1.1.le i; omega) (fun i => by have := hz.1.1.le i; omega)
  unfold f_X8_take_e
  rw [mh_gR_eq (k := 0) r1 rfl, Option.bind_some, mh_cal_eq r2.1, mh_b2_eq hal]
  by_cases he : cs = c1 ∧ ns = n1
  · rw [if_pos he, if_neg (by decide)]
    obtain ⟨e1, e2⟩ := he
    subst e1 e2
    exact ⟨h, rfl, hP0, mh_fr.rfl⟩
  · rw [if_neg he, if_pos rfl]
    have hl := hz.1.1.1
    obtain ⟨h2, f2, g2, y1, y2, y3⟩ := mh_fx7_copy r2 hq r2.2.1.ne (mh_apt hq.2.1.1 r2.2.1.2.1 (fun q => by cases q)) d2 d1 (mh_apt hq.2.1.2.1 r2.2.1.1 (fun q => by cases q)) (mh_apt r2.1 r2.2.1.1 (fun q => by cases q)) (mh_apt r2.1 r2.2.1.2.1 (fun q => by cases q)) (mh_apt r2.2.2.1 r2.2.1.1 (fun q => by cases q)) d6.symm (mh_apt r2.1 r2.2.2.1 (fun q => by cases q)) (mh_apt hq.1 r2.2.1.1 (fun q => by cases q)) (mh_apt hq.1 r2.2.1.2.1 (fun q => by cases q)) (mh_apt hq.1 r2.2.2.1 (fun q => by cases q)) (mh_apt hq.2.1.1 r2.2.2.1 (fun q => by cases q)) d3 (mh_apt hq.2.2.1 r2.2.1.1 (fun q => by cases q)) d4 d5
    have n1' : o ≠ kv := mh_apt r1 r3 (fun q => by cases q)
    have w1 : h2 o = some (.inr (8, [.ref pu, .ref kv, .int (nI (mh_dot cs ns))])) := (y3 o (mh_apt r1 r2.2.1.1 (fun q => by cases q)) (mh_apt r1 r2.2.1.2.1 (fun q => by cases q)) (mh_apt r1 r2.2.2.1 (fun q => by cases q))).trans r1
    have w3 : h2 kv = some (.inl (1, 20001, .inr (.inl fk))) := (y3 kv (mh_apt r3 r2.2.1.1 (fun q => by cases q)) (mh_apt r3 r2.2.1.2.1 (fun q => by cases q)) (mh_apt r3 r2.2.2.1 (fun q => by cases q))).trans r3
    rw [mh_gR_eq (k := 0) r1 rfl, Option.bind_some, mh_cal_eq r2.1, y1, Option.bind_some, mh_gR_eq (k := 1) w1 rfl, Option.bind_some]
    obtain ⟨f3, x1, x2⟩ := mh_lp_fillJ (9223372036854775807 : Int64) (N := 20001) (by omega) w3
    have v1 : (mh_up h2 kv (.inl (1, 20001, .inr (.inl f3)))) o = some (.inr (8, [.ref pu, .ref kv, .int (nI (mh_dot cs ns))])) := by rw [mh_up_ne n1']; exact w1
    have e0 := mh_sJ_eq (v := (0 : Int64)) (mh_up_eq h2 kv (.inl (1, 20001, .inr (.inl f3)))) (j := 0) (by omega) (by omega)
    rw [nI_0] at e0
    rw [x1, Option.bind_some, mh_gR_eq (k := 1) v1 rfl, Option.bind_some, e0, Option.bind_some, mh_up_up]
    have v2 : (mh_up h2 kv (.inl (1, 20001, .inr (.inl (vp_updL f3 0 0))))) o = some (.inr (8, [.ref pu, .ref kv, .int (nI (mh_dot cs ns))])) := by rw [mh_up_ne n1']; exact w1
    rw [mh_pI_s [.ref pu, .ref kv, .int 0] v2 ⟨Nat.le_of_ble_eq_true rfl, rfl⟩, Option.bind_some, mh_nm_eq, mh_nm_eq]
    -- the heap behind, with total T and keys F
    have np : pu ≠ o ∧ pu ≠ kv := ⟨mh_apt r2.1 r1 (fun q => by cases q), mh_apt r2.1 r3 (fun q => by cases q)⟩
    have na : ap ≠ o ∧ ap ≠ kv := ⟨mh_apt r2.2.1.1 r1 (fun q => by cases q), mh_apt r2.2.1.1 r3 (fun q => by cases q)⟩
    have nv : vp ≠ o ∧ vp ≠ kv := ⟨mh_apt r2.2.1.2.1 r1 (fun q => by cases q), mh_apt r2.2.1.2.1 r3 (fun q => by cases q)⟩
    have nt : tp ≠ o ∧ tp ≠ kv := ⟨mh_apt r2.2.2.1 r1 (fun q => by cases q), mh_apt r2.2.2.1 r3 (fun q => by cases q)⟩
    have pu' : ∀ (T : Int32) (F : Nat → Int64), mh_Pu (mh_up (mh_up h2 o (.inr (8, [.ref pu, .ref kv, .int T]))) kv (.inl (1, 20001, .inr (.inl F)))) pu ap vp tp f2 g2 c1 n1 := fun T F => y2.keep (by rw [mh_up_ne np.2, mh_up_ne np.1]) (by rw [mh_up_ne na.2, mh_up_ne na.1]) (by rw [mh_up_ne nv.2, mh_up_ne nv.1]) (by rw [mh_up_ne nt.2, mh_up_ne nt.1])
    have oo : ∀ (T : Int32) (F : Nat → Int64), (mh_up (mh_up h2 o (.inr (8, [.ref pu, .ref kv, .int T]))) kv (.inl (1, 20001, .inr (.inl F)))) o = some (.inr (8, [.ref pu, .ref kv, .int T])) := fun T F => by rw [mh_up_ne n1']; exact mh_up_eq _ _ _
    have swp : mh_up (mh_up h2 kv (.inl (1, 20001, .inr (.inl (vp_updL f3 0 0))))) o (.inr (8, [.ref pu, .ref kv, .int 0])) = mh_up (mh_up h2 o (.inr (8, [.ref pu, .ref kv, .int (nI 0)]))) kv (.inl (1, 20001, .inr (.inl (vp_updL f3 0 0)))) := by
      funext b
      unfold mh_up
      by_cases hb1 : b = o
      · rw [if_pos hb1, if_neg (fun q => n1' (hb1.symm.trans q)), if_pos hb1]; rfl
      · rw [if_neg hb1, if_neg hb1]
    have key := mh_wh (fun n (q : Nat × (Nat → Int64)) => f_X8_take_b47 n o (lN (21 ^ q.1)) (nI q.1) (mh_up (mh_up h2 o (.inr (8, [.ref pu, .ref kv, .int (nI (mh_dot (c1.take q.1) (n1.take q.1)))]))) kv (.inl (1, 20001, .inr (.inl q.2)))))
      (fun (F : Nat → Int64) => some (mh_up (mh_up h2 o (.inr (8, [.ref pu, .ref kv, .int (nI (mh_dot c1 n1))]))) kv (.inl (1, 20001, .inr (.inl F)))))
      (fun q => q.1 ≤ c1.length ∧ ∀ s, s < 20001 → mh_Tk (mh_Pk c1 n1 q.1) s (q.2 s)) (fun q => c1.length - q.1) (fun F => ∀ s, s < 20001 → mh_Tk (mh_Pk c1 n1 c1.length) s (F s))
      (fun n q hq => by
        obtain ⟨i, F⟩ := q
        obtain ⟨q1, q2⟩ := hq
        have q1 : i ≤ c1.length := q1
        have q2 : ∀ s, s < 20001 → mh_Tk (mh_Pk c1 n1 i) s (F s) := q2
        show (∃ s', _ ∧ _ ∧ f_X8_take_b47 (n + 1) o (lN (21 ^ i)) (nI i) (mh_up (mh_up h2 o (.inr (8, [.ref pu, .ref kv, .int (nI (mh_dot (c1.take i) (n1.take i)))]))) kv (.inl (1, 20001, .inr (.inl F)))) = _) ∨ ∃ r, _ ∧ f_X8_take_b47 (n + 1) o (lN (21 ^ i)) (nI i) (mh_up (mh_up h2 o (.inr (8, [.ref pu, .ref kv, .int (nI (mh_dot (c1.take i) (n1.take i)))]))) kv (.inl (1, 20001, .inr (.inl F)))) = _
        have wp := pu' (nI (mh_dot (c1.take i) (n1.take i))) F
        have wo := oo (nI (mh_dot (c1.take i) (n1.take i))) F
        by_cases hi : i < c1.length
        · left
          have c0 : ¬ nI c1.length ≤ nI i := fun q => absurd ((nI_leI (by omega) (by omega)).mp q) (by omega)
          have hm := mh_dot_mono hz.2.1 (c1.length - (i + 1)) (i + 1) (by omega)
          rw [mh_dot_take hi hz.2.1] at hm
          have hd := hz.2.2.2
          have h21 := mh_21 (show i ≤ 12 by omega)
          obtain ⟨F', z1, z2⟩ := mh_fx8_allowAll (tot := mh_dot (c1.take i) (n1.take i)) wo (mh_up_eq _ _ _) hz.1 hz.2.2.1 hi q2 (fun s K ⟨ks, a1, a2, a3⟩ => by rw [← a2]; exact mh_Sv_dot hz.2.1 i ks (by omega) a1) (by omega)
          have e8 : mh_up (mh_up (mh_up (mh_up h2 o (.inr (8, [.ref pu, .ref kv, .int (nI (mh_dot (c1.take i) (n1.take i)))]))) kv (.inl (1, 20001, .inr (.inl F)))) o (.inr (8, [.ref pu, .ref kv, .int (nI (mh_dot (c1.take i) (n1.take i) + n1.getD i 0 * c1.getD i 0))]))) kv (.inl (1, 20001, .inr (.inl F'))) = mh_up (mh_up h2 o (.inr (8, [.ref pu, .ref kv, .int (nI (mh_dot (c1.take (i + 1)) (n1.take (i + 1))))]))) kv (.inl (1, 20001, .inr (.inl F'))) := by
            rw [mh_dot_take hi hz.2.1]
            funext b
            unfold mh_up
            by_cases hb1 : b = kv
            · rw [if_pos hb1, if_pos hb1]
            · by_cases hb2 : b = o
              · rw [if_neg hb1, if_pos hb2, if_neg hb1, if_pos hb2]
              · rw [if_neg hb1, if_neg hb2, if_neg hb1, if_neg hb2, if_neg hb1, if_neg hb2]
          rw [e8] at z1
          refine ⟨(i + 1, F'), ⟨hi, z2⟩, by show c1.length - (i + 1) < c1.length - i; omega, ?_⟩
          have ek : (7355827511386641 : Int64) - lN (21 ^ i) = lN (mh_WH - 21 ^ i) := lN_sub h21
          have ed : lN (21 ^ i) * (21 : Int64) = lN (21 ^ (i + 1)) := by
            rw [Nat.pow_succ]
            exact lN_mul _ 21
          rw [f_X8_take_b47, mh_gR_eq (k := 0) wo rfl, Option.bind_some, mh_cal_eq wp.1, mh_b2_eq (mh_fx7_coins wp), mh_cal_eq wp.2.1.1, mh_b2_eq (mh_fx1_count wp.2.1), if_neg c0, mh_gR_eq (k := 0) wo rfl, Option.bind_some, mh_cal_eq wp.1, mh_b2_eq (mh_fx7_often wp (by omega)), mh_gR_eq (k := 0) wo rfl, Option.bind_some, mh_cal_eq wp.1, mh_b2_eq (mh_fx7_coins wp), mh_cal_eq wp.2.1.1, mh_b2_eq (mh_fx1_value wp.2.1 (by omega)), ek, mh_cal_eq wo, z1, Option.bind_some, mh_nm_eq, mh_nm_eq, ed, mh_inc]
        · right
          have e : i = c1.length := by omega
          subst e
          refine ⟨F, q2, ?_⟩
          rw [f_X8_take_b47, mh_gR_eq (k := 0) wo rfl, Option.bind_some, mh_cal_eq wp.1, mh_b2_eq (mh_fx7_coins wp), mh_cal_eq wp.2.1.1, mh_b2_eq (mh_fx1_count wp.2.1), if_pos ((nI_leI (by omega) (by omega)).mpr (Nat.le_refl _)), List.take_length]
          have : n1.take c1.length = n1 := by rw [← hz.2.1, List.take_length]
          rw [this]
          rfl)
      12 mh_fu (0, vp_updL f3 0 0) (by show c1.length - 0 ≤ 12; omega) ⟨Nat.zero_le _, fun s hs => ?_⟩ (mh_fuel _ (by omega))
    · obtain ⟨F, z1, z2⟩ := key
      have z2 : f_X8_take_b47 mh_fu o (lN (21 ^ 0)) (nI 0) (mh_up (mh_up h2 o (.inr (8, [.ref pu, .ref kv, .int (nI (mh_dot (c1.take 0) (n1.take 0)))]))) kv (.inl (1, 20001, .inr (.inl (vp_updL f3 0 0))))) = _ := z2
      refine ⟨_, by rw [swp]; exact z2, ⟨f2, g2, F, oo _ F, pu' _ F, mh_up_eq _ _ _, hz, fun s hs => z1 s (by have := hz.2.2.2; omega)⟩, ?_⟩
      have fr2 : mh_fr [o, ap, vp, tp, kv] h h2 := fun b hb => y3 b (fun q => hb (by simp [q])) (fun q => hb (by simp [q])) (fun q => hb (by simp [q]))
      exact fr2.trans ((mh_fr.up (by simp)).trans (mh_fr.up (by simp)))
    · show mh_Tk (mh_Pk c1 n1 0) s (vp_updL f3 0 0 s)
      by_cases hs0 : s = 0
      · rw [hs0, pk_uLs]
        exact Or.inr ⟨0, mh_Pk_0.mpr ⟨rfl, rfl⟩, fun K' _ => Nat.zero_le _, rfl, by omega⟩
      · rw [pk_uLn hs0, x2 s hs]
        exact Or.inl ⟨fun K q => hs0 (mh_Pk_0.mp q).1, rfl⟩
