theorem mh_ly_b (cs : List Nat) : ∀ j left r i, (mh_ly cs j left r).getD i 0 ≤ left := by
  intro j
  induction j with
  | zero => intro left r i; rw [mh_ly]; exact Nat.zero_le _
  | succ j ih =>
    intro left r i
    rw [mh_ly, List.getD_eq_getElem?_getD]
    have hl := mh_ly_len cs j (left - (mh_ch cs j left (left / cs.getD j 0) r).1 * cs.getD j 0) (mh_ch cs j left (left / cs.getD j 0) r).2
    by_cases h1 : i < j
    · rw [List.getElem?_append_left (by omega), ← List.getD_eq_getElem?_getD]
      exact Nat.le_trans (ih _ _ i) (Nat.sub_le _ _)
    · rw [List.getElem?_append_right (by omega)]
      by_cases h2 : i = j
      · rw [h2, hl, Nat.sub_self]
        exact Nat.le_trans (mh_ch_le cs j left _ r).1 (Nat.div_le_self _ _)
      · rw [hl, List.getElem?_eq_none (show ([(mh_ch cs j left (left / cs.getD j 0) r).1] : List Nat).length ≤ i - j from by show 1 ≤ i - j; omega)]
        exact Nat.zero_le _
theorem mh_fx6_list {h : mh_H} {o cv nv lv op ap vp tp oW a u wv : Nat} {pr rr : Nat → Nat} {x : Int32} {g : Nat → Nat → Int32} {f1 g1 : Nat → Int32} {cs c0 n0 : List Nat} (ho : h o = some (.inr (6, [.ref cv, .ref nv, .ref lv, .ref op, .int x]))) (hO : mh_Oi h cv pr 200) (hR : mh_Ri h pr 200 12 g) (hp : mh_Pu h op ap vp tp f1 g1 c0 n0) (hW : mh_Wy h oW a u wv rr cs) (hi : mh_Inj rr 13) (hi2 : mh_Inj pr 200)
    (d1 : u ≠ vp) (d2 : a ≠ ap) (d3 : vp ≠ tp) (d4 : u ≠ tp) (d5 : ∀ j, j < 200 → pr j ≠ vp ∧ pr j ≠ tp ∧ pr j ≠ u) {s N : Nat} (hs : s ≤ 3000) (hN : N ≤ 200) :
    ∃ h' g' f2 g2 n2, f_X6_list_e o oW (nI s) (nI N) h = some h' ∧ h' o = some (.inr (6, [.ref cv, .ref nv, .ref lv, .ref op, .int (nI N)])) ∧ mh_Ri h' pr 200 12 g' ∧ mh_Pu h' op ap vp tp f2 g2 cs n2 ∧ mh_Wy h' oW a u wv rr cs ∧ (∀ r i, r < N → i < 12 → g' r i = nI ((mh_ly cs cs.length s r).getD i 0)) ∧ mh_fr (o :: ap :: vp :: tp :: oW :: (mh_rw rr ++ mh_rl pr 200)) h h' := by
  have hl := hW.ms.1.1
  obtain ⟨fc, hc⟩ := hW.co
  obtain ⟨xW, hoW⟩ := hW.ob
  have e1 : (if (200 : Int32) < nI N then (200 : Int32) else nI N) = nI N := if_neg (fun q => absurd ((mh_ltl (a := 200) 200 rfl (by omega) (by omega)).mp q) (by omega))
  have e2 : (if (0 : Int32) < nI N then nI N else (0 : Int32)) = nI N := by
    by_cases hq : 0 < N
    · rw [if_pos ((mh_ltl (a := 0) 0 rfl (by omega) (by omega)).mpr hq)]
    · rw [show N = 0 by omega]; rfl
  unfold f_X6_list_e
  rw [e1, e2, mh_pI_s [.ref cv, .ref nv, .ref lv, .ref op, .int (nI N)] ho ⟨Nat.le_of_ble_eq_true rfl, rfl⟩, Option.bind_some]
  have k0 : (mh_up h o (.inr (6, [.ref cv, .ref nv, .ref lv, .ref op, .int (nI N)]))) o = some (.inr (6, [.ref cv, .ref nv, .ref lv, .ref op, .int (nI N)])) := mh_up_eq _ _ _
  have kp : mh_Pu (mh_up h o (.inr (6, [.ref cv, .ref nv, .ref lv, .ref op, .int (nI N)]))) op ap vp tp f1 g1 c0 n0 := hp.keep (mh_up_ne (mh_apt hp.1 ho (fun q => by cases q))) (mh_up_ne (mh_apt hp.2.1.1 ho (fun q => by cases q))) (mh_up_ne (mh_apt hp.2.1.2.1 ho (fun q => by cases q))) (mh_up_ne (mh_apt hp.2.2.1 ho (fun q => by cases q)))
  have kW : mh_Wy (mh_up h o (.inr (6, [.ref cv, .ref nv, .ref lv, .ref op, .int (nI N)]))) oW a u wv rr cs := by
    obtain ⟨fc', gg, kp', r1', r2', r3', r4', _⟩ := id hW
    exact hW.keep (mh_up_ne (mh_apt r1' ho (fun q => by cases q))) (mh_up_ne (mh_apt r2'.1 ho (fun q => by cases q))) (mh_up_ne (mh_apt r2'.2.1 ho (fun q => by cases q))) (mh_up_ne (mh_apt r3' ho (fun q => by cases q))) (fun i hi => mh_up_ne (mh_apt (r4' i hi) ho (fun q => by cases q)))
  have kO : mh_Oi (mh_up h o (.inr (6, [.ref cv, .ref nv, .ref lv, .ref op, .int (nI N)]))) cv pr 200 := (mh_up_ne (mh_apt hO ho (fun q => by cases q))).trans hO
  have kR : mh_Ri (mh_up h o (.inr (6, [.ref cv, .ref nv, .ref lv, .ref op, .int (nI N)]))) pr 200 12 g := fun j hj => (mh_up_ne (mh_apt (hR j hj) ho (fun q => by cases q))).trans (hR j hj)
  obtain ⟨xk, hok⟩ := kW.ob
  obtain ⟨fk, hck⟩ := kW.co
  have eco : f_X10_coins_e oW (mh_up h o (.inr (6, [.ref cv, .ref nv, .ref lv, .ref op, .int (nI N)]))) = some (a, mh_up h o (.inr (6, [.ref cv, .ref nv, .ref lv, .ref op, .int (nI N)]))) := by
    unfold f_X10_coins_e
    rw [mh_gR_eq (k := 0) hok rfl]
    rfl
  obtain ⟨h2, f2, g2, y1, y2, y3⟩ := mh_fx7_refit kp hck kp.2.1.ne (mh_apt hck.1 kp.2.1.2.1 (fun q => by cases q)) d1 d2 (mh_apt hck.2.1 kp.2.1.1 (fun q => by cases q)) (mh_apt kp.1 kp.2.1.1 (fun q => by cases q)) (mh_apt kp.1 kp.2.1.2.1 (fun q => by cases q)) (mh_apt kp.2.2.1 kp.2.1.1 (fun q => by cases q)) d3.symm (mh_apt kp.1 kp.2.2.1 (fun q => by cases q))
  have fr2 : mh_fr (o :: ap :: vp :: tp :: oW :: (mh_rw rr ++ mh_rl pr 200)) h h2 := (mh_fr.up List.mem_cons_self).trans (fun b hb => y3 b (fun q => hb (by simp [q])) (fun q => hb (by simp [q])) (fun q => hb (by simp [q])))
  have w0 : h2 o = some (.inr (6, [.ref cv, .ref nv, .ref lv, .ref op, .int (nI N)])) := (y3 o (mh_apt k0 kp.2.1.1 (fun q => by cases q)) (mh_apt k0 kp.2.1.2.1 (fun q => by cases q)) (mh_apt k0 kp.2.2.1 (fun q => by cases q))).trans k0
  have wO : mh_Oi h2 cv pr 200 := (y3 cv (mh_apt kO kp.2.1.1 (fun q => by cases q)) (mh_apt kO kp.2.1.2.1 (fun q => by cases q)) (mh_apt kO kp.2.2.1 (fun q => by cases q))).trans kO
  have wR : mh_Ri h2 pr 200 12 g := fun j hj => (y3 (pr j) (mh_apt (kR j hj) kp.2.1.1 (fun q => by cases q)) (d5 j hj).1 (d5 j hj).2.1).trans (kR j hj)
  have wW : mh_Wy h2 oW a u wv rr cs := by
    obtain ⟨fc', gg, kp', r1', r2', r3', r4', _⟩ := id kW
    refine kW.keep (y3 oW (mh_apt r1' kp.2.1.1 (fun q => by cases q)) (mh_apt r1' kp.2.1.2.1 (fun q => by cases q)) (mh_apt r1' kp.2.2.1 (fun q => by cases q))) (y3 a d2 (mh_apt r2'.1 kp.2.1.2.1 (fun q => by cases q)) (mh_apt r2'.1 kp.2.2.1 (fun q => by cases q))) (y3 u (mh_apt r2'.2.1 kp.2.1.1 (fun q => by cases q)) d1 d4) (y3 wv (mh_apt r3' kp.2.1.1 (fun q => by cases q)) (mh_apt r3' kp.2.1.2.1 (fun q => by cases q)) (mh_apt r3' kp.2.2.1 (fun q => by cases q))) (fun i hi => y3 (rr i) (mh_apt (r4' i hi) kp.2.1.1 (fun q => by cases q)) (mh_apt (r4' i hi) kp.2.1.2.1 (fun q => by cases q)) (mh_apt (r4' i hi) kp.2.2.1 (fun q => by cases q)))
  rw [mh_gR_eq (k := 3) k0 rfl, Option.bind_some, mh_cal_eq hok, mh_b2_eq eco, mh_cal_eq kp.1, y1, Option.bind_some, mh_nm_eq]
  have key := mh_wh (fun n (q : Nat × mh_H) => f_X6_list_b29 n o oW (nI s) (nI q.1) q.2) (fun (q : mh_H) => some q)
    (fun q => q.1 ≤ N ∧ q.2 o = some (.inr (6, [.ref cv, .ref nv, .ref lv, .ref op, .int (nI N)])) ∧ mh_Oi q.2 cv pr 200 ∧ (∃ g' f2 g2 n2, mh_Ri q.2 pr 200 12 g' ∧ mh_Pu q.2 op ap vp tp f2 g2 cs n2 ∧ ∀ r i, r < q.1 → i < 12 → g' r i = nI ((mh_ly cs cs.length s r).getD i 0)) ∧ mh_Wy q.2 oW a u wv rr cs ∧ mh_fr (o :: ap :: vp :: tp :: oW :: (mh_rw rr ++ mh_rl pr 200)) h q.2) (fun q => N - q.1)
    (fun q => q o = some (.inr (6, [.ref cv, .ref nv, .ref lv, .ref op, .int (nI N)])) ∧ (∃ g' f2 g2 n2, mh_Ri q pr 200 12 g' ∧ mh_Pu q op ap vp tp f2 g2 cs n2 ∧ ∀ r i, r < N → i < 12 → g' r i = nI ((mh_ly cs cs.length s r).getD i 0)) ∧ mh_Wy q oW a u wv rr cs ∧ mh_fr (o :: ap :: vp :: tp :: oW :: (mh_rw rr ++ mh_rl pr 200)) h q)
    (fun n q hq => by
      obtain ⟨rk, h3⟩ := q
      obtain ⟨q1, q2, q3, ⟨g3, f3, gp3, n3, q4, q5, q6⟩, q7, q8⟩ := hq
      have q1 : rk ≤ N := q1
      have q2 : h3 o = some (.inr (6, [.ref cv, .ref nv, .ref lv, .ref op, .int (nI N)])) := q2
      have q3 : mh_Oi h3 cv pr 200 := q3
      have q4 : mh_Ri h3 pr 200 12 g3 := q4
      have q5 : mh_Pu h3 op ap vp tp f3 gp3 cs n3 := q5
      have q6 : ∀ r i, r < rk → i < 12 → g3 r i = nI ((mh_ly cs cs.length s r).getD i 0) := q6
      have q7 : mh_Wy h3 oW a u wv rr cs := q7
      have q8 : mh_fr (o :: ap :: vp :: tp :: oW :: (mh_rw rr ++ mh_rl pr 200)) h h3 := q8
      show (∃ s', _ ∧ _ ∧ f_X6_list_b29 (n + 1) o oW (nI s) (nI rk) h3 = _) ∨ ∃ r, _ ∧ f_X6_list_b29 (n + 1) o oW (nI s) (nI rk) h3 = _
      by_cases hrk : rk < N
      · left
        have c1 : ¬ nI N ≤ nI rk := fun q => absurd ((nI_leI (by omega) (by omega)).mp q) (by omega)
        obtain ⟨h4, f4, gp4, z1, z2, z3, z4⟩ := mh_fx10_lay hi q7 q5 d3 d4 (s := s) (r := rk) hs (by unfold mh_CAP; omega)
        obtain ⟨x7, ho7⟩ := q7.ob
        have noff : ∀ {b : Nat} {e : mh_E}, h3 b = some e → (∀ fs, e ≠ .inr (10, fs)) → (∀ x, e ≠ .inl (1, x)) → b ≠ tp → h4 b = h3 b := fun {b e} hb h1 h2 h5 => z4 b (fun q => by
          rcases List.mem_cons.mp q with q | q
          · exact h5 q
          · exact q7.off hb h1 h2 q)
        have v0 : h4 o = some (.inr (6, [.ref cv, .ref nv, .ref lv, .ref op, .int (nI N)])) := (noff q2 (fun _ q => by cases q) (fun _ q => by cases q) (mh_apt q2 q5.2.2.1 (fun q => by cases q))).trans q2
        have vO : mh_Oi h4 cv pr 200 := (noff q3 (fun _ q => by cases q) (fun _ q => by cases q) (mh_apt q3 q5.2.2.1 (fun q => by cases q))).trans q3
        have vR : mh_Ri h4 pr 200 12 g3 := fun j hj => (noff (q4 j hj) (fun _ q => by cases q) (fun _ q => by cases q) (d5 j hj).2.1).trans (q4 j hj)
        -- the row
        have inn := mh_wh (fun n' (q : Nat × mh_H × (Nat → Nat → Int32)) => f_X6_list_b53 (f_X6_list_b29 n) n' o oW (nI s) (nI rk) (nI q.1) q.2.1) (fun (q : mh_H × (Nat → Nat → Int32)) => f_X6_list_b85 (f_X6_list_b29 n) o oW (nI s) (nI rk) q.1)
          (fun q => q.1 ≤ 12 ∧ mh_Ri q.2.1 pr 200 12 q.2.2 ∧ (∀ r i, r < rk → i < 12 → q.2.2 r i = nI ((mh_ly cs cs.length s r).getD i 0)) ∧ (∀ i, i < q.1 → q.2.2 rk i = nI ((mh_ly cs cs.length s rk).getD i 0)) ∧ mh_fr (mh_rl pr 200) h4 q.2.1) (fun q => 12 - q.1)
          (fun q => mh_Ri q.1 pr 200 12 q.2 ∧ (∀ r i, r < rk + 1 → i < 12 → q.2 r i = nI ((mh_ly cs cs.length s r).getD i 0)) ∧ mh_fr (mh_rl pr 200) h4 q.1)
          (fun n' q hq => by
            obtain ⟨i, h5, g5⟩ := q
            obtain ⟨p1, p2, p3, p4, p5⟩ := hq
            have p1 : i ≤ 12 := p1
            have p2 : mh_Ri h5 pr 200 12 g5 := p2
            have p3 : ∀ r i, r < rk → i < 12 → g5 r i = nI ((mh_ly cs cs.length s r).getD i 0) := p3
            have p4 : ∀ j, j < i → g5 rk j = nI ((mh_ly cs cs.length s rk).getD j 0) := p4
            have p5 : mh_fr (mh_rl pr 200) h4 h5 := p5
            show (∃ s', _ ∧ _ ∧ f_X6_list_b53 (f_X6_list_b29 n) (n' + 1) o oW (nI s) (nI rk) (nI i) h5 = _) ∨ ∃ r, _ ∧ f_X6_list_b53 (f_X6_list_b29 n) (n' + 1) o oW (nI s) (nI rk) (nI i) h5 = _
            have t0 : h5 o = some (.inr (6, [.ref cv, .ref nv, .ref lv, .ref op, .int (nI N)])) := (p5 o (mh_rl_ni (fun j hj => mh_apt v0 (vR j hj) (fun q => by cases q)))).trans v0
            have tO : mh_Oi h5 cv pr 200 := (p5 cv (mh_rl_ni (fun j hj => mh_apt vO (vR j hj) (fun q => by cases q)))).trans vO
            have tp' : mh_Pu h5 op ap vp tp f4 gp4 cs (mh_ly cs cs.length s rk) := z3.keep (p5 op (mh_rl_ni (fun j hj => mh_apt z3.1 (vR j hj) (fun q => by cases q)))) (p5 ap (mh_rl_ni (fun j hj => mh_apt z3.2.1.1 (vR j hj) (fun q => by cases q)))) (p5 vp (mh_rl_ni (fun j hj => (d5 j hj).1.symm))) (p5 tp (mh_rl_ni (fun j hj => (d5 j hj).2.1.symm)))
            by_cases hi12 : i < 12
            · left
              have c2 : ¬ (12 : Int32) ≤ nI i := fun q => absurd ((mh_lel (a := 12) 12 rfl (by omega) (by omega)).mp q) (by omega)
              refine ⟨(i + 1, mh_up h5 (pr rk) (.inl (0, 12, .inl (upd (g5 rk) i (nI ((mh_ly cs cs.length s rk).getD i 0))))), mh_ui g5 rk i (nI ((mh_ly cs cs.length s rk).getD i 0))), ⟨by show i + 1 ≤ 12; omega, p2.put hi2 (by omega), fun r j hr hj => ?_, fun j hj => ?_, p5.trans (mh_fr.up (mh_rl_in (by omega)))⟩, by show 12 - (i + 1) < 12 - i; omega, ?_⟩
              · show mh_ui g5 rk i (nI ((mh_ly cs cs.length s rk).getD i 0)) r j = _
                rw [mh_ui_n (Or.inl (by omega))]; exact p3 r j hr hj
              · have hj : j < i + 1 := hj
                show mh_ui g5 rk i (nI ((mh_ly cs cs.length s rk).getD i 0)) rk j = _
                by_cases hji : j = i
                · rw [hji, mh_ui_s]
                · rw [mh_ui_n (Or.inr hji)]; exact p4 j (by omega)
              · rw [f_X6_list_b53, if_neg c2, mh_gR_eq (k := 0) t0 rfl, Option.bind_some, mh_aR_eq tO (show rk < 200 by omega) (by omega) rfl, Option.bind_some, mh_gR_eq (k := 3) t0 rfl, Option.bind_some, mh_cal_eq tp'.1, mh_b2_eq (mh_fx7_often tp' (by omega)), mh_sI_eq (p2 rk (by omega)) hi12 (by omega), Option.bind_some, mh_nm_eq, mh_inc]
            · right
              refine ⟨(h5, g5), ⟨p2, fun r j hr hj => ?_, p5⟩, ?_⟩
              · by_cases hrr : r = rk
                · rw [hrr]; exact p4 j (by omega)
                · exact p3 r j (by omega) hj
              · rw [f_X6_list_b53, if_pos ((mh_lel (a := 12) 12 rfl (by omega) (by omega)).mpr (by omega))])
          12 mh_fu (0, h4, g3) (by show 12 - 0 ≤ 12; omega) ⟨Nat.zero_le _, vR, q6, fun i hi => absurd hi (Nat.not_lt_zero i), mh_fr.rfl⟩ (mh_fuel _ (by omega))
        obtain ⟨⟨h5, g5⟩, ⟨p1, p2, p3⟩, p4⟩ := inn
        have p1 : mh_Ri h5 pr 200 12 g5 := p1
        have p3 : mh_fr (mh_rl pr 200) h4 h5 := p3
        have p4 : f_X6_list_b53 (f_X6_list_b29 n) mh_fu o oW (nI s) (nI rk) (nI 0) h4 = f_X6_list_b85 (f_X6_list_b29 n) o oW (nI s) (nI rk) h5 := p4
        have u1 := p3 o (mh_rl_ni (fun j hj => mh_apt v0 (vR j hj) (fun q => by cases q)))
        have u2 := p3 cv (mh_rl_ni (fun j hj => mh_apt vO (vR j hj) (fun q => by cases q)))
        have u3 : mh_Pu h5 op ap vp tp f4 gp4 cs (mh_ly cs cs.length s rk) := z3.keep (p3 op (mh_rl_ni (fun j hj => mh_apt z3.1 (vR j hj) (fun q => by cases q)))) (p3 ap (mh_rl_ni (fun j hj => mh_apt z3.2.1.1 (vR j hj) (fun q => by cases q)))) (p3 vp (mh_rl_ni (fun j hj => (d5 j hj).1.symm))) (p3 tp (mh_rl_ni (fun j hj => (d5 j hj).2.1.symm)))
        have u4 : mh_Wy h5 oW a u wv rr cs := by
          obtain ⟨fc', gg, kp', r1', r2', r3', r4', _⟩ := id z2
          exact z2.keep (p3 oW (mh_rl_ni (fun j hj => mh_apt r1' (vR j hj) (fun q => by cases q)))) (p3 a (mh_rl_ni (fun j hj => mh_apt r2'.1 (vR j hj) (fun q => by cases q)))) (p3 u (mh_rl_ni (fun j hj => (d5 j hj).2.2.symm))) (p3 wv (mh_rl_ni (fun j hj => mh_apt r3' (vR j hj) (fun q => by cases q)))) (fun i hi => p3 (rr i) (mh_rl_ni (fun j hj => mh_apt (r4' i hi) (vR j hj) (fun q => by cases q))))
        refine ⟨(rk + 1, h5), ⟨hrk, u1.trans v0, u2.trans vO, ⟨g5, f4, gp4, _, p1, u3, p2⟩, u4, ?_⟩, by show N - (rk + 1) < N - rk; omega, ?_⟩
        · refine q8.trans ((z4.sub (fun y hy => ?_)).trans (p3.sub (fun y hy => ?_)))
          · simp only [List.mem_cons, List.mem_append] at hy ⊢
            rcases hy with hy | hy | hy
            · exact Or.inr (Or.inr (Or.inr (Or.inl hy)))
            · exact Or.inr (Or.inr (Or.inr (Or.inr (Or.inl hy))))
            · exact Or.inr (Or.inr (Or.inr (Or.inr (Or.inr (Or.inl hy)))))
          · simp only [List.mem_cons, List.mem_append]
            exact Or.inr (Or.inr (Or.inr (Or.inr (Or.inr (Or.inr hy)))))
        · rw [nI_0] at p4
          rw [f_X6_list_b29, mh_gI_eq (k := 4) q2 rfl, Option.bind_some, if_neg c1, mh_gR_eq (k := 3) q2 rfl, Option.bind_some, nI_l (by omega), mh_cal_eq ho7, z1, Option.bind_some, mh_nm_eq, p4]
          unfold f_X6_list_b85
          rw [mh_nm_eq, mh_inc]
      · right
        refine ⟨h3, ⟨q2, ⟨g3, f3, gp3, n3, q4, q5, fun r i hr hi => q6 r i (by omega) hi⟩, q7, q8⟩, ?_⟩
        rw [f_X6_list_b29, mh_gI_eq (k := 4) q2 rfl, Option.bind_some, if_pos ((nI_leI (by omega) (by omega)).mpr (by omega))]
        rfl)
    200 mh_fu (0, h2) (by show N - 0 ≤ 200; omega) ⟨Nat.zero_le _, w0, wO, ⟨g, f2, g2, _, wR, y2, fun r i hr => absurd hr (Nat.not_lt_zero r)⟩, wW, fr2⟩ (mh_fuel _ (by omega))
  obtain ⟨h', ⟨z1, ⟨g', f3, g3, n3, z2, z3, z4⟩, z5, z6⟩, z7⟩ := key
  have z7 : f_X6_list_b29 mh_fu o oW (nI s) (nI 0) h2 = some h' := z7
  rw [nI_0] at z7
  exact ⟨h', g', f3, g3, n3, z7, z1, z2, z3, z5, z4, z6⟩
