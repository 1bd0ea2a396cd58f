def mh_bkl (X : Option (Nat × List Nat × List Nat)) : Nat := match X with
  | none => mh_UNP
  | some (_, ks, ms) => (ks.sum + ms.sum) * mh_WH - mh_dg ks
def mh_bki (c1 n1 c2 n2 : List Nat) (s : Nat) (B : Nat → Prop) (X : Option (Nat × List Nat × List Nat)) : Prop := match X with
  | none => ∀ b', B b' → ∀ ks ms, mh_bv c1 n1 (s + b') ks → ¬ mh_bv c2 n2 b' ms
  | some (fb, ks, ms) => mh_bv c1 n1 (s + fb) ks ∧ mh_bv c2 n2 fb ms ∧ ∀ b', B b' → ∀ ks' ms', mh_bv c1 n1 (s + b') ks' → mh_bv c2 n2 b' ms' → (ks.sum + ms.sum) * mh_WH - mh_dg ks ≤ (ks'.sum + ms'.sum) * mh_WH - mh_dg ks'
theorem mh_bki_or {c1 n1 c2 n2 : List Nat} {s : Nat} {B B' : Nat → Prop} {X : Option (Nat × List Nat × List Nat)} (h : mh_bki c1 n1 c2 n2 s B X) (h0 : X = none → ∀ b', B' b' → ¬ B b' → ∀ ks ms, mh_bv c1 n1 (s + b') ks → ¬ mh_bv c2 n2 b' ms) (h1 : ∀ b', B' b' → ¬ B b' → ∀ ks' ms', mh_bv c1 n1 (s + b') ks' → mh_bv c2 n2 b' ms' → mh_bkl X ≤ (ks'.sum + ms'.sum) * mh_WH - mh_dg ks') : mh_bki c1 n1 c2 n2 s B' X := by
  cases X with
  | none =>
    intro b' hb ks ms k1 k2
    by_cases q : B b'
    · exact h b' q ks ms k1 k2
    · exact h0 rfl b' hb q ks ms k1 k2
  | some X =>
    obtain ⟨fb, ks, ms⟩ := X
    obtain ⟨p1, p2, p3⟩ := h
    refine ⟨p1, p2, fun b' hb ks' ms' k1 k2 => ?_⟩
    by_cases q : B b'
    · exact p3 b' q ks' ms' k1 k2
    · exact h1 b' hb q ks' ms' k1 k2
section MhBack
variable {h : mh_H} {o pu ap vp tp kv o' pu' ap' vp' tp' kv' : Nat} {c1 n1 c2 n2 : List Nat}
theorem mh_fx8_backFrom (hP : mh_PT h o pu ap vp tp kv c1 n1) (hT : mh_PT h o' pu' ap' vp' tp' kv' c2 n2) {s : Nat} (hs : s < 2 ^ 31) :
    ∃ x, f_X8_backFrom_e o o' (nI s) h = some (x, h) ∧ ((x = -1 ∧ ∀ ks ms, mh_vp c1 n1 (s + mh_dot c2 ms) ks → ¬ mh_vp c2 n2 (mh_dot c2 ms) ms) ∨ ∃ ks ms, mh_cg c1 n1 c2 n2 s ks ms ∧ mh_bv c1 n1 (s + mh_dot c2 ms) ks ∧ mh_bv c2 n2 (mh_dot c2 ms) ms ∧ x = nI (mh_dot c2 ms) ∧ s + mh_dot c2 ms ≤ 20000) := by
  have hU : mh_UNP = 9223372036854775807 := rfl
  have hW : mh_WH = 7355827511386641 := rfl
  have hP0 := hP
  have hT0 := hT
  obtain ⟨f, g, fk, r1, r2, r3, r4, r5⟩ := hP
  obtain ⟨f', g', fk', t1, t2, t3, t4, t5⟩ := hT
  have d1 := r4.2.2.2
  have d2 := t4.2.2.2
  have key := mh_wh (fun n (q : Nat × Option (Nat × List Nat × List Nat)) => f_X8_backFrom_b10 n o o' (nI s) (mh_sz (q.2.map (·.1))) (lN (mh_bkl q.2)) (nI q.1) h)
    (fun (X : Option (Nat × List Nat × List Nat)) => some (mh_sz (X.map (·.1)), h))
    (fun q => q.1 ≤ 20001 ∧ mh_bki c1 n1 c2 n2 s (fun b' => b' < q.1) q.2) (fun q => 20001 - q.1) (fun X => mh_bki c1 n1 c2 n2 s (fun _ => True) X)
    (fun n q hq => by
      obtain ⟨b, X⟩ := q
      obtain ⟨q1, q2⟩ := hq
      have q1 : b ≤ 20001 := q1
      have q2 : mh_bki c1 n1 c2 n2 s (fun b' => b' < b) X := q2
      have over : (mh_dot c2 n2 < b ∨ mh_dot c1 n1 < s + b) → ∀ b', b ≤ b' → ∀ ks ms, mh_bv c1 n1 (s + b') ks → ¬ mh_bv c2 n2 b' ms := fun ho b' hb' ks ms k1 k2 => by
        have a := mh_vp_le r4 k1.1
        have c := mh_vp_le t4 k2.1
        omega
      have fin : (mh_dot c2 n2 < b ∨ mh_dot c1 n1 < s + b) → mh_bki c1 n1 c2 n2 s (fun _ => True) X := fun ho =>
        mh_bki_or q2 (fun _ b' _ hb ks ms k1 k2 => over ho b' (by omega) ks ms k1 k2) (fun b' _ hb ks' ms' k1 k2 => absurd k2 (over ho b' (by omega) ks' ms' k1))
      show (∃ s', _ ∧ _ ∧ f_X8_backFrom_b10 (n + 1) o o' (nI s) (mh_sz (X.map (·.1))) (lN (mh_bkl X)) (nI b) h = _) ∨ ∃ r, _ ∧ f_X8_backFrom_b10 (n + 1) o o' (nI s) (mh_sz (X.map (·.1))) (lN (mh_bkl X)) (nI b) h = _
      by_cases hb1 : mh_dot c2 n2 < b
      · right
        refine ⟨X, fin (Or.inl hb1), ?_⟩
        rw [f_X8_backFrom_b10, mh_gI_eq (k := 2) t1 rfl, Option.bind_some, if_pos ((nI_ltI (by omega) (by omega)).mpr hb1)]
        rfl
      · have c0 : ¬ nI (mh_dot c2 n2) < nI b := fun q => hb1 ((nI_ltI (by omega) (by omega)).mp q)
        have cmp : nI (mh_dot c1 n1) - nI b < nI s ↔ mh_dot c1 n1 < s + b := by
          by_cases hle : b ≤ mh_dot c1 n1
          · rw [pk_sub hle, nI_ltI (by omega) hs]; omega
          · have a := pk_sneg (a := mh_dot c1 n1) (b := b) (by omega) (by omega)
            exact ⟨fun _ => by omega, fun _ => Int32.lt_of_lt_of_le a (nI_pos' hs)⟩
        by_cases hb2 : mh_dot c1 n1 < s + b
        · right
          refine ⟨X, fin (Or.inr hb2), ?_⟩
          rw [f_X8_backFrom_b10, mh_gI_eq (k := 2) t1 rfl, Option.bind_some, if_neg c0, mh_gI_eq (k := 2) r1 rfl, Option.bind_some, if_pos (cmp.mpr hb2)]
          rfl
        · left
          obtain ⟨x1, e1, e2⟩ := mh_fx8_key hP0 (s := s + b) (by omega)
          obtain ⟨x2, e3, e4⟩ := mh_fx8_size hT0 (s := b) (by omega)
          have pre : f_X8_backFrom_b10 (n + 1) o o' (nI s) (mh_sz (X.map (fun y => y.1))) (lN (mh_bkl X)) (nI b) h = (if lg_cmp x1 (lN mh_UNP) = 0 then f_X8_backFrom_b94 (f_X8_backFrom_b10 n) o o' (nI s) (mh_sz (X.map (fun y => y.1))) (lN (mh_bkl X)) (nI b) h else (if x2 = (-1 : Int32) then f_X8_backFrom_b94 (f_X8_backFrom_b10 n) o o' (nI s) (mh_sz (X.map (fun y => y.1))) (lN (mh_bkl X)) (nI b) h else (if (0 : Int32) ≤ lg_cmp (x1 + x2.toInt64 * lN mh_WH) (lN (mh_bkl X)) then f_X8_backFrom_b94 (f_X8_backFrom_b10 n) o o' (nI s) (mh_sz (X.map (fun y => y.1))) (lN (mh_bkl X)) (nI b) h else f_X8_backFrom_b94 (f_X8_backFrom_b10 n) o o' (nI s) (nI b) (x1 + x2.toInt64 * lN mh_WH) (nI b) h))) := by
            rw [f_X8_backFrom_b10, mh_gI_eq (k := 2) t1 rfl, Option.bind_some, if_neg c0, mh_gI_eq (k := 2) r1 rfl, Option.bind_some, if_neg (fun q => hb2 (cmp.mp q)), nI_add, mh_cal_eq r1, mh_b2_eq e1, mh_cal_eq t1, mh_b2_eq e3]
            rfl
          -- nothing better at b
          have stay : (X = none → ∀ ks ms, mh_bv c1 n1 (s + b) ks → ¬ mh_bv c2 n2 b ms) → (∀ ks' ms', mh_bv c1 n1 (s + b) ks' → mh_bv c2 n2 b ms' → mh_bkl X ≤ (ks'.sum + ms'.sum) * mh_WH - mh_dg ks') → f_X8_backFrom_b10 (n + 1) o o' (nI s) (mh_sz (X.map (·.1))) (lN (mh_bkl X)) (nI b) h = f_X8_backFrom_b94 (f_X8_backFrom_b10 n) o o' (nI s) (mh_sz (X.map (·.1))) (lN (mh_bkl X)) (nI b) h → ∃ s' : Nat × Option (Nat × List Nat × List Nat), (s'.1 ≤ 20001 ∧ mh_bki c1 n1 c2 n2 s (fun b' => b' < s'.1) s'.2) ∧ 20001 - s'.1 < 20001 - b ∧ f_X8_backFrom_b10 (n + 1) o o' (nI s) (mh_sz (X.map (·.1))) (lN (mh_bkl X)) (nI b) h = f_X8_backFrom_b10 n o o' (nI s) (mh_sz (s'.2.map (·.1))) (lN (mh_bkl s'.2)) (nI s'.1) h := fun a0 a1 a2 => by
            refine ⟨(b + 1, X), ⟨by show b + 1 ≤ 20001; omega, ?_⟩, by show 20001 - (b + 1) < 20001 - b; omega, ?_⟩
            · refine mh_bki_or q2 (fun e b' hb hn ks ms k1 k2 => ?_) (fun b' hb hn ks' ms' k1 k2 => ?_)
              · have hb : b' < b + 1 := hb
                have e2 : b' = b := by omega
                subst e2
                exact a0 e ks ms k1 k2
              · have hb : b' < b + 1 := hb
                have e2 : b' = b := by omega
                subst e2
                exact a1 ks' ms' k1 k2
            · rw [a2]
              unfold f_X8_backFrom_b94
              rw [mh_nm_eq, mh_inc]
          rcases e2 with ⟨a1, a2⟩ | ⟨ks, a1, a2⟩
          · refine stay (fun _ ks ms k1 _ => a1 ks k1.1) (fun ks' ms' k1 _ => absurd k1.1 (a1 ks')) ?_
            · rw [pre, a2, if_pos ((mh_cmp0 _ _).mpr rfl)]
          · obtain ⟨v1, v2, v3⟩ := mh_vp_dg r4 a1.1
            have v4 := mh_dg_le r4 a1.1
            have v5 := Nat.mul_le_mul_right mh_WH v2
            have k1 : ¬ lg_cmp (lN (ks.sum * mh_WH - mh_dg ks)) (lN mh_UNP) = 0 := fun q => absurd ((mh_ceqN (by omega) (by omega)).mp q) (by omega)
            rcases e4 with ⟨b1, b2⟩ | ⟨ms, b1, b2⟩
            · refine stay (fun _ ks ms _ k2 => b1 ms k2.1) (fun ks' ms' _ k2 => absurd k2.1 (b1 ms')) ?_
              · rw [pre, a2, if_neg k1, if_pos b2]
            · obtain ⟨u1, u2, u3⟩ := mh_vp_dg t4 b1.1
              have u5 := Nat.mul_le_mul_right mh_WH u2
              have k2 : ¬ nI ms.sum = (-1 : Int32) := mh_nI_m1 (by omega)
              have ev : lN (ks.sum * mh_WH - mh_dg ks) + (nI ms.sum).toInt64 * lN mh_WH = lN ((ks.sum + ms.sum) * mh_WH - mh_dg ks) := by
                rw [nI_l (by omega), lN_mul, lN_add, Nat.add_mul]
                congr 1
                omega
              have hle : (ks.sum + ms.sum) * mh_WH - mh_dg ks < 2 ^ 63 := by rw [Nat.add_mul]; omega
              have hlt : (ks.sum + ms.sum) * mh_WH - mh_dg ks < mh_UNP := by rw [Nat.add_mul]; omega
              -- better at b
              have better : (¬ (0 : Int32) ≤ lg_cmp (lN ((ks.sum + ms.sum) * mh_WH - mh_dg ks)) (lN (mh_bkl X))) → (∀ b', b' < b → ∀ ks' ms', mh_bv c1 n1 (s + b') ks' → mh_bv c2 n2 b' ms' → (ks.sum + ms.sum) * mh_WH - mh_dg ks ≤ (ks'.sum + ms'.sum) * mh_WH - mh_dg ks') → ∃ s' : Nat × Option (Nat × List Nat × List Nat), (s'.1 ≤ 20001 ∧ mh_bki c1 n1 c2 n2 s (fun b' => b' < s'.1) s'.2) ∧ 20001 - s'.1 < 20001 - b ∧ f_X8_backFrom_b10 (n + 1) o o' (nI s) (mh_sz (X.map (·.1))) (lN (mh_bkl X)) (nI b) h = f_X8_backFrom_b10 n o o' (nI s) (mh_sz (s'.2.map (·.1))) (lN (mh_bkl s'.2)) (nI s'.1) h := fun w1 w2 => by
                refine ⟨(b + 1, some (b, ks, ms)), ⟨by show b + 1 ≤ 20001; omega, a1, b1, fun b' hb' ks' ms' m1 m2 => ?_⟩, by show 20001 - (b + 1) < 20001 - b; omega, ?_⟩
                · have hb' : b' < b + 1 := hb'
                  by_cases hbb : b' = b
                  · subst hbb
                    rw [mh_bv_u r4 a1 m1, mh_bv_u t4 b1 m2]
                    exact Nat.le_refl _
                  · exact w2 b' (by omega) ks' ms' m1 m2
                · rw [pre, a2, if_neg k1, b2, if_neg k2, ev, if_neg w1]
                  unfold f_X8_backFrom_b94
                  rw [mh_nm_eq, mh_inc]
                  rfl
              cases X with
              | none =>
                refine better ?_ (fun b' hb' ks' ms' m1 m2 => absurd m2 (q2 b' hb' ks' ms' m1))
                exact fun q => absurd ((mh_cgeN (b := mh_UNP) hle (by omega)).mp q) (by omega)
              | some X =>
                obtain ⟨fb, ks0, ms0⟩ := X
                obtain ⟨p1, p2, p3⟩ := q2
                obtain ⟨y1, y2, y3⟩ := mh_vp_dg r4 p1.1
                obtain ⟨y4, y5, y6⟩ := mh_vp_dg t4 p2.1
                have y7 := Nat.mul_le_mul_right mh_WH y2
                have y8 := Nat.mul_le_mul_right mh_WH y5
                have hle0 : (ks0.sum + ms0.sum) * mh_WH - mh_dg ks0 < 2 ^ 63 := by rw [Nat.add_mul]; omega
                by_cases hq : (ks.sum + ms.sum) * mh_WH - mh_dg ks < (ks0.sum + ms0.sum) * mh_WH - mh_dg ks0
                · refine better (fun q => absurd ((mh_cgeN hle hle0).mp q) (by omega)) (fun b' hb' ks' ms' m1 m2 => ?_)
                  have := p3 b' hb' ks' ms' m1 m2
                  omega
                · refine stay (fun q => by cases q) ?_ ?_
                  · intro ks' ms' m1 m2
                    rw [← mh_bv_u r4 a1 m1, ← mh_bv_u t4 b1 m2]
                    show (ks0.sum + ms0.sum) * mh_WH - mh_dg ks0 ≤ _
                    omega
                  · rw [pre, a2, if_neg k1, b2, if_neg k2, ev, if_pos (show (0 : Int32) ≤ lg_cmp (lN ((ks.sum + ms.sum) * mh_WH - mh_dg ks)) (lN (mh_bkl (some (fb, ks0, ms0)))) from (mh_cgeN hle hle0).mpr (by omega))])
    20001 mh_fu (0, none) (by show 20001 - 0 ≤ 20001; omega) ⟨Nat.zero_le _, fun b' hb' => absurd hb' (Nat.not_lt_zero b')⟩ (mh_fuel _ (by omega))
  obtain ⟨X, z1, z2⟩ := key
  have z2 : f_X8_backFrom_b10 mh_fu o o' (nI s) (-1) (lN mh_UNP) (nI 0) h = some (mh_sz (X.map (·.1)), h) := z2
  rw [nI_0] at z2
  refine ⟨mh_sz (Option.map (fun x : Nat × List Nat × List Nat => x.1) X), z2, ?_⟩
  have exb : ∀ {cs ns : List Nat}, mh_pz cs ns → ∀ {m : Nat} {l : List Nat}, mh_vp cs ns m l → ∃ ks, mh_bv cs ns m ks := fun {cs ns} hz {m l} hl => by
    obtain ⟨K, ⟨ks, k1, k2⟩, k3⟩ := pk_least (fun K => ∃ ks, mh_vp cs ns m ks ∧ K = ks.sum * mh_WH - mh_dg ks) ⟨_, l, hl, rfl⟩
    refine ⟨ks, k1, fun r hr => ?_⟩
    have := k3 (r.sum * mh_WH - mh_dg r)
    refine (mh_lex (mh_vp_dg hz k1).1 (mh_vp_dg hz hr).1 (mh_dg_le hz k1) (mh_dg_le hz hr)).mp (Nat.le_of_not_lt (fun q => ?_))
    exact k3 _ (by rw [k2]; exact q) ⟨r, hr, rfl⟩
  cases X with
  | none =>
    refine Or.inl ⟨rfl, fun ks ms k1 k2 => ?_⟩
    obtain ⟨l1, m1⟩ := exb r4 k1
    obtain ⟨l2, m2⟩ := exb t4 k2
    exact z1 _ trivial l1 l2 m1 m2
  | some X =>
    obtain ⟨fb, ks, ms⟩ := X
    obtain ⟨p1, p2, p3⟩ := z1
    have e : mh_dot c2 ms = fb := p2.1.2
    refine Or.inr ⟨ks, ms, ?_, by rw [e]; exact p1, by rw [e]; exact p2, by rw [e]; rfl, ?_⟩
    · refine ⟨by rw [e]; exact p1.1, by rw [e]; exact p2.1, fun ks' ms' k1 k2 => ?_⟩
      obtain ⟨l1, m1⟩ := exb r4 k1
      obtain ⟨l2, m2⟩ := exb t4 k2
      have q := p3 _ trivial l1 l2 m1 m2
      have a1 := m1.2 ks' k1
      have a2 := m2.2 ms' k2
      have D1 := (mh_vp_dg r4 p1.1).1
      have D2 := (mh_vp_dg r4 m1.1).1
      have E1 := mh_dg_le r4 p1.1
      have E2 := mh_dg_le r4 m1.1
      have q2 := (mh_lex (n := ks.sum + ms.sum) (n' := l1.sum + l2.sum) D1 D2 (by rw [Nat.add_mul]; omega) (by rw [Nat.add_mul]; omega)).mp q
      by_cases hs1 : ks.sum + ms.sum < ks'.sum + ms'.sum
      · exact Or.inl hs1
      · right
        have f1 : l1.sum = ks'.sum := by omega
        have f2 : l2.sum = ms'.sum := by omega
        refine ⟨by omega, ?_⟩
        by_cases hs2 : mh_dg ks' < mh_dg ks
        · exact Or.inl hs2
        · right
          have f3 : mh_dg ks' = mh_dg ks := by omega
          have f4 : ks' = ks := mh_dg_inj _ _ (by rw [k1.1.1, p1.1.1.1]) (mh_Sv_20 r4.2.2.1 k1.1) (mh_Sv_20 r4.2.2.1 p1.1.1) f3
          refine ⟨f3, ?_⟩
          have f5 : mh_dot c2 ms' = fb := by
            have g1 := k1.2
            rw [f4, p1.1.2] at g1
            omega
          have f6 : ks'.sum = ks.sum := by rw [f4]
          rw [f5] at k2
          have := p2.2 ms' k2
          omega
    · rw [e]
      have := mh_vp_le r4 p1.1
      omega
end MhBack
