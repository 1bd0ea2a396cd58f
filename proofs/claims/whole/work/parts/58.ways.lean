/-! ways, up to a little above the limit -/
def mh_CAP : Nat := 4000000000000000001
def mh_wy (cs : List Nat) (j s : Nat) : Nat := match j with
  | 0 => if s = 0 then 1 else 0
  | j + 1 => min (mh_wy cs j s + (if _h : 1 ≤ cs.getD j 0 ∧ cs.getD j 0 ≤ s then mh_wy cs (j + 1) (s - cs.getD j 0) else 0)) mh_CAP
termination_by (j, s)
decreasing_by
  · exact Prod.Lex.left _ _ (Nat.lt_succ_self j)
  · exact Prod.Lex.right _ (by omega)
theorem mh_wy_0 (cs : List Nat) (s : Nat) : mh_wy cs 0 s = if s = 0 then 1 else 0 := by rw [mh_wy]
theorem mh_wy_s {cs : List Nat} {j s : Nat} (hc : 1 ≤ cs.getD j 0) : mh_wy cs (j + 1) s = min (mh_wy cs j s + (if cs.getD j 0 ≤ s then mh_wy cs (j + 1) (s - cs.getD j 0) else 0)) mh_CAP := by
  rw [mh_wy]
  by_cases h : cs.getD j 0 ≤ s
  · rw [dif_pos ⟨hc, h⟩, if_pos h]
  · rw [dif_neg (fun q => h q.2), if_neg h]
theorem mh_wy_le (cs : List Nat) (j s : Nat) : mh_wy cs j s ≤ mh_CAP := by
  cases j with
  | zero => rw [mh_wy_0]; unfold mh_CAP; split <;> omega
  | succ j => rw [mh_wy]; exact Nat.min_le_right _ _
/-- the table: the rows lie at rr 0 .. rr 12 -/
def mh_rw (rr : Nat → Nat) : List Nat := (List.range 13).map rr
theorem mh_rw_in {rr : Nat → Nat} {j : Nat} (h : j < 13) : rr j ∈ mh_rw rr := List.mem_map.mpr ⟨j, List.mem_range.mpr h, rfl⟩
theorem mh_rw_ni {rr : Nat → Nat} {b : Nat} (h : ∀ j, j < 13 → b ≠ rr j) : b ∉ mh_rw rr := fun q => by
  obtain ⟨j, h1, h2⟩ := List.mem_map.mp q
  exact h j (List.mem_range.mp h1) h2.symm
def mh_Ry (h : mh_H) (rr : Nat → Nat) (g : Nat → Nat → Int64) : Prop := ∀ j, j < 13 → h (rr j) = some (.inl (1, 3001, .inr (.inl (g j))))
def mh_Oy (h : mh_H) (wv : Nat) (rr : Nat → Nat) : Prop := h wv = some (.inl (6, 13, .inr (.inr (.inr (.inr (fun j => some (rr j)))))))
def mh_ug (g : Nat → Nat → Int64) (j s : Nat) (x : Int64) : Nat → Nat → Int64 := fun i => if i = j then vp_updL (g j) s x else g i
theorem mh_ug_s {g : Nat → Nat → Int64} {j s : Nat} {x : Int64} : mh_ug g j s x j s = x := by
  unfold mh_ug
  rw [if_pos rfl, pk_uLs]
theorem mh_ug_n {g : Nat → Nat → Int64} {j s i r : Nat} {x : Int64} (h : i ≠ j ∨ r ≠ s) : mh_ug g j s x i r = g i r := by
  unfold mh_ug
  by_cases hi : i = j
  · rw [if_pos hi, pk_uLn (h.resolve_left (fun q => q hi)), hi]
  · rw [if_neg hi]
theorem mh_Ry.put {h : mh_H} {rr : Nat → Nat} {g : Nat → Nat → Int64} (hr : mh_Ry h rr g) (hi : mh_Inj rr 13) {j s : Nat} {x : Int64} (hj : j < 13) : mh_Ry (mh_up h (rr j) (.inl (1, 3001, .inr (.inl (vp_updL (g j) s x))))) rr (mh_ug g j s x) := fun i h1 => by
  unfold mh_ug
  by_cases h2 : i = j
  · rw [if_pos h2, h2]; exact mh_up_eq _ _ _
  · rw [if_neg h2, mh_up_ne (hi.ne h1 hj h2)]; exact hr i h1
theorem mh_lcap : (4000000000000000001 : Int64) = lN mh_CAP := rfl
section MhWays
variable {h : mh_H} {o a u wv : Nat} {rr : Nat → Nat} {cs : List Nat}
theorem mh_fx10_reckon {fc : Nat → Int32} {g : Nat → Nat → Int64} {x : Int32} {s : Nat} (ho : h o = some (.inr (10, [.ref a, .ref wv, .int x]))) (hc : mh_Co h a u fc cs) (hO : mh_Oy h wv rr) (hR : mh_Ry h rr g) (hi : mh_Inj rr 13) (hmt : mh_mt cs) (hs : s ≤ 3000) (hg : ∀ r j, r < s → j ≤ cs.length → g j r = lN (mh_wy cs j r)) :
    ∃ h' g', f_X10_reckon_e o (nI s) h = some h' ∧ mh_Ry h' rr g' ∧ (∀ r j, r < s + 1 → j ≤ cs.length → g' j r = lN (mh_wy cs j r)) ∧ mh_fr (mh_rw rr) h h' := by
  have hl := hmt.1
  have no : ∀ j, j < 13 → o ≠ rr j := fun j hj => mh_apt ho (hR j hj) (fun q => by cases q)
  have na : ∀ j, j < 13 → a ≠ rr j := fun j hj => mh_apt hc.1 (hR j hj) (fun q => by cases q)
  have nu : ∀ j, j < 13 → u ≠ rr j := fun j hj => mh_apt hc.2.1 (hR j hj) (fun q => by cases q)
  have nw : ∀ j, j < 13 → wv ≠ rr j := fun j hj => mh_apt hO (hR j hj) (fun q => by cases q)
  have ko : ∀ h', mh_fr (mh_rw rr) h h' → h' o = some (.inr (10, [.ref a, .ref wv, .int x])) := fun h' hf => (hf o (mh_rw_ni no)).trans ho
  have kc : ∀ h', mh_fr (mh_rw rr) h h' → mh_Co h' a u fc cs := fun h' hf => hc.keep (hf a (mh_rw_ni na)) (hf u (mh_rw_ni nu))
  have kO : ∀ h', mh_fr (mh_rw rr) h h' → mh_Oy h' wv rr := fun h' hf => (hf wv (mh_rw_ni nw)).trans hO
  have main : ∀ x0 : Int64, x0 = lN (mh_wy cs 0 s) → ∃ r : mh_H × (Nat → Nat → Int64), (mh_Ry r.1 rr r.2 ∧ (∀ q j, q < s + 1 → j ≤ cs.length → r.2 j q = lN (mh_wy cs j q)) ∧ mh_fr (mh_rw rr) h r.1) ∧ f_X10_reckon_b16 o (nI s) (rr 0) (nI s) x0 h = some r.1 := fun x0 hx0 => by
    unfold f_X10_reckon_b16
    rw [mh_sJ_eq (hR 0 (by omega)) (by omega) (by omega), Option.bind_some, mh_nm_eq]
    have key := mh_wh (fun n (q : Nat × mh_H × (Nat → Nat → Int64)) => f_X10_reckon_b19 n o (nI s) (nI q.1) q.2.1) (fun (r : mh_H × (Nat → Nat → Int64)) => some r.1)
      (fun q => q.1 ≤ cs.length ∧ mh_Ry q.2.1 rr q.2.2 ∧ (∀ r j, r < s → j ≤ cs.length → q.2.2 j r = lN (mh_wy cs j r)) ∧ (∀ j, j ≤ q.1 → q.2.2 j s = lN (mh_wy cs j s)) ∧ mh_fr (mh_rw rr) h q.2.1) (fun q => cs.length - q.1)
      (fun r => mh_Ry r.1 rr r.2 ∧ (∀ q j, q < s + 1 → j ≤ cs.length → r.2 j q = lN (mh_wy cs j q)) ∧ mh_fr (mh_rw rr) h r.1)
      (fun n q hq => by
        obtain ⟨i, h1, g1⟩ := q
        obtain ⟨q1, q2, q3, q4, q5⟩ := hq
        have q1 : i ≤ cs.length := q1
        have q2 : mh_Ry h1 rr g1 := q2
        have q3 : ∀ r j, r < s → j ≤ cs.length → g1 j r = lN (mh_wy cs j r) := q3
        have q4 : ∀ j, j ≤ i → g1 j s = lN (mh_wy cs j s) := q4
        have q5 : mh_fr (mh_rw rr) h h1 := q5
        show (∃ s', _ ∧ _ ∧ f_X10_reckon_b19 (n + 1) o (nI s) (nI i) h1 = _) ∨ ∃ r, _ ∧ f_X10_reckon_b19 (n + 1) o (nI s) (nI i) h1 = _
        have wo := ko h1 q5
        have wc := kc h1 q5
        have wO := kO h1 q5
        by_cases hlt : i < cs.length
        · left
          have hci := hmt.get hlt
          have c1 : ¬ nI cs.length ≤ nI i := fun q => absurd ((nI_leI (by omega) (by omega)).mp q) (by omega)
          have b59 : ∀ y : Nat, y ≤ mh_CAP → mh_wy cs (i + 1) s = min (mh_wy cs i s + y) mh_CAP → ∃ s' : Nat × mh_H × (Nat → Nat → Int64), (s'.1 ≤ cs.length ∧ mh_Ry s'.2.1 rr s'.2.2 ∧ (∀ r j, r < s → j ≤ cs.length → s'.2.2 j r = lN (mh_wy cs j r)) ∧ (∀ j, j ≤ s'.1 → s'.2.2 j s = lN (mh_wy cs j s)) ∧ mh_fr (mh_rw rr) h s'.2.1) ∧ cs.length - s'.1 < cs.length - i ∧ f_X10_reckon_b59 (f_X10_reckon_b19 n) o (nI s) (nI i) (lN y) h1 = f_X10_reckon_b19 n o (nI s) (nI s'.1) s'.2.1 := fun y hy hw => by
            have hwi := mh_wy_le cs i s
            have ev : (if (4000000000000000001 : Int64) < lN (mh_wy cs i s + y) then (4000000000000000001 : Int64) else lN (mh_wy cs i s + y)) = lN (mh_wy cs (i + 1) s) := by
              rw [hw, mh_lcap]
              have hcap : mh_CAP = 4000000000000000001 := rfl
              by_cases hq : mh_CAP < mh_wy cs i s + y
              · rw [if_pos ((pk_lLT (by omega) (by omega)).mpr hq), Nat.min_eq_right (by omega)]
              · rw [if_neg (fun q => hq ((pk_lLT (by omega) (by omega)).mp q)), Nat.min_eq_left (by omega)]
            refine ⟨(i + 1, mh_up h1 (rr (i + 1)) (.inl (1, 3001, .inr (.inl (vp_updL (g1 (i + 1)) s (lN (mh_wy cs (i + 1) s)))))), mh_ug g1 (i + 1) s (lN (mh_wy cs (i + 1) s))), ⟨hlt, q2.put hi (by omega), fun r j h1 h2 => ?_, fun j hj => ?_, q5.trans (mh_fr.up (mh_rw_in (by omega)))⟩, by show cs.length - (i + 1) < cs.length - i; omega, ?_⟩
            · show mh_ug g1 (i + 1) s (lN (mh_wy cs (i + 1) s)) j r = _
              rw [mh_ug_n (Or.inr (by omega))]; exact q3 r j h1 h2
            · have hj : j ≤ i + 1 := hj
              show mh_ug g1 (i + 1) s (lN (mh_wy cs (i + 1) s)) j s = _
              by_cases hji : j = i + 1
              · rw [hji, mh_ug_s]
              · rw [mh_ug_n (Or.inl hji)]; exact q4 j (by omega)
            · unfold f_X10_reckon_b59
              rw [mh_gR_eq (k := 1) wo rfl, Option.bind_some, nI_1, mh_aR_eq wO (show i + 1 < 13 by omega) (by omega) rfl, Option.bind_some, Option.bind_some, mh_aR_eq wO (show i < 13 by omega) (by omega) rfl, Option.bind_some, mh_aJ_eq (q2 i (by omega)) (by omega) (by omega), Option.bind_some, q4 i (Nat.le_refl _), lN_add, ev, mh_sJ_eq (q2 (i + 1) (by omega)) (by omega) (by omega), Option.bind_some, mh_nm_eq, mh_inc]
          have hwy := mh_wy_s (s := s) hci.1
          by_cases hle : cs.getD i 0 ≤ s
          · rw [if_pos hle] at hwy
            obtain ⟨s', r1, r2, r3⟩ := b59 (mh_wy cs (i + 1) (s - cs.getD i 0)) (mh_wy_le _ _ _) hwy
            refine ⟨s', r1, r2, ?_⟩
            rw [f_X10_reckon_b19, mh_gR_eq (k := 0) wo rfl, Option.bind_some, mh_cal_eq wc.1, mh_b2_eq (mh_fx1_count wc), if_neg c1, mh_gR_eq (k := 0) wo rfl, Option.bind_some, mh_cal_eq wc.1, mh_b2_eq (mh_fx1_value wc (by omega)), mh_nm_eq, pk_sub hle, if_neg (nI_pos (by omega)), mh_gR_eq (k := 1) wo rfl, Option.bind_some, nI_1, mh_aR_eq wO (show i + 1 < 13 by omega) (by omega) rfl, Option.bind_some, mh_aJ_eq (q2 (i + 1) (by omega)) (by omega) (by omega), Option.bind_some, q3 _ (i + 1) (by omega) (by omega)]
            exact r3
          · rw [if_neg hle] at hwy
            obtain ⟨s', r1, r2, r3⟩ := b59 0 (Nat.zero_le _) hwy
            refine ⟨s', r1, r2, ?_⟩
            rw [f_X10_reckon_b19, mh_gR_eq (k := 0) wo rfl, Option.bind_some, mh_cal_eq wc.1, mh_b2_eq (mh_fx1_count wc), if_neg c1, mh_gR_eq (k := 0) wo rfl, Option.bind_some, mh_cal_eq wc.1, mh_b2_eq (mh_fx1_value wc (by omega)), mh_nm_eq, if_pos (pk_sneg (by omega) (by omega))]
            exact r3
        · right
          have e : i = cs.length := by omega
          have c1 : nI cs.length ≤ nI i := (nI_leI (by omega) (by omega)).mpr (by omega)
          refine ⟨(h1, g1), ⟨q2, fun r j h1 h2 => ?_, q5⟩, ?_⟩
          · by_cases hr : r = s
            · rw [hr]; exact q4 j (by omega)
            · exact q3 r j (by omega) h2
          · rw [f_X10_reckon_b19, mh_gR_eq (k := 0) wo rfl, Option.bind_some, mh_cal_eq wc.1, mh_b2_eq (mh_fx1_count wc), if_pos c1]
            rfl)
      cs.length mh_fu (0, mh_up h (rr 0) (.inl (1, 3001, .inr (.inl (vp_updL (g 0) s x0)))), mh_ug g 0 s x0) (by show cs.length - 0 ≤ _; omega)
      ⟨Nat.zero_le _, hR.put hi (by omega), fun r j h1 h2 => by show mh_ug g 0 s x0 j r = _; rw [mh_ug_n (Or.inr (by omega))]; exact hg r j h1 h2, fun j hj => by have hj : j ≤ 0 := hj; show mh_ug g 0 s x0 j s = _; rw [show j = 0 by omega, mh_ug_s, hx0], mh_fr.up (mh_rw_in (by omega))⟩ (mh_fuel _ (by omega))
    obtain ⟨r, r1, r2⟩ := key
    have r2 : f_X10_reckon_b19 mh_fu o (nI s) (nI 0) _ = _ := r2
    rw [nI_0] at r2
    exact ⟨r, r1, r2⟩
  have e0 : mh_aR h wv 6 (nI 0) = some (rr 0) := mh_aR_eq hO (show 0 < 13 by omega) (by omega) rfl
  rw [nI_0] at e0
  unfold f_X10_reckon_e
  rw [mh_gR_eq (k := 1) ho rfl, Option.bind_some, e0, Option.bind_some]
  by_cases hz : s = 0
  · obtain ⟨r, ⟨r1, r2, r3⟩, r4⟩ := main 1 (by rw [mh_wy_0, if_pos hz]; rfl)
    rw [if_pos (by rw [hz]; rfl)]
    exact ⟨r.1, r.2, r4, r1, r2, r3⟩
  · obtain ⟨r, ⟨r1, r2, r3⟩, r4⟩ := main 0 (by rw [mh_wy_0, if_neg hz]; rfl)
    rw [if_neg (nI_ne0 (by omega) (by omega))]
    exact ⟨r.1, r.2, r4, r1, r2, r3⟩
/-- WaysTable as an object -/
def mh_Wy (h : mh_H) (o a u wv : Nat) (rr : Nat → Nat) (cs : List Nat) : Prop :=
  ∃ (fc : Nat → Int32) (g : Nat → Nat → Int64) (kp : Nat), h o = some (.inr (10, [.ref a, .ref wv, .int (nI kp - 1)])) ∧ mh_Co h a u fc cs ∧ mh_Oy h wv rr ∧ mh_Ry h rr g ∧ mh_ms cs ∧ kp ≤ 3001 ∧ ∀ r j, r < kp → j ≤ cs.length → g j r = lN (mh_wy cs j r)
theorem mh_pred_le {a b : Nat} (ha : a < 2 ^ 31) (hb : b < 2 ^ 31) : nI a ≤ nI b - 1 ↔ a < b := by
  cases b with
  | zero =>
    constructor
    · intro q
      rw [Int32.le_iff_toInt_le, nI_toInt ha] at q
      have q : (a : Int) ≤ -1 := q
      omega
    · intro q; omega
  | succ b => rw [nI_pred, nI_leI ha (by omega)]; omega
theorem mh_fx10_countBy (hi : mh_Inj rr 13) (hW : mh_Wy h o a u wv rr cs) {j s : Nat} (hj : j ≤ cs.length) (hs : s ≤ 3000) : ∃ h', f_X10_countBy_e o (nI j) (nI s) h = some (lN (mh_wy cs j s), h') ∧ mh_Wy h' o a u wv rr cs ∧ mh_fr (o :: mh_rw rr) h h' := by
  have hl : cs.length ≤ 12 := by obtain ⟨_, _, _, _, _, _, _, ms, _⟩ := hW; exact ms.1.1
  have key := mh_wh (fun n (q : Nat × mh_H) => f_X10_countBy_b23 n o (nI j) (nI s) q.2) (fun (q : mh_H) => some (lN (mh_wy cs j s), q))
    (fun q => (∃ (fc : Nat → Int32) (g : Nat → Nat → Int64), q.2 o = some (.inr (10, [.ref a, .ref wv, .int (nI q.1 - 1)])) ∧ mh_Co q.2 a u fc cs ∧ mh_Oy q.2 wv rr ∧ mh_Ry q.2 rr g ∧ mh_ms cs ∧ q.1 ≤ 3001 ∧ ∀ r j, r < q.1 → j ≤ cs.length → g j r = lN (mh_wy cs j r)) ∧ mh_fr (o :: mh_rw rr) h q.2) (fun q => s + 1 - q.1)
    (fun q => mh_Wy q o a u wv rr cs ∧ mh_fr (o :: mh_rw rr) h q)
    (fun n q hq => by
      obtain ⟨kp, h1⟩ := q
      obtain ⟨⟨fc, g, q1, q2, q3, q4, q5, q6, q7⟩, q8⟩ := hq
      have q1 : h1 o = some (.inr (10, [.ref a, .ref wv, .int (nI kp - 1)])) := q1
      have q2 : mh_Co h1 a u fc cs := q2
      have q3 : mh_Oy h1 wv rr := q3
      have q4 : mh_Ry h1 rr g := q4
      have q6 : kp ≤ 3001 := q6
      have q7 : ∀ r j, r < kp → j ≤ cs.length → g j r = lN (mh_wy cs j r) := q7
      have q8 : mh_fr (o :: mh_rw rr) h h1 := q8
      show (∃ s', _ ∧ _ ∧ f_X10_countBy_b23 (n + 1) o (nI j) (nI s) h1 = _) ∨ ∃ r, _ ∧ f_X10_countBy_b23 (n + 1) o (nI j) (nI s) h1 = _
      have no : ∀ j, j < 13 → o ≠ rr j := fun j hj => mh_apt q1 (q4 j hj) (fun q => by cases q)
      have noa : a ≠ o := mh_apt q2.1 q1 (fun q => by cases q)
      have nou : u ≠ o := mh_apt q2.2.1 q1 (fun q => by cases q)
      have now : wv ≠ o := mh_apt q3 q1 (fun q => by cases q)
      by_cases hk : s < kp
      · right
        refine ⟨h1, ⟨⟨fc, g, kp, q1, q2, q3, q4, q5, q6, q7⟩, q8⟩, ?_⟩
        rw [f_X10_countBy_b23, mh_gI_eq (k := 2) q1 rfl, Option.bind_some, if_pos ((mh_pred_le (by omega) (by omega)).mpr hk)]
        unfold f_X10_countBy_b52
        rw [mh_gR_eq (k := 1) q1 rfl, Option.bind_some, mh_aR_eq q3 (show j < 13 by omega) (by omega) rfl, Option.bind_some, mh_aJ_eq (q4 j (by omega)) (by omega) (by omega), Option.bind_some, q7 s j hk hj]
      · left
        have ek : nI kp - 1 + (1 : Int32) = nI kp := Int32.sub_add_cancel _ _
        have w1 : (mh_up h1 o (.inr (10, [.ref a, .ref wv, .int (nI kp)]))) o = some (.inr (10, [.ref a, .ref wv, .int (nI kp)])) := mh_up_eq _ _ _
        have w2 : mh_Co (mh_up h1 o (.inr (10, [.ref a, .ref wv, .int (nI kp)]))) a u fc cs := q2.keep (mh_up_ne noa) (mh_up_ne nou)
        have w3 : mh_Oy (mh_up h1 o (.inr (10, [.ref a, .ref wv, .int (nI kp)]))) wv rr := (mh_up_ne now).trans q3
        have w4 : mh_Ry (mh_up h1 o (.inr (10, [.ref a, .ref wv, .int (nI kp)]))) rr g := fun j hj => (mh_up_ne (no j hj).symm).trans (q4 j hj)
        obtain ⟨h2, g2, y1, y2, y3, y4⟩ := mh_fx10_reckon w1 w2 w3 w4 hi q5.1 (s := kp) (by omega) q7
        have na : ∀ j, j < 13 → a ≠ rr j := fun j hj => mh_apt q2.1 (q4 j hj) (fun q => by cases q)
        have nu : ∀ j, j < 13 → u ≠ rr j := fun j hj => mh_apt q2.2.1 (q4 j hj) (fun q => by cases q)
        have nw : ∀ j, j < 13 → wv ≠ rr j := fun j hj => mh_apt q3 (q4 j hj) (fun q => by cases q)
        have ek2 : nI (kp + 1) - 1 = nI kp := nI_pred kp
        refine ⟨(kp + 1, h2), ⟨⟨fc, g2, ?_, w2.keep (y4 a (mh_rw_ni na)) (y4 u (mh_rw_ni nu)), (y4 wv (mh_rw_ni nw)).trans w3, y2, q5, by show kp + 1 ≤ 3001; omega, y3⟩, q8.trans ((mh_fr.up List.mem_cons_self).trans (y4.sub (fun x hx => List.mem_cons_of_mem _ hx)))⟩, by show s + 1 - (kp + 1) < s + 1 - kp; omega, ?_⟩
        · show h2 o = some (.inr (10, [.ref a, .ref wv, .int (nI (kp + 1) - 1)]))
          rw [ek2, y4 o (mh_rw_ni no)]
          exact w1
        · rw [f_X10_countBy_b23, mh_gI_eq (k := 2) q1 rfl, Option.bind_some, if_neg (fun q => hk ((mh_pred_le (by omega) (by omega)).mp q)), Option.bind_some, ek, mh_pI_s [.ref a, .ref wv, .int (nI kp)] q1 ⟨Nat.le_of_ble_eq_true rfl, rfl⟩, Option.bind_some, mh_gI_eq (k := 2) w1 rfl, Option.bind_some, mh_cal_eq w1, y1, Option.bind_some])
  obtain ⟨fc, g, kp, r1, r2, r3, r4, r5, r6, r7⟩ := hW
  obtain ⟨h', ⟨z1, z2⟩, z3⟩ := key 3001 mh_fu (kp, h) (by show s + 1 - kp ≤ 3001; omega) ⟨⟨fc, g, r1, r2, r3, r4, r5, r6, r7⟩, mh_fr.rfl⟩ (mh_fuel _ (by omega))
  refine ⟨h', ?_, z1, z2⟩
  unfold f_X10_countBy_e
  rw [if_neg (nI_pos (by omega)), if_neg (fun q => absurd ((mh_ltl (a := 3000) 3000 rfl (by omega) (by omega)).mp q) (by omega)), if_neg (nI_pos (by omega)), if_pos ((mh_ler (b := 12) 12 rfl (by omega) (by omega)).mpr (by omega))]
  exact z3
theorem mh_fx10_count (hi : mh_Inj rr 13) (hW : mh_Wy h o a u wv rr cs) {s : Nat} (hs : s ≤ 3000) : ∃ h', f_X10_count_e o (nI s) h = some (lN (mh_wy cs cs.length s), h') ∧ mh_Wy h' o a u wv rr cs ∧ mh_fr (o :: mh_rw rr) h h' := by
  obtain ⟨h', e1, e2, e3⟩ := mh_fx10_countBy hi hW (Nat.le_refl cs.length) hs
  obtain ⟨fc, g, kp, r1, r2, r3, r4, r5, r6, r7⟩ := hW
  refine ⟨h', ?_, e2, e3⟩
  unfold f_X10_count_e
  rw [mh_gR_eq (k := 0) r1 rfl, Option.bind_some, mh_cal_eq r2.1, mh_b2_eq (mh_fx1_count r2), mh_cal_eq r1, mh_b2_eq e1]
theorem mh_fx10_take {a1 u1 : Nat} {f1 : Nat → Int32} {c1 : List Nat} (hW : mh_Wy h o a u wv rr cs) (hc1 : mh_Co h a1 u1 f1 c1) (hm1 : mh_ms c1) (na : a1 ≠ a) (nu : u1 ≠ u) :
    ∃ h', f_X10_take_e o a1 h = some h' ∧ mh_Wy h' o a u wv rr c1 ∧ mh_fr [o, a, u] h h' := by
  obtain ⟨fc, g, kp, r1, r2, r3, r4, r5, r6, r7⟩ := hW
  have g0 : mh_gR h o 10 0 = some a := mh_gR_eq r1 rfl
  have hal := mh_fx1_alike r2 hc1 (fun i => by have := r5.1.le i; omega) (fun i => by have := hm1.1.le i; omega)
  unfold f_X10_take_e
  rw [g0, Option.bind_some, mh_cal_eq r2.1, mh_b2_eq hal]
  by_cases he : cs = c1
  · rw [if_pos he, if_neg (by decide)]
    rw [he] at r2 r5 r7
    exact ⟨h, rfl, ⟨fc, g, kp, r1, r2, r3, r4, r5, r6, r7⟩, mh_fr.rfl⟩
  · rw [if_neg he, if_pos rfl]
    have n1 : o ≠ a := mh_apt r1 r2.1 (fun q => by cases q)
    have n2 : o ≠ u := mh_apt r1 r2.2.1 (fun q => by cases q)
    have n3 : wv ≠ a := mh_apt r3 r2.1 (fun q => by cases q)
    have n4 : wv ≠ u := mh_apt r3 r2.2.1 (fun q => by cases q)
    have n5 : ∀ j, j < 13 → rr j ≠ a := fun j hj => mh_apt (r4 j hj) r2.1 (fun q => by cases q)
    have n6 : ∀ j, j < 13 → rr j ≠ u := fun j hj => mh_apt (r4 j hj) r2.2.1 (fun q => by cases q)
    have n9 : a1 ≠ u := mh_apt hc1.1 r2.2.1 (fun q => by cases q)
    have n10 : u1 ≠ a := mh_apt hc1.2.1 r2.1 (fun q => by cases q)
    have n11 : wv ≠ o := mh_apt r3 r1 (fun q => by cases q)
    have n12 : ∀ j, j < 13 → rr j ≠ o := fun j hj => mh_apt (r4 j hj) r1 (fun q => by cases q)
    obtain ⟨f', e1, e2⟩ := mh_fx1_copy r2 hc1 r2.ne n9 nu na n10
    rw [g0, Option.bind_some, mh_cal_eq r2.1, e1, Option.bind_some]
    have k1 : (mh_up (mh_up h a (.inr (1, [.ref u, .int (nI c1.length)]))) u (.inl (0, 12, .inl f'))) o = some (.inr (10, [.ref a, .ref wv, .int (nI kp - 1)])) := by rw [mh_up_ne n2, mh_up_ne n1]; exact r1
    rw [mh_pI_s [.ref a, .ref wv, .int (-1)] k1 ⟨Nat.le_of_ble_eq_true rfl, rfl⟩, Option.bind_some]
    refine ⟨_, rfl, ⟨f', g, 0, mh_up_eq _ _ _, e2.keep (mh_up_ne n1.symm) (mh_up_ne n2.symm), ?_, fun j hj => ?_, hm1, by omega, fun r j hr => absurd hr (Nat.not_lt_zero r)⟩, ?_⟩
    · unfold mh_Oy
      rw [mh_up_ne n11, mh_up_ne n4, mh_up_ne n3]; exact r3
    · rw [mh_up_ne (n12 j hj), mh_up_ne (n6 j hj), mh_up_ne (n5 j hj)]; exact r4 j hj
    · exact ((mh_fr.up (by simp)).trans (mh_fr.up (by simp))).trans (mh_fr.up (by simp))
end MhWays
