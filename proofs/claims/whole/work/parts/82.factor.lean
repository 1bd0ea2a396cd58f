theorem mh_Nf.iff {h : mh_H} {ad : Nat → Nat} {P Q : Nat → Prop} (hN : mh_Nf h ad P) (e : ∀ j, j < 301 → (P j ↔ Q j)) : mh_Nf h ad Q := by
  obtain ⟨fo, fb, fk, ck, n1, n2, n3, n4, n5⟩ := hN
  exact ⟨fo, fb, fk, ck, n1, n2, n3, n4, fun j hj => (n5 j hj).iff (e j hj)⟩
/-- offered so far -/
def mh_of1 (Q : Nat → Prop) (s j : Nat) : Prop := 1 ≤ j ∧ j < s ∧ Q j
theorem mh_of1_no {Q : Nat → Prop} {s : Nat} (h : ¬ Q s) (j : Nat) : mh_of1 Q s j ↔ mh_of1 Q (s + 1) j :=
  ⟨fun q => ⟨q.1, by have := q.2.1; omega, q.2.2⟩, fun q => ⟨q.1, by have := q.2.1; have : j ≠ s := fun e => h (e ▸ q.2.2); omega, q.2.2⟩⟩
theorem mh_of1_yes {Q : Nat → Prop} {s : Nat} (h1 : 1 ≤ s) (h : Q s) (j : Nat) : mh_of1 Q s j ∨ j = s ↔ mh_of1 Q (s + 1) j := by
  constructor
  · intro q
    rcases q with q | q
    · exact ⟨q.1, by have := q.2.1; omega, q.2.2⟩
    · subst q; exact ⟨h1, by omega, h⟩
  · intro q
    by_cases e : j = s
    · exact Or.inr e
    · exact Or.inl ⟨q.1, by have := q.2.1; omega, q.2.2⟩
theorem mh_pk_of1 {Q : Nat → Prop} : mh_pk (mh_of1 Q 301) 300 = mh_pk Q 300 := mh_pk_congr 300 (fun x x1 x2 => ⟨fun q => q.2.2, fun q => ⟨x1, by omega, q⟩⟩)
theorem mh_py_least {cs : List Nat} (h : cs ≠ []) : mh_py cs (cs.getD 0 0) := by
  cases cs with
  | nil => exact absurd rfl h
  | cons c cs => exact mh_py_c (show c ∈ c :: cs from List.mem_cons_self)
section MhFac
variable {h : mh_H} {ad : Nat → Nat} {σ : mh_Sg}
theorem mh_CI.needs (hC : mh_CI h ad σ) : h (ad 1026) = some (mh_Ns (ad 1027) (ad 1028) (ad 1029)) := by
  obtain ⟨fo, fb, fk, ck, n1, _⟩ := hC.2 5 (by omega)
  exact n1
theorem mh_LS.keepC (hI : mh_Inj ad 1290) {h' : mh_H} {B m : Nat} {f : Nat → Int32} {w : Nat → Nat} (hL : mh_LS h (ad B) (ad (B + 1)) (ad (B + 2)) m f w) (hB : B + 2 < 1026) (hf : mh_fr [ad 1027] h h') : mh_LS h' (ad B) (ad (B + 1)) (ad (B + 2)) m f w := by
  have k : ∀ x, x < 1026 → h' (ad x) = h (ad x) := fun x hx => hf _ (by simp [hI.ne (show x < 1290 by omega) (show 1027 < 1290 by omega) (by omega)])
  exact ⟨(k _ (by omega)).trans hL.1, hL.2.keep (k _ (by omega)) (k _ (by omega))⟩
/-- the mint becomes what was offered -/
theorem mh_x_b104 (hC : mh_CI h ad σ) {P : Nat → Prop} (hN : mh_Nf h ad P) {p : Nat} (hp : p < 8) : ∃ r h' σ', f_X11_factor_b104 (ad 1289) (nI p) h = some (r, h') ∧ mh_Sbec σ p ((mh_pk P 300).length ≤ 12) (mh_pk P 300) r σ' ∧ mh_CI h' ad σ' ∧ mh_frC ad h h' := by
  obtain ⟨r, h4, k1, k2, k3, k4, k5⟩ := mh_x_pick hC hN
  unfold f_X11_factor_b104
  rw [mh_gR_eq (k := 5) hC.ob rfl, Option.bind_some, mh_cal_eq hC.needs, mh_b2_eq k1]
  rcases k2 with ⟨d1, d2, f, d3⟩ | ⟨d1, d2⟩
  · obtain ⟨h5, y1, y2, y3⟩ := mh_x_become k3 hp d3 (mh_pk_ms d2) k5
    rw [d1, if_neg (by decide), mh_cal_eq k3.ob, mh_b2_eq y1]
    exact ⟨_, h5, _, rfl, Or.inl ⟨d2, rfl, rfl⟩, y2, k4.trans y3⟩
  · rw [d1, if_pos rfl]
    exact ⟨_, h4, σ, rfl, Or.inr ⟨by omega, rfl, rfl⟩, k3, k4⟩
theorem mh_K_factor (hC : mh_CI h ad σ) (x1 x2 x3 : Int32) : ∃ r h' σ', f_X11_factor_e (ad 1289) x1 x2 x3 h = some (r, h') ∧ mh_Sfac σ x1 x2 x3 r σ' ∧ mh_CI h' ad σ' ∧ mh_frC ad h h' := by
  unfold f_X11_factor_e
  rw [mh_cal_eq hC.ob]
  rcases mh_place x1 with ⟨a, a1, a2⟩ | hx
  · rcases mh_place x3 with ⟨p, p1, p2⟩ | hz
    · subst a2 p2
      rw [mh_bx_r (mh_x_mintAt hC a1), mh_cal_eq hC.ob, mh_bx_r (mh_x_mintAt hC p1)]
      rcases mh_range (x := x2) (lo := 1) (hi := 300) (a := 1) (b := 300) rfl rfl (by omega) (by omega) with ⟨r1, r2⟩ | ⟨r1, r2, r3⟩ | ⟨r1, r2, d, r3, r4, r5⟩
      · rw [if_pos r1]
        exact ⟨_, h, σ, rfl, Or.inl ⟨a, p, a1, p1, rfl, rfl, Or.inr ⟨r2, rfl, rfl⟩⟩, hC, mh_frC.rfl⟩
      · rw [if_neg r1, if_neg r2]
        exact ⟨_, h, σ, rfl, Or.inl ⟨a, p, a1, p1, rfl, rfl, Or.inr ⟨r3, rfl, rfl⟩⟩, hC, mh_frC.rfl⟩
      · subst r5
        rw [if_neg r1, if_pos r2]
        obtain ⟨h1, c1, c2, c3, c4⟩ := mh_x_clear hC
        obtain ⟨fa, ca⟩ := mh_x_mint c3 a1
        have hms := mh_x_ms hC a1
        have hl := hms.1.1
        rw [mh_gR_eq (k := 5) hC.ob rfl, Option.bind_some, mh_cal_eq hC.needs, c1, Option.bind_some, mh_cal_eq ca.1, mh_b2_eq (mh_fx1_count ca)]
        by_cases he : mh_mi σ a = []
        · have e0 : (σ.2.1.1 (σ.1.1 * 8 + a)).length = 0 := by rw [show σ.2.1.1 (σ.1.1 * 8 + a) = [] from he]; rfl
          rw [if_pos ((mh_ler (b := 0) 0 rfl (by omega) (by omega)).mpr (by omega))]
          obtain ⟨r, h', σ', z1, z2, z3, z4⟩ := mh_x_b104 c3 c2 p1
          have ep : mh_pk (fun _ => False) 300 = mh_pk (fun s => mh_py (mh_mi σ a) (d * s)) 300 := mh_pk_congr 300 (fun x q1 q2 => ⟨False.elim, fun q => by
            rw [he] at q
            have q := mh_py_nil.mp q
            have := Nat.mul_pos (show 0 < d by omega) (show 0 < x by omega)
            omega⟩)
          rw [ep] at z2
          exact ⟨r, h', σ', z1, Or.inl ⟨a, p, a1, p1, rfl, rfl, Or.inl ⟨d, r3, r4, rfl, z2⟩⟩, z3, c4.trans z4⟩
        · have hne : σ.2.1.1 (σ.1.1 * 8 + a) ≠ [] := he
          have hlp := List.length_pos_iff.mpr hne
          have hg0 := hms.1.get hlp
          rw [if_neg (fun q => absurd ((mh_ler (b := 0) 0 rfl (by omega) (by omega)).mp q) (by omega))]
          obtain ⟨h2, f2, w, t1, t2, t3, t4, t5, t6⟩ := mh_x_lsT c3 mh_lsB2 ca hms.1 hg0.1 hg0.2
          have hN2 : mh_Nf h2 ad (fun _ => False) := c2.keep (fun k k1 k2 => t6 _ (by simp [hC.1.ne (show k < 1290 by omega) (show 1018 < 1290 by omega) (by omega), hC.1.ne (show k < 1290 by omega) (show 1019 < 1290 by omega) (by omega)]))
          rw [mh_gR_eq (k := 2) c3.ob rfl, Option.bind_some, mh_cal_eq ca.1, mh_b2_eq (mh_fx1_least ca), mh_cal_eq (c3.ls mh_lsB2).choose_spec.choose_spec.1, t1, Option.bind_some, mh_nm_eq]
          have hm : mh_py (mh_mi σ a) ((mh_mi σ a).getD 0 0) := mh_py_least he
          have key := mh_wh (fun n (s : Nat × mh_H) => f_X11_factor_b67 f_X11_factor_b104 n (ad 1289) (nI d) (nI p) (nI s.1) s.2) (fun (r : mh_H) => f_X11_factor_b104 (ad 1289) (nI p) r) (fun s => 1 ≤ s.1 ∧ s.1 ≤ 301 ∧ mh_CI s.2 ad σ ∧ mh_frC ad h2 s.2 ∧ mh_fr [ad 1027] h2 s.2 ∧ mh_Nf s.2 ad (mh_of1 (fun s => mh_py (mh_mi σ a) (d * s)) s.1)) (fun s => 301 - s.1) (fun r => mh_CI r ad σ ∧ mh_frC ad h2 r ∧ mh_Nf r ad (mh_of1 (fun s => mh_py (mh_mi σ a) (d * s)) 301))
            (fun n s hs => by
              obtain ⟨s, hh⟩ := s
              obtain ⟨q1, q2, q3, q4, q5, q6⟩ := hs
              have q1 : 1 ≤ s := q1
              have q2 : s ≤ 301 := q2
              have q3 : mh_CI hh ad σ := q3
              have q4 : mh_frC ad h2 hh := q4
              have q5 : mh_fr [ad 1027] h2 hh := q5
              have q6 : mh_Nf hh ad (mh_of1 (fun s => mh_py (mh_mi σ a) (d * s)) s) := q6
              show (∃ s', _ ∧ _ ∧ f_X11_factor_b67 f_X11_factor_b104 (n + 1) (ad 1289) (nI d) (nI p) (nI s) hh = _) ∨ ∃ r, _ ∧ f_X11_factor_b67 f_X11_factor_b104 (n + 1) (ad 1289) (nI d) (nI p) (nI s) hh = _
              by_cases hlt : s ≤ 300
              · left
                have hI : mh_INF = 2147483647 := rfl
                have hds : d * s ≤ 300 * 300 := Nat.mul_le_mul r4 hlt
                have hL := t2.keepC hC.1 (by omega) q5
                have hr : f_X4_reaches_e (ad 1017) (nI (d * s)) hh = some (mh_bz (decide (w ((d * s) % (mh_mi σ a).getD 0 0) ≤ d * s)), hh) := mh_fx4_reaches hL (s := d * s) (by omega)
                have hiff : w ((d * s) % (mh_mi σ a).getD 0 0) ≤ d * s ↔ mh_py (mh_mi σ a) (d * s) := mh_ls_py t3 hm hg0.1 (by omega)
                rw [f_X11_factor_b67, if_neg (fun q => absurd ((mh_ltl (a := 300) 300 rfl (by omega) (by omega)).mp q) (by omega)), mh_gR_eq (k := 2) q3.ob rfl, Option.bind_some, mh_nI_mul, mh_cal_eq hL.1, mh_b2_eq hr]
                by_cases hc : mh_py (mh_mi σ a) (d * s)
                · obtain ⟨h3, o1, o2, o3, o4, o5⟩ := mh_x_offer q3 q6 q1 hlt
                  have o2 := o2.iff (fun j _ => mh_of1_yes (Q := fun s => mh_py (mh_mi σ a) (d * s)) q1 hc j)
                  refine ⟨(s + 1, h3), ⟨by show 1 ≤ s + 1; omega, by show s + 1 ≤ 301; omega, o3, q4.trans o4, q5.trans o5, o2⟩, by show 301 - (s + 1) < 301 - s; omega, ?_⟩
                  rw [if_neg (fun q => absurd ((mh_bz0 _).mp q) (by rw [decide_eq_true (hiff.mpr hc)]; decide)), mh_gR_eq (k := 5) q3.ob rfl, Option.bind_some, mh_cal_eq q3.needs, o1, Option.bind_some]
                  unfold f_X11_factor_b98
                  rw [mh_nm_eq, mh_inc]
                · refine ⟨(s + 1, hh), ⟨by show 1 ≤ s + 1; omega, by show s + 1 ≤ 301; omega, q3, q4, q5, q6.iff (fun j _ => mh_of1_no (Q := fun s => mh_py (mh_mi σ a) (d * s)) hc j)⟩, by show 301 - (s + 1) < 301 - s; omega, ?_⟩
                  rw [if_pos ((mh_bz0 _).mpr (decide_eq_false (fun q => hc (hiff.mp q))))]
                  unfold f_X11_factor_b98
                  rw [mh_nm_eq, mh_inc]
              · right
                have e : s = 301 := by omega
                subst e
                exact ⟨hh, ⟨q3, q4, q6⟩, by rw [f_X11_factor_b67, if_pos ((mh_ltl (a := 300) 300 rfl (by omega) (by omega)).mpr (by omega))]⟩)
            300 mh_fu (1, h2) (Nat.le_refl _) ⟨Nat.le_refl _, by show 1 ≤ 301; omega, t4, mh_frC.rfl, mh_fr.rfl, hN2.iff (fun j _ => ⟨False.elim, fun q => by have := q.1; have := q.2.1; omega⟩)⟩ (mh_fuel _ (by omega))
          obtain ⟨h3, ⟨z1, z2, z3⟩, z4⟩ := key
          have z4 : f_X11_factor_b67 f_X11_factor_b104 mh_fu (ad 1289) (nI d) (nI p) 1 h2 = f_X11_factor_b104 (ad 1289) (nI p) h3 := z4
          obtain ⟨r, h', σ', y1, y2, y3, y4⟩ := mh_x_b104 z1 z3 p1
          rw [mh_pk_of1] at y2
          exact ⟨r, h', σ', z4.trans y1, Or.inl ⟨a, p, a1, p1, rfl, rfl, Or.inl ⟨d, r3, r4, rfl, y2⟩⟩, y3, c4.trans (t5.trans (z2.trans y4))⟩
    · subst a2
      rw [mh_bx_r (mh_x_mintAt hC a1), mh_cal_eq hC.ob, mh_bx_l (mh_x_mintNo hz)]
      exact ⟨_, h, σ, rfl, Or.inr ⟨fun _ p _ hp q => hz p hp q.2, rfl, rfl⟩, hC, mh_frC.rfl⟩
  · rw [mh_bx_l (mh_x_mintNo hx)]
    exact ⟨_, h, σ, rfl, Or.inr ⟨fun a _ ha _ q => hx a ha q.1, rfl, rfl⟩, hC, mh_frC.rfl⟩
end MhFac
