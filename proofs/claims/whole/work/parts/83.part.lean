theorem mh_ls_py2 {m : Nat} {cs : List Nat} {w : Nat → Nat} (hE : mh_Ex m cs (fun x => x) w) (hm : mh_py cs m) (h0 : 0 < m) {s : Nat} : (w (s % m) ≠ mh_INF ∧ w (s % m) ≤ s) ↔ mh_py cs s := by
  constructor
  · intro ⟨h', h⟩
    obtain ⟨l, h1, h2, h3⟩ := hE.1 _ (Nat.mod_lt s h0) h'
    rw [mh_idm] at h3
    have hq := Nat.sub_mod_eq_zero_of_mod_eq (show s % m = l.sum % m by rw [h2])
    obtain ⟨k, hk⟩ := Nat.dvd_of_mod_eq_zero hq
    have e : s = l.sum + k * m := by rw [Nat.mul_comm]; omega
    rw [e]
    exact mh_py_add ⟨_, l, h1, rfl, rfl⟩ (mh_py_mul hm k)
  · intro ⟨n, l, h1, h2, h3⟩
    have := hE.2 l h1
    rw [mh_idm, h2] at this
    exact ⟨this.2, this.1⟩
theorem mh_py_sub {cs L : List Nat} (hL : ∀ x, x ∈ L → mh_py cs x) {s : Nat} (h : mh_py L s) : mh_py cs s := by
  obtain ⟨n, l, h1, h2, h3⟩ := h
  rw [← h2]
  clear h2 h3
  induction l with
  | nil => exact mh_py0 cs
  | cons x l ih =>
    rw [List.sum_cons]
    exact mh_py_add (hL x (h1 x List.mem_cons_self)) (ih (fun y hy => h1 y (List.mem_cons_of_mem x hy)))
/-- what the modulus tells -/
theorem mh_common {m : Nat} {a b L : List Nat} {w1 w2 w3 : Nat → Nat} (E1 : mh_Ex m a (fun x => x) w1) (E2 : mh_Ex m b (fun x => x) w2) (E3 : mh_Ex m L (fun x => x) w3) (h0 : 0 < m) (m3 : m ≤ 300) (b1 : ∀ x, x ∈ a → x ≤ 300) (b2 : ∀ x, x ∈ b → x ≤ 300) (hL : ∀ x, x ∈ L → mh_both a b x) (hm : mh_py L m) : (∀ r, r < m → w3 r = max (w1 r) (w2 r)) ↔ ∀ s, mh_both a b s → mh_py L s := by
  have s1 : ∀ {s}, mh_py L s → mh_py a s := fun q => mh_py_sub (fun x hx => (hL x hx).1) q
  have s2 : ∀ {s}, mh_py L s → mh_py b s := fun q => mh_py_sub (fun x hx => (hL x hx).2) q
  have p1 := s1 hm
  have p2 := s2 hm
  have hI : mh_INF = 2147483647 := rfl
  constructor
  · intro h s hs
    have q1 := (mh_ls_py2 E1 p1 h0).mpr hs.1
    have q2 := (mh_ls_py2 E2 p2 h0).mpr hs.2
    refine (mh_ls_py2 E3 hm h0).mp ?_
    rw [h _ (Nat.mod_lt s h0)]
    omega
  · intro h r hr
    have v1 : w1 r ≠ mh_INF → w1 r ≤ 89700 := mh_ls_b E1 h0 m3 b1 hr
    have v2 : w2 r ≠ mh_INF → w2 r ≤ 89700 := mh_ls_b E2 h0 m3 b2 hr
    by_cases c3 : w3 r = mh_INF
    · by_cases c : w1 r ≠ mh_INF ∧ w2 r ≠ mh_INF
      · exfalso
        have u1 := (mh_ls_w E1 hr).resolve_left c.1
        have u2 := (mh_ls_w E2 hr).resolve_left c.2
        have hmod : max (w1 r) (w2 r) % m = r := by
          by_cases k : w1 r ≤ w2 r
          · rw [Nat.max_eq_right k]; exact u2
          · rw [Nat.max_eq_left (by omega)]; exact u1
        have hb : mh_both a b (max (w1 r) (w2 r)) := ⟨(mh_ls_py2 E1 p1 h0).mp (by rw [hmod]; exact ⟨c.1, Nat.le_max_left _ _⟩), (mh_ls_py2 E2 p2 h0).mp (by rw [hmod]; exact ⟨c.2, Nat.le_max_right _ _⟩)⟩
        have := (mh_ls_py2 E3 hm h0).mpr (h _ hb)
        rw [hmod] at this
        exact this.1 c3
      · omega
    · have u3 := (mh_ls_w E3 hr).resolve_left c3
      have hl : mh_py L (w3 r) := (mh_ls_py2 E3 hm h0).mp (by rw [u3]; exact ⟨c3, Nat.le_refl _⟩)
      have q1 := (mh_ls_py2 E1 p1 h0).mpr (s1 hl)
      have q2 := (mh_ls_py2 E2 p2 h0).mpr (s2 hl)
      rw [u3] at q1 q2
      have u1 := (mh_ls_w E1 hr).resolve_left q1.1
      have u2 := (mh_ls_w E2 hr).resolve_left q2.1
      have hmod : max (w1 r) (w2 r) % m = r := by
        by_cases k : w1 r ≤ w2 r
        · rw [Nat.max_eq_right k]; exact u2
        · rw [Nat.max_eq_left (by omega)]; exact u1
      have hb : mh_both a b (max (w1 r) (w2 r)) := ⟨(mh_ls_py2 E1 p1 h0).mp (by rw [hmod]; exact ⟨q1.1, Nat.le_max_left _ _⟩), (mh_ls_py2 E2 p2 h0).mp (by rw [hmod]; exact ⟨q2.1, Nat.le_max_right _ _⟩)⟩
      have := (mh_ls_py2 E3 hm h0).mpr (h _ hb)
      rw [hmod] at this
      omega
section MhPart
variable {h : mh_H} {ad : Nat → Nat} {σ : mh_Sg}
theorem mh_lsB3 : mh_lsB 3 1020 := Or.inr (Or.inl ⟨rfl, rfl⟩)
theorem mh_lsB4 : mh_lsB 4 1023 := Or.inr (Or.inr ⟨rfl, rfl⟩)
theorem mh_CI.lso (hC : mh_CI h ad σ) {i B : Nat} (hB : mh_lsB i B) : h (ad B) = some (.inr (4, [.ref (ad (B + 1))])) := by
  obtain ⟨x, fx, l1, l2, l3⟩ := hC.ls hB
  exact l1
/-- what a take of least sums leaves -/
theorem mh_lsk (hI : mh_Inj ad 1290) {h' : mh_H} {B : Nat} (hB : B + 2 < 1290) (hf : mh_fr [ad (B + 1), ad (B + 2)] h h') {k : Nat} (hk : k < 1290) (h1 : k ≠ B + 1) (h2 : k ≠ B + 2) : h' (ad k) = h (ad k) :=
  hf _ (by simp [hI.ne hk (show B + 1 < 1290 by omega) h1, hI.ne hk (show B + 2 < 1290 by omega) h2])
theorem mh_LS.keepE {h' : mh_H} {o k v m : Nat} {f : Nat → Int32} {w : Nat → Nat} (hL : mh_LS h o k v m f w) (e1 : h' o = h o) (e2 : h' k = h k) (e3 : h' v = h v) : mh_LS h' o k v m f w := ⟨e1.trans hL.1, hL.2.keep e2 e3⟩
theorem mh_x_offerCommon (hC : mh_CI h ad σ) (hN : mh_Nf h ad (fun _ => False)) {a b : Nat} (ha : a < 8) (hb : b < 8) (ne1 : mh_mi σ a ≠ []) (ne2 : mh_mi σ b ≠ []) : ∃ h' , f_X11_offerCommon_e (ad 1289) (ad (6 * (σ.1.1 * 8 + a))) (ad (6 * (σ.1.1 * 8 + b))) h = some h' ∧ mh_CI h' ad σ ∧ mh_frC ad h h' ∧ mh_Nf h' ad (mh_of1 (mh_both (mh_mi σ a) (mh_mi σ b)) 301) := by
  obtain ⟨fa, ca⟩ := mh_x_mint hC ha
  have ms1 := mh_x_ms hC ha
  have ms2 := mh_x_ms hC hb
  have g1 : 1 ≤ (mh_mi σ a).getD 0 0 ∧ (mh_mi σ a).getD 0 0 ≤ 300 := ms1.1.get (List.length_pos_iff.mpr ne1)
  have g2 : 1 ≤ (mh_mi σ b).getD 0 0 ∧ (mh_mi σ b).getD 0 0 ≤ 300 := ms2.1.get (List.length_pos_iff.mpr ne2)
  have ca : mh_Co h (ad (6 * (σ.1.1 * 8 + a))) (ad (6 * (σ.1.1 * 8 + a) + 1)) fa (mh_mi σ a) := ca
  obtain ⟨h1, f1, w1, t1, t2, t3, t4, t5, t6⟩ := mh_x_lsT hC mh_lsB2 ca ms1.1 g1.1 g1.2
  obtain ⟨fb, cb⟩ := mh_x_mint t4 hb
  have cb : mh_Co h1 (ad (6 * (σ.1.1 * 8 + b))) (ad (6 * (σ.1.1 * 8 + b) + 1)) fb (mh_mi σ b) := cb
  obtain ⟨h2, f2, w2, u1, u2, u3, u4, u5, u6⟩ := mh_x_lsT t4 mh_lsB3 cb ms2.1 g2.1 g2.2
  have I := hC.1
  have hN2 : mh_Nf h2 ad (fun _ => False) := hN.keep (fun k k1 k2 => (mh_lsk I (by omega) u6 (by omega) (by omega) (by omega)).trans (mh_lsk I (by omega) t6 (by omega) (by omega) (by omega)))
  have L1 : mh_LS h2 (ad 1017) (ad 1018) (ad 1019) ((mh_mi σ a).getD 0 0) f1 w1 := t2.keepE (mh_lsk I (by omega) u6 (by omega) (by omega) (by omega)) (mh_lsk I (by omega) u6 (by omega) (by omega) (by omega)) (mh_lsk I (by omega) u6 (by omega) (by omega) (by omega))
  unfold f_X11_offerCommon_e
  rw [mh_gR_eq (k := 2) hC.ob rfl, Option.bind_some, mh_cal_eq ca.1, mh_b2_eq (mh_fx1_least ca), mh_cal_eq (hC.lso mh_lsB2), t1, Option.bind_some, mh_gR_eq (k := 3) t4.ob rfl, Option.bind_some, mh_cal_eq cb.1, mh_b2_eq (mh_fx1_least cb), mh_cal_eq (t4.lso mh_lsB3), u1, Option.bind_some, mh_nm_eq]
  have hI : mh_INF = 2147483647 := rfl
  have key := mh_wh (fun n (s : Nat × mh_H) => f_X11_offerCommon_b26 n (ad 1289) (nI s.1) s.2) (fun (r : mh_H) => some r) (fun s => 1 ≤ s.1 ∧ s.1 ≤ 301 ∧ mh_CI s.2 ad σ ∧ mh_frC ad h2 s.2 ∧ mh_fr [ad 1027] h2 s.2 ∧ mh_Nf s.2 ad (mh_of1 (mh_both (mh_mi σ a) (mh_mi σ b)) s.1)) (fun s => 301 - s.1) (fun r => mh_CI r ad σ ∧ mh_frC ad h2 r ∧ mh_Nf r ad (mh_of1 (mh_both (mh_mi σ a) (mh_mi σ b)) 301))
    (fun n s hs => by
      obtain ⟨s, hh⟩ := s
      obtain ⟨q1, q2, q3, q4, q5, q6⟩ := hs
      have q1 : 1 ≤ s := q1
      have q2 : s ≤ 301 := q2
      have q3 : mh_CI hh ad σ := q3
      have q4 : mh_frC ad h2 hh := q4
      have q5 : mh_fr [ad 1027] h2 hh := q5
      have q6 : mh_Nf hh ad (mh_of1 (mh_both (mh_mi σ a) (mh_mi σ b)) s) := q6
      show (∃ s', _ ∧ _ ∧ f_X11_offerCommon_b26 (n + 1) (ad 1289) (nI s) hh = _) ∨ ∃ r, _ ∧ f_X11_offerCommon_b26 (n + 1) (ad 1289) (nI s) hh = _
      by_cases hlt : s ≤ 300
      · left
        have hL1 := L1.keepC hC.1 (by omega) q5
        have hL2 := u2.keepC hC.1 (by omega) q5
        have r1 := mh_fx4_reaches hL1 (s := s) (by omega)
        have r2 := mh_fx4_reaches hL2 (s := s) (by omega)
        have i1 : w1 (s % (mh_mi σ a).getD 0 0) ≤ s ↔ mh_py (mh_mi σ a) s := mh_ls_py t3 (mh_py_least ne1) g1.1 (by omega)
        have i2 : w2 (s % (mh_mi σ b).getD 0 0) ≤ s ↔ mh_py (mh_mi σ b) s := mh_ls_py u3 (mh_py_least ne2) g2.1 (by omega)
        rw [f_X11_offerCommon_b26, if_neg (fun q => absurd ((mh_ltl (a := 300) 300 rfl (by omega) (by omega)).mp q) (by omega)), mh_gR_eq (k := 2) q3.ob rfl, Option.bind_some, mh_cal_eq hL1.1, mh_b2_eq r1]
        have no : ¬ mh_both (mh_mi σ a) (mh_mi σ b) s → f_X11_offerCommon_b63 (f_X11_offerCommon_b26 n) (ad 1289) (nI s) hh = f_X11_offerCommon_b26 n (ad 1289) (nI (s + 1)) hh := fun _ => by
          unfold f_X11_offerCommon_b63
          rw [mh_nm_eq, mh_inc]
        have ok : ¬ mh_both (mh_mi σ a) (mh_mi σ b) s → mh_Nf hh ad (mh_of1 (mh_both (mh_mi σ a) (mh_mi σ b)) (s + 1)) := fun hc => q6.iff (fun j _ => mh_of1_no hc j)
        by_cases c1 : mh_py (mh_mi σ a) s
        · rw [if_neg (fun q => absurd ((mh_bz0 _).mp q) (by rw [decide_eq_true (i1.mpr c1)]; decide)), mh_gR_eq (k := 3) q3.ob rfl, Option.bind_some, mh_cal_eq hL2.1, mh_b2_eq r2]
          by_cases c2 : mh_py (mh_mi σ b) s
          · obtain ⟨h3, o1, o2, o3, o4, o5⟩ := mh_x_offer q3 q6 q1 hlt
            refine ⟨(s + 1, h3), ⟨by show 1 ≤ s + 1; omega, by show s + 1 ≤ 301; omega, o3, q4.trans o4, q5.trans o5, o2.iff (fun j _ => mh_of1_yes q1 ⟨c1, c2⟩ j)⟩, by show 301 - (s + 1) < 301 - s; omega, ?_⟩
            rw [if_neg (fun q => absurd ((mh_bz0 _).mp q) (by rw [decide_eq_true (i2.mpr c2)]; decide)), mh_gR_eq (k := 5) q3.ob rfl, Option.bind_some, mh_cal_eq q3.needs, o1, Option.bind_some]
            unfold f_X11_offerCommon_b63
            rw [mh_nm_eq, mh_inc]
          · have hc : ¬ mh_both (mh_mi σ a) (mh_mi σ b) s := fun q => c2 q.2
            refine ⟨(s + 1, hh), ⟨by show 1 ≤ s + 1; omega, by show s + 1 ≤ 301; omega, q3, q4, q5, ok hc⟩, by show 301 - (s + 1) < 301 - s; omega, ?_⟩
            rw [if_pos ((mh_bz0 _).mpr (decide_eq_false (fun q => c2 (i2.mp q)))), no hc]
        · have hc : ¬ mh_both (mh_mi σ a) (mh_mi σ b) s := fun q => c1 q.1
          refine ⟨(s + 1, hh), ⟨by show 1 ≤ s + 1; omega, by show s + 1 ≤ 301; omega, q3, q4, q5, ok hc⟩, by show 301 - (s + 1) < 301 - s; omega, ?_⟩
          rw [if_pos ((mh_bz0 _).mpr (decide_eq_false (fun q => c1 (i1.mp q)))), no hc]
      · right
        have e : s = 301 := by omega
        subst e
        exact ⟨hh, ⟨q3, q4, q6⟩, by rw [f_X11_offerCommon_b26, if_pos ((mh_ltl (a := 300) 300 rfl (by omega) (by omega)).mpr (by omega))]; rfl⟩)
    300 mh_fu (1, h2) (Nat.le_refl _) ⟨Nat.le_refl _, by show 1 ≤ 301; omega, u4, mh_frC.rfl, mh_fr.rfl, hN2.iff (fun j _ => ⟨False.elim, fun q => by have := q.1; have := q.2.1; omega⟩)⟩ (mh_fuel _ (by omega))
  obtain ⟨h3, ⟨z1, z2, z3⟩, z4⟩ := key
  exact ⟨h3, z4, z1, t5.trans (u5.trans z2), z3⟩
end MhPart
