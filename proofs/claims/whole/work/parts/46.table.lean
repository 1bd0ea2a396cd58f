/-! Fewest as an object: whatever it knows already is right -/
def mh_ms (cs : List Nat) : Prop := mh_mt cs ∧ cs.Pairwise (· < ·)
def mh_tp (cs : List Nat) : Nat := cs.getD (cs.length - 1) 0
def mh_wf (g c : Nat) : Nat := (g - c) * 1000 + 1
def mh_Fe (h : mh_H) (o a u t k v : Nat) (cs : List Nat) : Prop :=
  ∃ (fc ft fv : Nat → Int32) (x tn : Int32) (kn : Nat), h o = some (.inr (2, [.ref a, .ref t, .ref k, .int (nI kn), .int tn])) ∧ mh_Co h a u fc cs ∧ h t = some (.inl (0, 90000, .inl ft)) ∧ h k = some (.inr (0, [.ref v, .int x])) ∧ h v = some (.inl (0, 300, .inl fv)) ∧
    mh_ms cs ∧ kn < 90000 ∧ (∀ s, s ≤ kn → ft s = mh_sz (mh_mn cs s)) ∧ (tn = 0 ∨ (tn = 1 ∧ (cs ≠ [] → ∃ w, mh_Cl h k v (mh_tp cs) fv w ∧ mh_Ex (mh_tp cs) cs.dropLast (mh_wf (mh_tp cs)) w)))
/-- nothing but S has changed -/
def mh_fr (S : List Nat) (h h' : mh_H) : Prop := ∀ b, b ∉ S → h' b = h b
theorem mh_fr.rfl {S : List Nat} {h : mh_H} : mh_fr S h h := fun _ _ => Eq.refl _
theorem mh_fr.trans {S : List Nat} {h h' h'' : mh_H} (a : mh_fr S h h') (b : mh_fr S h' h'') : mh_fr S h h'' := fun x hx => (b x hx).trans (a x hx)
theorem mh_fr.up {S : List Nat} {h : mh_H} {a : Nat} {e : mh_E} (ha : a ∈ S) : mh_fr S h (mh_up h a e) := fun b hb => mh_up_ne (fun q => hb (q ▸ ha))
theorem mh_fr.sub {S T : List Nat} {h h' : mh_H} (a : mh_fr S h h') (hs : ∀ x, x ∈ S → x ∈ T) : mh_fr T h h' := fun b hb => a b (fun q => hb (hs b q))
theorem mh_mn0 (cs : List Nat) : mh_mn cs 0 = some 0 := mh_mn_some.mpr ⟨mh_pay0 cs, fun m _ => Nat.zero_le m⟩
theorem mh_Co.ne {h : mh_H} {a v : Nat} {f : Nat → Int32} {cs : List Nat} (hc : mh_Co h a v f cs) : a ≠ v := mh_apt hc.1 hc.2.1 (fun q => by cases q)
section MhFe
variable {h : mh_H} {o a u t k v : Nat} {cs : List Nat}
theorem mh_fx2_take {a1 u1 : Nat} {f1 : Nat → Int32} {c1 : List Nat} (hF : mh_Fe h o a u t k v cs) (hc1 : mh_Co h a1 u1 f1 c1) (hm1 : mh_ms c1) (na : a1 ≠ a) (nu : u1 ≠ u) :
    ∃ h', f_X2_take_e o a1 h = some h' ∧ mh_Fe h' o a u t k v c1 ∧ mh_fr [o, a, u] h h' := by
  obtain ⟨fc, ft, fv, x, tn, kn, r1, r2, r3, r4, r5, r6, r7, r8, r9⟩ := hF
  have g0 : mh_gR h o 2 0 = some a := mh_gR_eq r1 rfl
  have hal := mh_fx1_alike r2 hc1 (fun i => by have := r6.1.le i; omega) (fun i => by have := hm1.1.le i; omega)
  unfold f_X2_take_e
  rw [g0, Option.bind_some, mh_cal_eq r2.1, mh_b2_eq hal]
  by_cases he : cs = c1
  · rw [if_pos he, if_neg (by decide)]
    rw [he] at r2 r6 r8 r9
    exact ⟨h, rfl, ⟨fc, ft, fv, x, tn, kn, r1, r2, r3, r4, r5, r6, r7, r8, r9⟩, mh_fr.rfl⟩
  · rw [if_neg he, if_pos rfl]
    have n1 : o ≠ a := mh_apt r1 r2.1 (fun q => by cases q)
    have n2 : o ≠ u := mh_apt r1 r2.2.1 (fun q => by cases q)
    have n3 : t ≠ a := mh_apt r3 r2.1 (fun q => by cases q)
    have n4 : t ≠ u := mh_apt r3 r2.2.1 (fun q => by cases q)
    have n5 : k ≠ a := mh_apt r4 r2.1 (fun q => by cases q)
    have n6 : k ≠ u := mh_apt r4 r2.2.1 (fun q => by cases q)
    have n7 : v ≠ a := mh_apt r5 r2.1 (fun q => by cases q)
    have n8 : v ≠ u := mh_apt r5 r2.2.1 (fun q => by cases q)
    have n9 : a1 ≠ u := mh_apt hc1.1 r2.2.1 (fun q => by cases q)
    have n10 : u1 ≠ a := mh_apt hc1.2.1 r2.1 (fun q => by cases q)
    have n11 : t ≠ o := mh_apt r3 r1 (fun q => by cases q)
    have n12 : k ≠ o := mh_apt r4 r1 (fun q => by cases q)
    have n13 : v ≠ o := mh_apt r5 r1 (fun q => by cases q)
    obtain ⟨f', e1, e2⟩ := mh_fx1_copy r2 hc1 r2.ne n9 nu na n10
    rw [g0, Option.bind_some, mh_cal_eq r2.1, e1, Option.bind_some]
    have k1 : (mh_up (mh_up h a (.inr (1, [.ref u, .int (nI c1.length)]))) u (.inl (0, 12, .inl f'))) o = some (.inr (2, [.ref a, .ref t, .ref k, .int (nI kn), .int tn])) := by rw [mh_up_ne n2, mh_up_ne n1]; exact r1
    rw [mh_pI_s [.ref a, .ref t, .ref k, .int 0, .int tn] k1 ⟨Nat.le_of_ble_eq_true rfl, rfl⟩, Option.bind_some, mh_pZ, if_pos (Or.inl rfl), mh_pI_s [.ref a, .ref t, .ref k, .int 0, .int 0] (mh_up_eq _ _ _) ⟨Nat.le_of_ble_eq_true rfl, rfl⟩, Option.bind_some, mh_up_up]
    refine ⟨_, rfl, ⟨f', ft, fv, x, 0, 0, mh_up_eq _ _ _, e2.keep (mh_up_ne n1.symm) (mh_up_ne n2.symm), ?_, ?_, ?_, hm1, by omega, fun s hs => ?_, Or.inl rfl⟩, ?_⟩
    · rw [mh_up_ne n11, mh_up_ne n4, mh_up_ne n3]; exact r3
    · rw [mh_up_ne n12, mh_up_ne n6, mh_up_ne n5]; exact r4
    · rw [mh_up_ne n13, mh_up_ne n8, mh_up_ne n7]; exact r5
    · have e : s = 0 := by omega
      rw [e, r8 0 (Nat.zero_le _), mh_mn0, mh_mn0]
    · exact ((mh_fr.up (by simp)).trans (mh_fr.up (by simp))).trans (mh_fr.up (by simp))
theorem mh_fx2_sizeInTable {s : Nat} (hs : s < 90000) (hF : mh_Fe h o a u t k v cs) : ∃ h', f_X2_sizeInTable_e o (nI s) h = some (mh_sz (mh_mn cs s), h') ∧ mh_Fe h' o a u t k v cs ∧ mh_fr [o, t] h h' ∧ mh_gI h' o 2 4 = mh_gI h o 2 4 := by
  obtain ⟨fc, ft, fv, x, tn, kn, r1, r2, r3, r4, r5, r6, r7, r8, r9⟩ := hF
  have n1 : o ≠ t := mh_apt r1 r3 (fun q => by cases q)
  have n2 : a ≠ o := mh_apt r2.1 r1 (fun q => by cases q)
  have n3 : u ≠ o := mh_apt r2.2.1 r1 (fun q => by cases q)
  have n4 : a ≠ t := mh_apt r2.1 r3 (fun q => by cases q)
  have n5 : u ≠ t := mh_apt r2.2.1 r3 (fun q => by cases q)
  have n6 : k ≠ o := mh_apt r4 r1 (fun q => by cases q)
  have n7 : k ≠ t := mh_apt r4 r3 (fun q => by cases q)
  have n8 : v ≠ o := mh_apt r5 r1 (fun q => by cases q)
  have n9 : v ≠ t := mh_apt r5 r3 (fun q => by cases q)
  have key := mh_wh (fun n (q : Nat × (Nat → Int32)) => f_X2_sizeInTable_b12 n o (nI s) (mh_up (mh_up h o (.inr (2, [.ref a, .ref t, .ref k, .int (nI q.1), .int tn]))) t (.inl (0, 90000, .inl q.2))))
    (fun (q : Nat × (Nat → Int32)) => some (mh_sz (mh_mn cs s), mh_up (mh_up h o (.inr (2, [.ref a, .ref t, .ref k, .int (nI q.1), .int tn]))) t (.inl (0, 90000, .inl q.2))))
    (fun q => q.1 < 90000 ∧ ∀ s, s ≤ q.1 → q.2 s = mh_sz (mh_mn cs s)) (fun q => s - q.1) (fun q => q.1 < 90000 ∧ ∀ s, s ≤ q.1 → q.2 s = mh_sz (mh_mn cs s))
    (fun n q hq => by
      obtain ⟨i, f⟩ := q
      obtain ⟨q1, q2⟩ := hq
      have q1 : i < 90000 := q1
      have q2 : ∀ s, s ≤ i → f s = mh_sz (mh_mn cs s) := q2
      show (∃ s', _ ∧ _ ∧ f_X2_sizeInTable_b12 (n + 1) o (nI s) (mh_up (mh_up h o (.inr (2, [.ref a, .ref t, .ref k, .int (nI i), .int tn]))) t (.inl (0, 90000, .inl f))) = _) ∨ ∃ r, _ ∧ f_X2_sizeInTable_b12 (n + 1) o (nI s) (mh_up (mh_up h o (.inr (2, [.ref a, .ref t, .ref k, .int (nI i), .int tn]))) t (.inl (0, 90000, .inl f))) = _
      have k1 : (mh_up (mh_up h o (.inr (2, [.ref a, .ref t, .ref k, .int (nI i), .int tn]))) t (.inl (0, 90000, .inl f))) o = some (.inr (2, [.ref a, .ref t, .ref k, .int (nI i), .int tn])) := by rw [mh_up_ne n1]; exact mh_up_eq _ _ _
      have g3 : mh_gI (mh_up (mh_up h o (.inr (2, [.ref a, .ref t, .ref k, .int (nI i), .int tn]))) t (.inl (0, 90000, .inl f))) o 2 3 = some (nI i) := mh_gI_eq k1 rfl
      by_cases hi : i < s
      · left
        have c1 : ¬ nI s ≤ nI i := fun q => absurd ((nI_leI (by omega) (by omega)).mp q) (by omega)
        have k2 : (mh_up (mh_up (mh_up h o (.inr (2, [.ref a, .ref t, .ref k, .int (nI i), .int tn]))) t (.inl (0, 90000, .inl f))) o (.inr (2, [.ref a, .ref t, .ref k, .int (nI (i + 1)), .int tn]))) o = some (.inr (2, [.ref a, .ref t, .ref k, .int (nI (i + 1)), .int tn])) := mh_up_eq _ _ _
        have k3 : (mh_up (mh_up (mh_up h o (.inr (2, [.ref a, .ref t, .ref k, .int (nI i), .int tn]))) t (.inl (0, 90000, .inl f))) o (.inr (2, [.ref a, .ref t, .ref k, .int (nI (i + 1)), .int tn]))) t = some (.inl (0, 90000, .inl f)) := by rw [mh_up_ne n1.symm]; exact mh_up_eq _ _ _
        have k4 : mh_Co (mh_up (mh_up (mh_up h o (.inr (2, [.ref a, .ref t, .ref k, .int (nI i), .int tn]))) t (.inl (0, 90000, .inl f))) o (.inr (2, [.ref a, .ref t, .ref k, .int (nI (i + 1)), .int tn]))) a u fc cs := r2.keep (by rw [mh_up_ne n2, mh_up_ne n4, mh_up_ne n2]) (by rw [mh_up_ne n3, mh_up_ne n5, mh_up_ne n3])
        have e0 := mh_fx2_sizeByLesser k2 k4 k3 r6.1 (s := i + 1) (by omega) (by omega) (fun x hx => q2 x (by omega))
        refine ⟨(i + 1, upd f (i + 1) (mh_sz (mh_mn cs (i + 1)))), ⟨by show i + 1 < 90000; omega, fun y hy => ?_⟩, by show s - (i + 1) < s - i; omega, ?_⟩
        · have hy : y ≤ i + 1 := hy
          by_cases hyi : y = i + 1
          · rw [hyi]; exact pk_us
          · show upd f (i + 1) (mh_sz (mh_mn cs (i + 1))) y = _
            rw [pk_un hyi]; exact q2 y (by omega)
        · rw [f_X2_sizeInTable_b12, g3, Option.bind_some, if_neg c1, Option.bind_some, nI_1, mh_pI_s [.ref a, .ref t, .ref k, .int (nI (i + 1)), .int tn] k1 ⟨Nat.le_of_ble_eq_true rfl, rfl⟩, Option.bind_some, mh_gR_eq (k := 1) k2 rfl, Option.bind_some, mh_gI_eq (k := 3) k2 rfl, Option.bind_some, Option.bind_some, mh_cal_eq k2, mh_b2_eq e0, mh_sI_eq k3 (by omega) (by omega), Option.bind_some]
          congr 1
          funext b
          unfold mh_up
          by_cases hb : b = t
          · rw [if_pos hb, if_pos hb]
          · by_cases hb2 : b = o
            · rw [if_neg hb, if_pos hb2, if_neg hb, if_pos hb2]
            · rw [if_neg hb, if_neg hb2, if_neg hb, if_neg hb2, if_neg hb, if_neg hb2]
      · right
        have c1 : nI s ≤ nI i := (nI_leI (by omega) (by omega)).mpr (by omega)
        refine ⟨(i, f), ⟨q1, q2⟩, ?_⟩
        rw [f_X2_sizeInTable_b12, g3, Option.bind_some, if_pos c1]
        unfold f_X2_sizeInTable_b50
        rw [mh_gR_eq (k := 1) k1 rfl, Option.bind_some, mh_aI_eq (mh_up_eq _ _ _) (by omega) (by omega), Option.bind_some, q2 s (by omega)])
    s mh_fu (kn, ft) (by show s - kn ≤ s; omega) ⟨r7, r8⟩ (mh_fuel _ (by omega))
  obtain ⟨⟨i, f⟩, ⟨q1, q2⟩, e⟩ := key
  have q1 : i < 90000 := q1
  have q2 : ∀ s, s ≤ i → f s = mh_sz (mh_mn cs s) := q2
  have e : f_X2_sizeInTable_b12 mh_fu o (nI s) (mh_up (mh_up h o (.inr (2, [.ref a, .ref t, .ref k, .int (nI kn), .int tn]))) t (.inl (0, 90000, .inl ft))) = some (mh_sz (mh_mn cs s), mh_up (mh_up h o (.inr (2, [.ref a, .ref t, .ref k, .int (nI i), .int tn]))) t (.inl (0, 90000, .inl f))) := e
  rw [mh_up_id r1, mh_up_id r3] at e
  refine ⟨mh_up (mh_up h o (.inr (2, [.ref a, .ref t, .ref k, .int (nI i), .int tn]))) t (.inl (0, 90000, .inl f)), ?_, ⟨fc, f, fv, x, tn, i, ?_, ?_, mh_up_eq _ _ _, ?_, ?_, r6, q1, q2, ?_⟩, (mh_fr.up (by simp)).trans (mh_fr.up (by simp)), ?_⟩
  · unfold f_X2_sizeInTable_e
    rw [if_neg (nI_pos (by omega)), if_pos ((mh_ltr (b := 90000) 90000 rfl (by omega) (by omega)).mpr hs)]
    exact e
  · rw [mh_up_ne n1]; exact mh_up_eq _ _ _
  · exact r2.keep (by rw [mh_up_ne n4, mh_up_ne n2]) (by rw [mh_up_ne n5, mh_up_ne n3])
  · rw [mh_up_ne n7, mh_up_ne n6]; exact r4
  · rw [mh_up_ne n9, mh_up_ne n8]; exact r5
  · rcases r9 with r9 | ⟨r9, r10⟩
    · exact Or.inl r9
    · refine Or.inr ⟨r9, fun hne => ?_⟩
      obtain ⟨w, w1, w2⟩ := r10 hne
      exact ⟨w, w1.keep (by rw [mh_up_ne n7, mh_up_ne n6]) (by rw [mh_up_ne n9, mh_up_ne n8]), w2⟩
  · rw [mh_gI_eq (k := 4) r1 rfl]
    exact mh_gI_eq (by rw [mh_up_ne n1]; exact mh_up_eq _ _ _) rfl
/-- all sums up to s are paid by at most H -/
def mh_up2 (cs : List Nat) (H s : Nat) : Prop := (∀ x, x ≤ s → ∃ n, mh_mn cs x = some n ∧ n ≤ H) ∧ ¬ ∃ n, mh_mn cs (s + 1) = some n ∧ n ≤ H
theorem mh_up2_unique {cs : List Nat} {H s s' : Nat} (h : mh_up2 cs H s) (h' : mh_up2 cs H s') : s = s' := by
  rcases Nat.lt_trichotomy s s' with q | q | q
  · exact absurd (h'.1 (s + 1) q) h.2
  · exact q
  · exact absurd (h.1 (s' + 1) q) h'.2
theorem mh_pay_max {cs : List Nat} {B s n : Nat} (hb : ∀ x, x ∈ cs → x ≤ B) (h : mh_pay cs s n) : s ≤ n * B := by
  obtain ⟨l, h1, h2, h3⟩ := h
  rw [← h2, ← h3]
  exact mh_sum_le l (fun x hx => hb x (h1 x hx))
theorem mh_fx2_allUpTo {H : Nat} (hH : H ≤ 50) (hF : mh_Fe h o a u t k v cs) : ∃ h' s, f_X2_allUpTo_e o (nI H) h = some (nI s, h') ∧ mh_up2 cs H s ∧ s ≤ 15000 ∧ mh_Fe h' o a u t k v cs ∧ mh_fr [o, t] h h' := by
  have hms : mh_ms cs := by obtain ⟨_, _, _, _, _, _, _, _, _, _, _, r, _⟩ := hF; exact r
  have key := mh_wh (fun n (q : Nat × mh_H) => f_X2_allUpTo_b2 n o (nI H) (nI q.1) q.2) (fun (q : Nat × mh_H) => some (nI q.1, q.2))
    (fun q => (∀ x, x ≤ q.1 → ∃ n, mh_mn cs x = some n ∧ n ≤ H) ∧ mh_Fe q.2 o a u t k v cs ∧ mh_fr [o, t] h q.2) (fun q => 15000 - q.1) (fun q => mh_up2 cs H q.1 ∧ q.1 ≤ 15000 ∧ mh_Fe q.2 o a u t k v cs ∧ mh_fr [o, t] h q.2)
    (fun n q hq => by
      obtain ⟨i, h1⟩ := q
      obtain ⟨q1, q2, q3⟩ := hq
      have q1 : ∀ x, x ≤ i → ∃ n, mh_mn cs x = some n ∧ n ≤ H := q1
      have bd : ∀ y n, mh_mn cs y = some n → n ≤ H → y ≤ 15000 := fun y n e1 e2 => by
        have := mh_pay_max (fun x hx => (hms.1.2 x hx).2) (mh_mn_pay e1)
        have := Nat.mul_le_mul_right 300 (Nat.le_trans e2 hH)
        omega
      have hi : i ≤ 15000 := by
        obtain ⟨n, e1, e2⟩ := q1 i (Nat.le_refl _)
        exact bd i n e1 e2
      show (∃ s', _ ∧ _ ∧ f_X2_allUpTo_b2 (n + 1) o (nI H) (nI i) h1 = _) ∨ ∃ r, _ ∧ f_X2_allUpTo_b2 (n + 1) o (nI H) (nI i) h1 = _
      obtain ⟨h2, e1, e2, e3, _⟩ := mh_fx2_sizeInTable (s := i + 1) (by omega) q2
      have c1 : ¬ (89999 : Int32) ≤ nI i := fun q => absurd ((mh_lel (a := 89999) 89999 rfl (by omega) (by omega)).mp q) (by omega)
      have ho : ∃ fs, h1 o = some (.inr (2, fs)) := by obtain ⟨_, _, _, _, _, _, r, _⟩ := q2; exact ⟨_, r⟩
      obtain ⟨fs, ho⟩ := ho
      cases hm : mh_mn cs (i + 1) with
      | none =>
        right
        refine ⟨(i, h2), ⟨⟨q1, fun ⟨n, r, _⟩ => by rw [hm] at r; cases r⟩, hi, e2, q3.trans e3⟩, ?_⟩
        rw [f_X2_allUpTo_b2, if_neg c1, nI_1, mh_cal_eq ho, mh_b2_eq e1, hm, if_pos (show mh_sz none = (-1 : Int32) from rfl)]
        rfl
      | some m =>
        have hmb := mh_mn_b (fun x hx => (hms.1.2 x hx).1) hm
        have c2 : ¬ mh_sz (some m) = (-1 : Int32) := mh_nI_m1 (by omega)
        by_cases hc : m ≤ H
        · left
          have := bd (i + 1) m hm hc
          have c3 : mh_sz (some m) ≤ nI H := (nI_leI (a := m) (by omega) (by omega)).mpr hc
          refine ⟨(i + 1, h2), ⟨fun x hx => ?_, e2, q3.trans e3⟩, by show 15000 - (i + 1) < 15000 - i; omega, ?_⟩
          · have hx : x ≤ i + 1 := hx
            by_cases hxi : x = i + 1
            · rw [hxi]; exact ⟨m, hm, hc⟩
            · exact q1 x (by omega)
          · rw [f_X2_allUpTo_b2, if_neg c1, nI_1, mh_cal_eq ho, mh_b2_eq e1, hm, if_neg c2, if_pos c3, mh_nm_eq, mh_inc]
        · right
          have c3 : ¬ mh_sz (some m) ≤ nI H := fun q => hc ((nI_leI (a := m) (by omega) (by omega)).mp q)
          refine ⟨(i, h2), ⟨⟨q1, fun ⟨n, r, r2⟩ => by rw [hm] at r; cases r; exact hc r2⟩, hi, e2, q3.trans e3⟩, ?_⟩
          rw [f_X2_allUpTo_b2, if_neg c1, nI_1, mh_cal_eq ho, mh_b2_eq e1, hm, if_neg c2, if_neg c3]
          rfl)
    15000 mh_fu (0, h) (by show 15000 - 0 ≤ 15000; omega) ⟨fun x hx => ⟨0, by have hx : x ≤ 0 := hx; rw [show x = 0 by omega]; exact mh_mn0 cs, Nat.zero_le _⟩, hF, mh_fr.rfl⟩ (mh_fuel _ (by omega))
  obtain ⟨⟨s, h'⟩, ⟨q1, q2, q3, q4⟩, e⟩ := key
  have e : f_X2_allUpTo_b2 mh_fu o (nI H) (nI 0) h = some (nI s, h') := e
  rw [nI_0] at e
  exact ⟨h', s, e, q1, q2, q3, q4⟩
end MhFe
