/-! a boolean that tells P -/
def mh_bp (x : Int32) (P : Prop) : Prop := (P ∧ x = 1) ∨ (¬ P ∧ x = 0)
theorem mh_bp.iff {x : Int32} {P Q : Prop} (h : mh_bp x P) (e : P ↔ Q) : mh_bp x Q := by
  rcases h with ⟨h1, h2⟩ | ⟨h1, h2⟩
  · exact Or.inl ⟨e.mp h1, h2⟩
  · exact Or.inr ⟨fun q => h1 (e.mpr q), h2⟩
theorem mh_bp.z {x : Int32} {P : Prop} (h : mh_bp x P) : x = 0 ↔ ¬ P := by
  rcases h with ⟨h1, h2⟩ | ⟨h1, h2⟩
  · rw [h2]; exact ⟨fun q => absurd q (by decide), fun q => absurd h1 q⟩
  · exact ⟨fun _ => h1, fun _ => h2⟩
theorem mh_bp.o {x : Int32} {P : Prop} (h : mh_bp x P) : x = 1 ↔ P := by
  rcases h with ⟨h1, h2⟩ | ⟨h1, h2⟩
  · exact ⟨fun _ => h1, fun _ => h2⟩
  · rw [h2]; exact ⟨fun q => absurd q (by decide), fun q => absurd q h1⟩
theorem mh_bp1 {P : Prop} (h : P) : mh_bp 1 P := Or.inl ⟨h, rfl⟩
theorem mh_bp0 {P : Prop} (h : ¬ P) : mh_bp 0 P := Or.inr ⟨h, rfl⟩
/-- the needed ones of what is offered, up to n -/
noncomputable def mh_pk (off : Nat → Prop) : Nat → List Nat
  | 0 => []
  | n + 1 => @ite _ (off (n + 1) ∧ ¬ mh_py (mh_pk off n) (n + 1)) (Classical.propDecidable _) (mh_pk off n ++ [n + 1]) (mh_pk off n)
theorem mh_pk_y {off : Nat → Prop} {n : Nat} (h : off (n + 1) ∧ ¬ mh_py (mh_pk off n) (n + 1)) : mh_pk off (n + 1) = mh_pk off n ++ [n + 1] := by
  rw [mh_pk]
  exact if_pos h
theorem mh_pk_n {off : Nat → Prop} {n : Nat} (h : ¬ (off (n + 1) ∧ ¬ mh_py (mh_pk off n) (n + 1))) : mh_pk off (n + 1) = mh_pk off n := by
  rw [mh_pk]
  exact if_neg h
theorem mh_pk_in {off : Nat → Prop} : ∀ n x, x ∈ mh_pk off n → 1 ≤ x ∧ x ≤ n ∧ off x := by
  intro n
  induction n with
  | zero => intro x h; exact absurd h List.not_mem_nil
  | succ n ih =>
    intro x h
    by_cases hc : off (n + 1) ∧ ¬ mh_py (mh_pk off n) (n + 1)
    · rw [mh_pk_y hc] at h
      rcases List.mem_append.mp h with q | q
      · have := ih x q; exact ⟨this.1, by omega, this.2.2⟩
      · rw [List.mem_singleton.mp q]; exact ⟨by omega, Nat.le_refl _, hc.1⟩
    · rw [mh_pk_n hc] at h
      have := ih x h; exact ⟨this.1, by omega, this.2.2⟩
theorem mh_pk_pw {off : Nat → Prop} : ∀ n, (mh_pk off n).Pairwise (· < ·) := by
  intro n
  induction n with
  | zero => exact List.Pairwise.nil
  | succ n ih =>
    by_cases hc : off (n + 1) ∧ ¬ mh_py (mh_pk off n) (n + 1)
    · rw [mh_pk_y hc]
      refine List.pairwise_append.mpr ⟨ih, List.pairwise_singleton _ _, fun x hx y hy => ?_⟩
      rw [List.mem_singleton.mp hy]
      have := mh_pk_in n x hx
      omega
    · rw [mh_pk_n hc]; exact ih
theorem mh_pk_len {off : Nat → Prop} {a b : Nat} (h : a ≤ b) : (mh_pk off a).length ≤ (mh_pk off b).length := by
  obtain ⟨k, rfl⟩ : ∃ k, b = a + k := ⟨b - a, by omega⟩
  clear h
  induction k with
  | zero => exact Nat.le_refl _
  | succ k ih =>
    rw [← Nat.add_assoc]
    by_cases hc : off (a + k + 1) ∧ ¬ mh_py (mh_pk off (a + k)) (a + k + 1)
    · rw [mh_pk_y hc, List.length_append]; omega
    · rw [mh_pk_n hc]; exact ih
theorem mh_pk_congr {off off' : Nat → Prop} : ∀ n, (∀ x, 1 ≤ x → x ≤ n → (off x ↔ off' x)) → mh_pk off n = mh_pk off' n := by
  intro n
  induction n with
  | zero => intro _; rfl
  | succ n ih =>
    intro h
    have e := ih (fun x h1 h2 => h x h1 (by omega))
    have e2 := h (n + 1) (by omega) (Nat.le_refl _)
    by_cases hc : off (n + 1) ∧ ¬ mh_py (mh_pk off n) (n + 1)
    · rw [mh_pk_y hc, mh_pk_y (show off' (n + 1) ∧ ¬ mh_py (mh_pk off' n) (n + 1) by rw [← e]; exact ⟨e2.mp hc.1, hc.2⟩), e]
    · rw [mh_pk_n hc, mh_pk_n (show ¬ (off' (n + 1) ∧ ¬ mh_py (mh_pk off' n) (n + 1)) by rw [← e]; exact fun q => hc ⟨e2.mpr q.1, q.2⟩), e]
theorem mh_py_app {cs : List Nat} {c s : Nat} : mh_py (cs ++ [c]) s ↔ mh_py cs s ∨ (c ≤ s ∧ mh_py (cs ++ [c]) (s - c)) :=
  mh_py_ins (List.mem_append_right _ (List.mem_singleton.mpr rfl)) (fun x hx => List.mem_append_left _ hx) (fun x hx => by
    rcases List.mem_append.mp hx with q | q
    · exact Or.inr q
    · exact Or.inl (List.mem_singleton.mp q))
theorem mh_tw_all {p : Nat → Bool} : ∀ (cs : List Nat), (∀ c, c ∈ cs → p c = true) → cs.takeWhile p = cs := by
  intro cs
  induction cs with
  | nil => intro _; rfl
  | cons c cs ih =>
    intro h
    rw [List.takeWhile_cons, if_pos (h c List.mem_cons_self), ih (fun x hx => h x (List.mem_cons_of_mem c hx))]
/-- a value above all others comes to stand last -/
theorem mh_pf_all {cs : List Nat} {x : Nat} (hx : x < 2 ^ 31) (h : ∀ c, c ∈ cs → c < x) : mh_pf cs (nI x) = cs.length := by
  unfold mh_pf
  rw [mh_tw_all cs (fun c hc => by have := h c hc; exact decide_eq_true ((nI_ltI (by omega) hx).mpr this))]
theorem mh_hd_all {cs : List Nat} {x : Nat} (hx : x < 2 ^ 31) (h : ∀ c, c ∈ cs → c < x) : mh_hd cs (nI x) = false := by
  unfold mh_hd
  rw [mh_pf_all hx h]
  exact decide_eq_false (fun q => by omega)
theorem mh_ins_all {cs : List Nat} {x : Nat} (hx : x < 2 ^ 31) (h : ∀ c, c ∈ cs → c < x) : mh_ins cs x = cs ++ [x] := by
  unfold mh_ins
  rw [mh_pf_all hx h, List.take_length, List.drop_length]
theorem mh_fx1_insert_full {h : mh_H} {a v : Nat} {f : Nat → Int32} {cs : List Nat} (hc : mh_Co h a v f cs) (hf : cs.length = 12) (x : Int32) : f_X1_insert_e a x h = some (0, h) := by
  unfold f_X1_insert_e
  rw [mh_cal_eq hc.1, mh_b2_eq (mh_fx1_isFull hc), if_pos hf]
  rfl
section MhNeeds
variable {h : mh_H} {o a b k u : Nat}
theorem mh_fx5_offerAll {c uc : Nat} {fc f : Nat → Int32} {cs : List Nat} {P : Nat → Prop} (e0 : h o = some (mh_Ns a b k)) (e1 : h a = some (.inl (2, 301, .inl f))) (hP : ∀ j, j < 301 → mh_bp (f j) (P j)) (hc : mh_Co h c uc fc cs) (hmt : mh_mt cs) :
    ∃ f', f_X5_offerAll_e o c h = some (mh_up h a (.inl (2, 301, .inl f'))) ∧ ∀ j, j < 301 → mh_bp (f' j) (P j ∨ j ∈ cs) := by
  have hl := hmt.1
  have n1 : o ≠ a := mh_apt e0 e1 (fun q => by cases q)
  have n2 : c ≠ a := mh_apt hc.1 e1 (fun q => by cases q)
  have n3 : uc ≠ a := mh_apt hc.2.1 e1 (fun q => by cases q)
  have key := mh_wh (fun n (q : Nat × (Nat → Int32)) => f_X5_offerAll_b2 n o c (nI q.1) (mh_up h a (.inl (2, 301, .inl q.2))))
    (fun (f : Nat → Int32) => some (mh_up h a (.inl (2, 301, .inl f))))
    (fun q => q.1 ≤ cs.length ∧ ∀ j, j < 301 → mh_bp (q.2 j) (P j ∨ j ∈ cs.take q.1)) (fun q => cs.length - q.1) (fun f => ∀ j, j < 301 → mh_bp (f j) (P j ∨ j ∈ cs))
    (fun n q hq => by
      obtain ⟨i, f⟩ := q
      obtain ⟨q1, q2⟩ := hq
      have q1 : i ≤ cs.length := q1
      have q2 : ∀ j, j < 301 → mh_bp (f j) (P j ∨ j ∈ cs.take i) := q2
      show (∃ s', _ ∧ _ ∧ f_X5_offerAll_b2 (n + 1) o c (nI i) (mh_up h a (.inl (2, 301, .inl f))) = _) ∨ ∃ r, _ ∧ f_X5_offerAll_b2 (n + 1) o c (nI i) (mh_up h a (.inl (2, 301, .inl f))) = _
      have hc' : mh_Co (mh_up h a (.inl (2, 301, .inl f))) c uc fc cs := hc.keep (mh_up_ne n2) (mh_up_ne n3)
      have ho' : (mh_up h a (.inl (2, 301, .inl f))) o = some (mh_Ns a b k) := by rw [mh_up_ne n1]; exact e0
      by_cases hi : i < cs.length
      · left
        have hci := hmt.get hi
        have c1 : ¬ nI cs.length ≤ nI i := fun q => absurd ((nI_leI (by omega) (by omega)).mp q) (by omega)
        refine ⟨(i + 1, upd f (cs.getD i 0) 1), ⟨hi, fun j hj => ?_⟩, by show cs.length - (i + 1) < cs.length - i; omega, ?_⟩
        · show mh_bp (upd f (cs.getD i 0) 1 j) (P j ∨ j ∈ cs.take (i + 1))
          rw [mh_take_s hi]
          by_cases hji : j = cs.getD i 0
          · rw [hji, pk_us]
            exact mh_bp1 (Or.inr (List.mem_append_right _ (List.mem_singleton.mpr rfl)))
          · rw [pk_un hji]
            refine (q2 j hj).iff ⟨fun q => q.imp id (fun q => List.mem_append_left _ q), fun q => q.imp id (fun q => ?_)⟩
            rcases List.mem_append.mp q with q | q
            · exact q
            · exact absurd (List.mem_singleton.mp q) hji
        · rw [f_X5_offerAll_b2, mh_cal_eq hc'.1, mh_b2_eq (mh_fx1_count hc'), if_neg c1, mh_cal_eq hc'.1, mh_b2_eq (mh_fx1_value hc' (by omega)), mh_cal_eq ho', mh_fx5_offer ho' (mh_up_eq _ _ _) hci.1 hci.2, Option.bind_some, mh_nm_eq, mh_inc, mh_up_up]
      · right
        have c1 : nI cs.length ≤ nI i := (nI_leI (by omega) (by omega)).mpr (by omega)
        refine ⟨f, fun j hj => ?_, ?_⟩
        · have := q2 j hj
          rw [show i = cs.length by omega, List.take_length] at this
          exact this
        · rw [f_X5_offerAll_b2, mh_cal_eq hc'.1, mh_b2_eq (mh_fx1_count hc'), if_pos c1]
          rfl)
    cs.length mh_fu (0, f) (by show cs.length - 0 ≤ _; omega) ⟨Nat.zero_le _, fun j hj => (hP j hj).iff ⟨Or.inl, fun q => q.elim id (fun q => by rw [List.take_zero] at q; exact absurd q List.not_mem_nil)⟩⟩ (mh_fuel _ (by omega))
  obtain ⟨f', z1, z2⟩ := key
  have z2 : f_X5_offerAll_b2 mh_fu o c (nI 0) (mh_up h a (.inl (2, 301, .inl f))) = some (mh_up h a (.inl (2, 301, .inl f'))) := z2
  rw [mh_up_id e1, nI_0] at z2
  exact ⟨f', z2, z1⟩
theorem mh_fx5_payWith {f : Nat → Int32} {cs : List Nat} {c : Nat} (e0 : h o = some (mh_Ns a b k)) (e1 : h b = some (.inl (2, 301, .inl f))) (h1 : 1 ≤ c) (h2 : c ≤ 300) (hP : ∀ j, j < 301 → mh_bp (f j) (mh_py cs j)) :
    ∃ f', f_X5_payWith_e o (nI c) h = some (mh_up h b (.inl (2, 301, .inl f'))) ∧ ∀ j, j < 301 → mh_bp (f' j) (mh_py (cs ++ [c]) j) := by
  have n1 : o ≠ b := mh_apt e0 e1 (fun q => by cases q)
  have key := mh_wh (fun n (q : Nat × (Nat → Int32)) => f_X5_payWith_b2 n o (nI c) (nI q.1) (mh_up h b (.inl (2, 301, .inl q.2))))
    (fun (f : Nat → Int32) => some (mh_up h b (.inl (2, 301, .inl f))))
    (fun q => c ≤ q.1 ∧ q.1 ≤ 301 ∧ (∀ j, j < q.1 → mh_bp (q.2 j) (mh_py (cs ++ [c]) j)) ∧ ∀ j, q.1 ≤ j → j < 301 → mh_bp (q.2 j) (mh_py cs j)) (fun q => 301 - q.1) (fun f => ∀ j, j < 301 → mh_bp (f j) (mh_py (cs ++ [c]) j))
    (fun n q hq => by
      obtain ⟨i, f⟩ := q
      obtain ⟨q1, q2, q3, q4⟩ := hq
      have q1 : c ≤ i := q1
      have q2 : i ≤ 301 := q2
      have q3 : ∀ j, j < i → mh_bp (f j) (mh_py (cs ++ [c]) j) := q3
      have q4 : ∀ j, i ≤ j → j < 301 → mh_bp (f j) (mh_py cs j) := q4
      show (∃ s', _ ∧ _ ∧ f_X5_payWith_b2 (n + 1) o (nI c) (nI i) (mh_up h b (.inl (2, 301, .inl f))) = _) ∨ ∃ r, _ ∧ f_X5_payWith_b2 (n + 1) o (nI c) (nI i) (mh_up h b (.inl (2, 301, .inl f))) = _
      have ho' : (mh_up h b (.inl (2, 301, .inl f))) o = some (mh_Ns a b k) := by rw [mh_up_ne n1]; exact e0
      have g1 : mh_gR (mh_up h b (.inl (2, 301, .inl f))) o 5 1 = some b := mh_gR_eq ho' rfl
      by_cases hi : 300 < i
      · right
        have e : i = 301 := by omega
        subst e
        refine ⟨f, q3, ?_⟩
        rw [f_X5_payWith_b2, if_pos ((mh_ltl (a := 300) 300 rfl (by omega) (by omega)).mpr hi)]
        rfl
      · left
        have c1 : ¬ (300 : Int32) < nI i := fun q => hi ((mh_ltl (a := 300) 300 rfl (by omega) (by omega)).mp q)
        have go : ∀ x : Int32, (x = 0 ∨ x = 1) → mh_bp x (mh_py (cs ++ [c]) i) → f_X5_payWith_b39 (f_X5_payWith_b2 n) o (nI c) (nI i) b (nI i) x (mh_up h b (.inl (2, 301, .inl f))) = f_X5_payWith_b2 n o (nI c) (nI (i + 1)) (mh_up h b (.inl (2, 301, .inl (upd f i x)))) ∧ (∀ j, j < i + 1 → mh_bp (upd f i x j) (mh_py (cs ++ [c]) j)) ∧ ∀ j, i + 1 ≤ j → j < 301 → mh_bp (upd f i x j) (mh_py cs j) := fun x hx hb => by
          refine ⟨?_, fun j hj => ?_, fun j hj1 hj2 => ?_⟩
          · unfold f_X5_payWith_b39
            rw [mh_sZ_eq (mh_up_eq _ _ _) (by omega) (by omega) hx, Option.bind_some, mh_nm_eq, mh_inc, mh_up_up]
          · by_cases hji : j = i
            · rw [hji, pk_us]; exact hb
            · rw [pk_un hji]; exact q3 j (by omega)
          · rw [pk_un (by omega)]; exact q4 j (by omega) hj2
        have hcur := q4 i (Nat.le_refl _) (by omega)
        have hbef := q3 (i - c) (by omega)
        rcases hcur with ⟨p1, p2⟩ | ⟨p1, p2⟩
        · have hb1 : mh_bp 1 (mh_py (cs ++ [c]) i) := mh_bp1 (mh_py_app.mpr (Or.inl p1))
          obtain ⟨r1, r2, r3⟩ := go 1 (Or.inr rfl) hb1
          refine ⟨(i + 1, upd f i 1), ⟨by show c ≤ i + 1; omega, by show i + 1 ≤ 301; omega, r2, r3⟩, by show 301 - (i + 1) < 301 - i; omega, ?_⟩
          rw [f_X5_payWith_b2, if_neg c1, g1, Option.bind_some, Option.bind_some, mh_aI_eq (mh_up_eq _ _ _) (by omega) (by omega), Option.bind_some, if_neg (by rw [p2]; decide)]
          exact r1
        · rcases hbef with ⟨p3, p4⟩ | ⟨p3, p4⟩
          · have hb1 : mh_bp 1 (mh_py (cs ++ [c]) i) := mh_bp1 (mh_py_app.mpr (Or.inr ⟨q1, p3⟩))
            obtain ⟨r1, r2, r3⟩ := go 1 (Or.inr rfl) hb1
            refine ⟨(i + 1, upd f i 1), ⟨by show c ≤ i + 1; omega, by show i + 1 ≤ 301; omega, r2, r3⟩, by show 301 - (i + 1) < 301 - i; omega, ?_⟩
            rw [f_X5_payWith_b2, if_neg c1, g1, Option.bind_some, Option.bind_some, mh_aI_eq (mh_up_eq _ _ _) (by omega) (by omega), Option.bind_some, if_pos p2, Option.bind_some, pk_sub q1, mh_aI_eq (mh_up_eq _ _ _) (by omega) (by omega), Option.bind_some, if_neg (by rw [p4]; decide)]
            exact r1
          · have hb0 : mh_bp 0 (mh_py (cs ++ [c]) i) := mh_bp0 (fun q => (mh_py_app.mp q).elim p1 (fun q => p3 q.2))
            obtain ⟨r1, r2, r3⟩ := go 0 (Or.inl rfl) hb0
            refine ⟨(i + 1, upd f i 0), ⟨by show c ≤ i + 1; omega, by show i + 1 ≤ 301; omega, r2, r3⟩, by show 301 - (i + 1) < 301 - i; omega, ?_⟩
            rw [f_X5_payWith_b2, if_neg c1, g1, Option.bind_some, Option.bind_some, mh_aI_eq (mh_up_eq _ _ _) (by omega) (by omega), Option.bind_some, if_pos p2, Option.bind_some, pk_sub q1, mh_aI_eq (mh_up_eq _ _ _) (by omega) (by omega), Option.bind_some, if_pos p4]
            exact r1)
    301 mh_fu (c, f) (by show 301 - c ≤ 301; omega) ⟨Nat.le_refl _, by show c ≤ 301; omega, fun j hj => (hP j (by have hj : j < c := hj; omega)).iff ⟨fun q => mh_py_app.mpr (Or.inl q), fun q => (mh_py_app.mp q).elim id (fun q => by have hj : j < c := hj; omega)⟩, fun j _ hj => hP j hj⟩ (mh_fuel _ (by omega))
  obtain ⟨f', z1, z2⟩ := key
  have z2 : f_X5_payWith_b2 mh_fu o (nI c) (nI c) (mh_up h b (.inl (2, 301, .inl f))) = some (mh_up h b (.inl (2, 301, .inl f'))) := z2
  rw [mh_up_id e1] at z2
  exact ⟨f', z2, z1⟩
end MhNeeds
