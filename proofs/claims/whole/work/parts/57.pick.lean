section MhPick
variable {h : mh_H} {o a b k u : Nat}
theorem mh_fx5_pick {fo fb fk : Nat → Int32} {ck : List Nat} {P : Nat → Prop} (e0 : h o = some (mh_Ns a b k)) (e1 : h a = some (.inl (2, 301, .inl fo))) (e2 : h b = some (.inl (2, 301, .inl fb))) (e3 : mh_Co h k u fk ck) (nab : a ≠ b) (hP : ∀ j, j < 301 → mh_bp (fo j) (P j)) :
    ∃ r : Int32 × mh_H, f_X5_pick_e o h = some r ∧ ((r.1 = 1 ∧ (mh_pk P 300).length ≤ 12 ∧ ∃ f, mh_Co r.2 k u f (mh_pk P 300)) ∨ (r.1 = 0 ∧ 12 < (mh_pk P 300).length)) ∧ (∃ f g c, r.2 b = some (.inl (2, 301, .inl f)) ∧ mh_Co r.2 k u g c ∧ mh_ms c) ∧ mh_fr [b, k, u] h r.2 := by
  have n1 : o ≠ b := mh_apt e0 e2 (fun q => by cases q)
  have n2 : o ≠ k := mh_apt e0 e3.1 (fun q => by cases q)
  have n3 : o ≠ u := mh_apt e0 e3.2.1 (fun q => by cases q)
  have n4 : a ≠ k := mh_apt e1 e3.1 (fun q => by cases q)
  have n5 : a ≠ u := mh_apt e1 e3.2.1 (fun q => by cases q)
  have n6 : b ≠ k := mh_apt e2 e3.1 (fun q => by cases q)
  have n7 : b ≠ u := mh_apt e2 e3.2.1 (fun q => by cases q)
  obtain ⟨x1, x2⟩ := mh_fx1_clear e3 e3.ne
  have ob : ∀ h', mh_fr [b, k, u] h h' → h' o = some (mh_Ns a b k) := fun h' hf => (hf o (by simp [n1, n2, n3])).trans e0
  have oa : ∀ h', mh_fr [b, k, u] h h' → h' a = some (.inl (2, 301, .inl fo)) := fun h' hf => (hf a (by simp [nab, n4, n5])).trans e1
  have main : ∀ (h1 : mh_H) (f1 fk1 : Nat → Int32), mh_fr [b, k, u] h h1 → h1 b = some (.inl (2, 301, .inl f1)) → (∀ j, j < 301 → mh_bp (f1 j) (mh_py [] j)) → mh_Co h1 k u fk1 [] →
      ∃ r : Int32 × mh_H, (((r.1 = 1 ∧ (mh_pk P 300).length ≤ 12 ∧ ∃ f, mh_Co r.2 k u f (mh_pk P 300)) ∨ (r.1 = 0 ∧ 12 < (mh_pk P 300).length)) ∧ (∃ f g c, r.2 b = some (.inl (2, 301, .inl f)) ∧ mh_Co r.2 k u g c ∧ mh_ms c) ∧ mh_fr [b, k, u] h r.2) ∧ f_X5_pick_b39 mh_fu o (nI 1) h1 = some r := fun h1 f1 fk1 hf hb1 hp1 hc1 => by
    refine mh_wh (fun n (q : Nat × mh_H) => f_X5_pick_b39 n o (nI (q.1 + 1)) q.2) (fun (r : Int32 × mh_H) => some r)
      (fun q => q.1 ≤ 300 ∧ (mh_pk P q.1).length ≤ 12 ∧ ∃ f g, q.2 b = some (.inl (2, 301, .inl f)) ∧ (∀ j, j < 301 → mh_bp (f j) (mh_py (mh_pk P q.1) j)) ∧ mh_Co q.2 k u g (mh_pk P q.1) ∧ mh_fr [b, k, u] h q.2) (fun q => 300 - q.1)
      _ (fun n q hq => ?_) 300 mh_fu (0, h1) (by show 300 - 0 ≤ 300; omega) ⟨Nat.zero_le _, Nat.zero_le _, f1, fk1, hb1, hp1, hc1, hf⟩ (mh_fuel _ (by omega))
    obtain ⟨i, h2⟩ := q
    obtain ⟨q1, q2, f, g, q3, q4, q5, q6⟩ := hq
    have q1 : i ≤ 300 := q1
    have q2 : (mh_pk P i).length ≤ 12 := q2
    have q3 : h2 b = some (.inl (2, 301, .inl f)) := q3
    have q4 : ∀ j, j < 301 → mh_bp (f j) (mh_py (mh_pk P i) j) := q4
    have q5 : mh_Co h2 k u g (mh_pk P i) := q5
    have q6 : mh_fr [b, k, u] h h2 := q6
    show (∃ s', _ ∧ _ ∧ f_X5_pick_b39 (n + 1) o (nI (i + 1)) h2 = _) ∨ ∃ r, _ ∧ f_X5_pick_b39 (n + 1) o (nI (i + 1)) h2 = _
    have ms : mh_ms (mh_pk P i) := ⟨⟨q2, fun x hx => by have := mh_pk_in i x hx; omega⟩, mh_pk_pw i⟩
    have wo := ob h2 q6
    have wa := oa h2 q6
    by_cases hi : i = 300
    · right
      subst hi
      refine ⟨(1, h2), ⟨Or.inl ⟨rfl, q2, g, q5⟩, ⟨f, g, _, q3, q5, ms⟩, q6⟩, ?_⟩
      rw [f_X5_pick_b39, if_pos ((mh_ltl (a := 300) 300 rfl (by omega) (by omega)).mpr (by omega))]
      rfl
    · have c1 : ¬ (300 : Int32) < nI (i + 1) := fun q => absurd ((mh_ltl (a := 300) 300 rfl (by omega) (by omega)).mp q) (by omega)
      have skip : ¬ (P (i + 1) ∧ ¬ mh_py (mh_pk P i) (i + 1)) → f_X5_pick_b39 (n + 1) o (nI (i + 1)) h2 = f_X5_pick_b39 n o (nI (i + 1 + 1)) h2 → ∃ s' : Nat × mh_H, (s'.1 ≤ 300 ∧ (mh_pk P s'.1).length ≤ 12 ∧ ∃ f g, s'.2 b = some (.inl (2, 301, .inl f)) ∧ (∀ j, j < 301 → mh_bp (f j) (mh_py (mh_pk P s'.1) j)) ∧ mh_Co s'.2 k u g (mh_pk P s'.1) ∧ mh_fr [b, k, u] h s'.2) ∧ 300 - s'.1 < 300 - i ∧ f_X5_pick_b39 (n + 1) o (nI (i + 1)) h2 = f_X5_pick_b39 n o (nI (s'.1 + 1)) s'.2 := fun hn he => by
        refine ⟨(i + 1, h2), ⟨by show i + 1 ≤ 300; omega, ?_⟩, by show 300 - (i + 1) < 300 - i; omega, he⟩
        show (mh_pk P (i + 1)).length ≤ 12 ∧ ∃ f g, h2 b = some (.inl (2, 301, .inl f)) ∧ (∀ j, j < 301 → mh_bp (f j) (mh_py (mh_pk P (i + 1)) j)) ∧ mh_Co h2 k u g (mh_pk P (i + 1)) ∧ mh_fr [b, k, u] h h2
        rw [mh_pk_n hn]
        exact ⟨q2, f, g, q3, q4, q5, q6⟩
      rcases hP (i + 1) (by omega) with ⟨p1, p2⟩ | ⟨p1, p2⟩
      · rcases q4 (i + 1) (by omega) with ⟨p3, p4⟩ | ⟨p3, p4⟩
        · left
          refine skip (fun q => q.2 p3) ?_
          rw [f_X5_pick_b39, if_neg c1, mh_gR_eq (k := 0) wo rfl, Option.bind_some, mh_aI_eq wa (by omega) (by omega), Option.bind_some, if_neg (by rw [p2]; decide), mh_gR_eq (k := 1) wo rfl, Option.bind_some, mh_aI_eq q3 (by omega) (by omega), Option.bind_some, if_neg (by rw [p4]; decide)]
          unfold f_X5_pick_b82
          rw [mh_nm_eq, mh_inc]
        · by_cases hfull : (mh_pk P i).length = 12
          · right
            refine ⟨(0, h2), ⟨Or.inr ⟨rfl, ?_⟩, ⟨f, g, _, q3, q5, ms⟩, q6⟩, ?_⟩
            · have := mh_pk_len (off := P) (show i + 1 ≤ 300 by omega)
              rw [mh_pk_y ⟨p1, p3⟩, List.length_append] at this
              have e : ([i + 1] : List Nat).length = 1 := rfl
              omega
            · rw [f_X5_pick_b39, if_neg c1, mh_gR_eq (k := 0) wo rfl, Option.bind_some, mh_aI_eq wa (by omega) (by omega), Option.bind_some, if_neg (by rw [p2]; decide), mh_gR_eq (k := 1) wo rfl, Option.bind_some, mh_aI_eq q3 (by omega) (by omega), Option.bind_some, if_pos p4, mh_gR_eq (k := 2) wo rfl, Option.bind_some, mh_cal_eq q5.1, mh_b2_eq (mh_fx1_insert_full q5 hfull _), if_pos rfl]
              rfl
          · left
            have lt : ∀ c, c ∈ mh_pk P i → c < i + 1 := fun c hc => by have := mh_pk_in i c hc; omega
            obtain ⟨h3, g3, y1, y2, y3⟩ := mh_fx1_insert q5 q5.ne (i + 1) (by omega) (mh_hd_all (by omega) lt)
            rw [mh_ins_all (by omega) lt] at y2
            have fr3 : mh_fr [b, k, u] h h3 := q6.trans (fun x hx => y3 x (fun q => hx (by simp [q])) (fun q => hx (by simp [q])))
            have b3 : h3 b = some (.inl (2, 301, .inl f)) := (y3 b n6 n7).trans q3
            obtain ⟨f4, z1, z2⟩ := mh_fx5_payWith (c := i + 1) (ob h3 fr3) b3 (by omega) (by omega) q4
            refine ⟨(i + 1, mh_up h3 b (.inl (2, 301, .inl f4))), ⟨by show i + 1 ≤ 300; omega, ?_⟩, by show 300 - (i + 1) < 300 - i; omega, ?_⟩
            · show (mh_pk P (i + 1)).length ≤ 12 ∧ ∃ f g, (mh_up h3 b (.inl (2, 301, .inl f4))) b = some (.inl (2, 301, .inl f)) ∧ (∀ j, j < 301 → mh_bp (f j) (mh_py (mh_pk P (i + 1)) j)) ∧ mh_Co (mh_up h3 b (.inl (2, 301, .inl f4))) k u g (mh_pk P (i + 1)) ∧ mh_fr [b, k, u] h (mh_up h3 b (.inl (2, 301, .inl f4)))
              rw [mh_pk_y ⟨p1, p3⟩]
              refine ⟨?_, f4, g3, mh_up_eq _ _ _, z2, y2.keep (mh_up_ne n6.symm) (mh_up_ne n7.symm), fr3.trans (mh_fr.up (by simp))⟩
              rw [List.length_append]
              have e : ([i + 1] : List Nat).length = 1 := rfl
              omega
            · rw [f_X5_pick_b39, if_neg c1, mh_gR_eq (k := 0) wo rfl, Option.bind_some, mh_aI_eq wa (by omega) (by omega), Option.bind_some, if_neg (by rw [p2]; decide), mh_gR_eq (k := 1) wo rfl, Option.bind_some, mh_aI_eq q3 (by omega) (by omega), Option.bind_some, if_pos p4, mh_gR_eq (k := 2) wo rfl, Option.bind_some, mh_cal_eq q5.1, mh_b2_eq y1, if_neg (by decide), mh_cal_eq (ob h3 fr3), z1, Option.bind_some]
              unfold f_X5_pick_b82
              rw [mh_nm_eq, mh_inc]
      · left
        refine skip (fun q => p1 q.1) ?_
        rw [f_X5_pick_b39, if_neg c1, mh_gR_eq (k := 0) wo rfl, Option.bind_some, mh_aI_eq wa (by omega) (by omega), Option.bind_some, if_pos p2]
        unfold f_X5_pick_b82
        rw [mh_nm_eq, mh_inc]
  have c0 : (mh_up h k (.inr (1, [.ref u, .int (nI 0)]))) o = some (mh_Ns a b k) := by rw [mh_up_ne n2]; exact e0
  have key := mh_wh (fun n (q : Nat × (Nat → Int32)) => f_X5_pick_b9 n o (nI q.1) (mh_up (mh_up h k (.inr (1, [.ref u, .int (nI 0)]))) b (.inl (2, 301, .inl q.2))))
    (fun (f : Nat → Int32) => f_X5_pick_b37 o (mh_up (mh_up h k (.inr (1, [.ref u, .int (nI 0)]))) b (.inl (2, 301, .inl f))))
    (fun q => q.1 ≤ 301 ∧ ∀ j, j < q.1 → mh_bp (q.2 j) (mh_py [] j)) (fun q => 301 - q.1) (fun f => ∀ j, j < 301 → mh_bp (f j) (mh_py [] j))
    (fun n q hq => by
      obtain ⟨i, f⟩ := q
      obtain ⟨q1, q2⟩ := hq
      have q1 : i ≤ 301 := q1
      have q2 : ∀ j, j < i → mh_bp (f j) (mh_py [] j) := q2
      show (∃ s', _ ∧ _ ∧ f_X5_pick_b9 (n + 1) o (nI i) (mh_up (mh_up h k (.inr (1, [.ref u, .int (nI 0)]))) b (.inl (2, 301, .inl f))) = _) ∨ ∃ r, _ ∧ f_X5_pick_b9 (n + 1) o (nI i) (mh_up (mh_up h k (.inr (1, [.ref u, .int (nI 0)]))) b (.inl (2, 301, .inl f))) = _
      have c1 : (mh_up (mh_up h k (.inr (1, [.ref u, .int (nI 0)]))) b (.inl (2, 301, .inl f))) o = some (mh_Ns a b k) := by rw [mh_up_ne n1]; exact c0
      by_cases hi : 300 < i
      · right
        refine ⟨f, by rw [show (301 : Nat) = i by omega]; exact q2, ?_⟩
        rw [f_X5_pick_b9, if_pos ((mh_ltl (a := 300) 300 rfl (by omega) (by omega)).mpr hi)]
      · left
        have c2 : ¬ (300 : Int32) < nI i := fun q => hi ((mh_ltl (a := 300) 300 rfl (by omega) (by omega)).mp q)
        have go : ∀ x : Int32, (x = 0 ∨ x = 1) → mh_bp x (mh_py [] i) → f_X5_pick_b30 (f_X5_pick_b9 n) o (nI i) b (nI i) x (mh_up (mh_up h k (.inr (1, [.ref u, .int (nI 0)]))) b (.inl (2, 301, .inl f))) = f_X5_pick_b9 n o (nI (i + 1)) (mh_up (mh_up h k (.inr (1, [.ref u, .int (nI 0)]))) b (.inl (2, 301, .inl (upd f i x)))) ∧ ∀ j, j < i + 1 → mh_bp (upd f i x j) (mh_py [] j) := fun x hx hb => by
          refine ⟨?_, fun j hj => ?_⟩
          · unfold f_X5_pick_b30
            rw [mh_sZ_eq (mh_up_eq _ _ _) (by omega) (by omega) hx, Option.bind_some, mh_nm_eq, mh_inc, mh_up_up]
          · by_cases hji : j = i
            · rw [hji, pk_us]; exact hb
            · rw [pk_un hji]; exact q2 j (by omega)
        by_cases hz : i = 0
        · obtain ⟨r1, r2⟩ := go 1 (Or.inr rfl) (mh_bp1 (by rw [hz]; exact mh_py0 []))
          refine ⟨(i + 1, upd f i 1), ⟨by show i + 1 ≤ 301; omega, r2⟩, by show 301 - (i + 1) < 301 - i; omega, ?_⟩
          rw [f_X5_pick_b9, if_neg c2, mh_gR_eq (k := 1) c1 rfl, Option.bind_some, if_pos (by rw [hz]; rfl)]
          exact r1
        · obtain ⟨r1, r2⟩ := go 0 (Or.inl rfl) (mh_bp0 (fun q => hz (mh_py_nil.mp q)))
          refine ⟨(i + 1, upd f i 0), ⟨by show i + 1 ≤ 301; omega, r2⟩, by show 301 - (i + 1) < 301 - i; omega, ?_⟩
          rw [f_X5_pick_b9, if_neg c2, mh_gR_eq (k := 1) c1 rfl, Option.bind_some, if_neg (nI_ne0 (by omega) (by omega))]
          exact r1)
    301 mh_fu (0, fb) (by show 301 - 0 ≤ 301; omega) ⟨Nat.zero_le _, fun j hj => absurd hj (Nat.not_lt_zero j)⟩ (mh_fuel _ (by omega))
  obtain ⟨f1, z1, z2⟩ := key
  have z2 : f_X5_pick_b9 mh_fu o (nI 0) (mh_up (mh_up h k (.inr (1, [.ref u, .int (nI 0)]))) b (.inl (2, 301, .inl fb))) = f_X5_pick_b37 o (mh_up (mh_up h k (.inr (1, [.ref u, .int (nI 0)]))) b (.inl (2, 301, .inl f1))) := z2
  rw [mh_up_id (show (mh_up h k (.inr (1, [.ref u, .int (nI 0)]))) b = some (.inl (2, 301, .inl fb)) by rw [mh_up_ne n6]; exact e2), nI_0] at z2
  obtain ⟨r, r1, r2⟩ := main _ f1 fk ((mh_fr.up (by simp)).trans (mh_fr.up (by simp))) (mh_up_eq (mh_up h k (.inr (1, [.ref u, .int (nI 0)]))) b (.inl (2, 301, .inl f1))) z1 (x2.keep (mh_up_ne n6.symm) (mh_up_ne n7.symm))
  refine ⟨r, ?_, r1⟩
  unfold f_X5_pick_e
  rw [mh_gR_eq (k := 2) e0 rfl, Option.bind_some, mh_cal_eq e3.1, x1, Option.bind_some, mh_nm_eq, nI_0, z2]
  exact r2
end MhPick
