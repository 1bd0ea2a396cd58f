/-- a row of what is paid, while a coin more is let in -/
def mh_prw (N : Nat) (K : List Nat) (c s : Nat) (f : Nat → Int32) : Prop := (∀ t, t < s → t ≤ N → mh_bp (f t) (mh_py (K ++ [c]) t)) ∧ ∀ t, s ≤ t → t ≤ N → mh_bp (f t) (mh_py K t)
theorem mh_prw_0 {N c : Nat} {K : List Nat} {f : Nat → Int32} (h : ∀ t, t ≤ N → mh_bp (f t) (mh_py K t)) : mh_prw N K c c f := ⟨fun t ht hn => (h t hn).iff ⟨fun q => mh_py_app.mpr (Or.inl q), fun q => (mh_py_app.mp q).elim id (fun q => absurd q.1 (by omega))⟩, fun t _ hn => h t hn⟩
theorem mh_prw_s {N c s : Nat} {K : List Nat} {f : Nat → Int32} {x : Int32} (hc : c ≤ s) (hp : mh_prw N K c s f) (hx : mh_bp x (mh_py K s ∨ mh_py (K ++ [c]) (s - c))) : mh_prw N K c (s + 1) (upd f s x) := by
  refine ⟨fun t ht hn => ?_, fun t ht hn => ?_⟩
  · by_cases e : t = s
    · rw [e, pk_us]
      refine hx.iff ⟨fun q => mh_py_app.mpr (q.elim Or.inl (fun q => Or.inr ⟨hc, q⟩)), fun q => (mh_py_app.mp q).elim Or.inl (fun q => Or.inr q.2)⟩
    · rw [pk_un e]; exact hp.1 t (by omega) hn
  · rw [pk_un (by omega)]; exact hp.2 t (by omega) hn
theorem mh_bp_or0 {x y : Int32} {P Q : Prop} (hx : mh_bp x P) (hy : mh_bp y Q) (c1 : x = 0) (c2 : y = 0) : mh_bp 0 (P ∨ Q) := mh_bp0 (fun q => q.elim (hx.z.mp c1) (hy.z.mp c2))
theorem mh_bp_or1 {x y : Int32} {P Q : Prop} (hy : mh_bp y Q) (c2 : ¬ y = 0) : mh_bp 1 (P ∨ Q) := mh_bp1 (Or.inr (by
  rcases hy with ⟨q, _⟩ | ⟨_, q⟩
  · exact q
  · exact absurd q c2))
theorem mh_bp_or2 {x : Int32} {P Q : Prop} (hx : mh_bp x P) (c1 : ¬ x = 0) : mh_bp 1 (P ∨ Q) := mh_bp1 (Or.inl (by
  rcases hx with ⟨q, _⟩ | ⟨_, q⟩
  · exact q
  · exact absurd q c1))
theorem mh_bp_z0 (s : Nat) : mh_bp (if s = 0 then 1 else 0) (mh_py [] s) := by
  by_cases c : s = 0
  · rw [if_pos c]; exact mh_bp1 (mh_py_nil.mpr c)
  · rw [if_neg c]; exact mh_bp0 (fun q => c (mh_py_nil.mp q))
theorem mh_pk_flat {off : Nat → Prop} {a : Nat} : ∀ (d : Nat), (∀ x, a < x → x ≤ a + d → ¬ off x) → mh_pk off (a + d) = mh_pk off a := by
  intro d
  induction d with
  | zero => intro _; rfl
  | succ d ih =>
    intro hx
    rw [← Nat.add_assoc, mh_pk_n (fun q => hx (a + d + 1) (by omega) (by omega) q.1)]
    exact ih (fun x h1 h2 => hx x h1 (by omega))
/-- what stands in the reference's row of some coins -/
def mh_Sm (h : mh_H) (bd : Nat → Nat) (F : Nat → Int32) (L : List Nat) : Prop := F 14 = nI L.length ∧ ∃ f, h (bd 56) = some (.inl (0, 24, .inl f)) ∧ ∀ i, i < L.length → f i = nI (L.getD i 0)
section MhModelN
variable {h : mh_H} {bd : Nat → Nat} {σ : mh_Sg} {F : Nat → Int32}
/-- numbers that say nothing of the state, and rows that say nothing of it, change -/
theorem mh_RI.fl (hR : mh_RI h bd σ F) {h' : mh_H} {F' : Nat → Int32} (hF : ∀ j, j ≠ 0 → j ≠ 14 → j ≠ 22 → j ≠ 26 → j ≠ 27 → j ≠ 28 → F' j = F j) (ho : h' (bd 0) = some (.inr (12, mh_rf bd F'))) (S : List Nat) (hS : ∀ i, i ∈ S → i < 11) (hf : ∀ b, b ≠ bd 0 → (∀ i, i ∈ S → ∀ k, mh_rr i ≤ k → k < mh_rr (i + 1) → b ≠ bd k) → h' b = h b) (hc : ∀ i, i ∈ S → mh_rc bd σ F' i h') : mh_RI h' bd σ F' ∧ mh_frR bd h h' := by
  obtain ⟨i1, i2, i3, i4, i5⟩ := hR.ii
  refine hR.mul (0 :: S) (fun i hi => ?_) (fun b hb => hf b (hb 0 List.mem_cons_self 0 (by decide) (by decide)) (fun i hi => hb i (List.mem_cons_of_mem _ hi))) (fun i hi => ?_) (fun j hj hn q => ?_)
  · rcases List.mem_cons.mp hi with e | e
    · omega
    · exact hS i e
  · by_cases e : i ∈ S
    · exact hc i e
    · rcases List.mem_cons.mp hi with e2 | e2
      · subst e2
        exact ⟨ho, by rw [hF 3 (by omega) (by omega) (by omega) (by omega) (by omega) (by omega)]; exact i1, by rw [hF 4 (by omega) (by omega) (by omega) (by omega) (by omega) (by omega)]; exact i2, by rw [hF 5 (by omega) (by omega) (by omega) (by omega) (by omega) (by omega)]; exact i3, by rw [hF 23 (by omega) (by omega) (by omega) (by omega) (by omega) (by omega)]; exact i4, by rw [hF 15 (by omega) (by omega) (by omega) (by omega) (by omega) (by omega)]; exact i5⟩
      · exact absurd e2 e
  · have j0 : j ≠ 0 := fun e => hn (by rw [e]; exact List.mem_cons_self)
    obtain rfl | rfl | rfl | rfl | rfl | rfl | rfl | rfl | rfl | rfl : j = 1 ∨ j = 2 ∨ j = 3 ∨ j = 4 ∨ j = 5 ∨ j = 6 ∨ j = 7 ∨ j = 8 ∨ j = 9 ∨ j = 10 := by omega
    · exact q
    · exact q
    · obtain ⟨fb, G, h1, h2, h3, h4⟩ := q
      exact ⟨fb, G, h1, h2, h3, by rw [hF 7 (by omega) (by omega) (by omega) (by omega) (by omega) (by omega)]; exact h4⟩
    · exact q
    · exact q
    · exact q
    · obtain ⟨f1, f2, h1, h2, h3⟩ := q
      exact ⟨f1, f2, h1, h2, by rw [hF 16 (by omega) (by omega) (by omega) (by omega) (by omega) (by omega)]; exact h3⟩
    · exact q
    · exact q
    · exact q
theorem mh_r_put14 {H : mh_H} {F : Nat → Int32} (ho : H (bd 0) = some (.inr (12, mh_rf bd F))) (v : Int32) : mh_pI H (bd 0) 12 14 v = some (mh_up H (bd 0) (.inr (12, mh_rf bd (upd F 14 v)))) := mh_pI_s _ ho ⟨show 14 < 38 by omega, rfl⟩
theorem mh_r_take (hR : mh_RI h bd σ F) {p : Nat} (hp : p < 8) : ∃ h' F', f_X12_take_e (bd 0) (nI p) h = some h' ∧ mh_RI h' bd σ F' ∧ (∀ j, j ≠ 14 → F' j = F j) ∧ mh_Sm h' bd F' (mh_mi σ p) ∧ mh_frR bd h h' ∧ mh_fr [bd 0, bd 56] h h' := by
  obtain ⟨g, hg, hw⟩ := hR.2 1 (by omega)
  obtain ⟨f0, hf0⟩ := hR.2 6 (by omega)
  obtain ⟨w1, w2, w3, w4, _⟩ := hw p hp
  obtain ⟨cs, ecs⟩ : ∃ cs, cs = mh_mi σ p := ⟨_, rfl⟩
  rw [← ecs] at w1 w3 w4 ⊢
  have hl := w1.1.1
  have hI := hR.1
  have ho := hR.ob
  obtain ⟨H1, eH1⟩ : ∃ H1, H1 = mh_up h (bd 0) (.inr (12, mh_rf bd (upd F 14 (nI cs.length)))) := ⟨_, rfl⟩
  have p1 : mh_pI h (bd 0) 12 14 (nI cs.length) = some H1 := by rw [eH1]; exact mh_r_put14 ho _
  have o1 : H1 (bd 0) = some (.inr (12, mh_rf bd (upd F 14 (nI cs.length)))) := by rw [eH1]; exact mh_up_eq _ _ _
  have k1 : ∀ y, y < 99 → y ≠ 0 → H1 (bd y) = h (bd y) := fun y hy e => by rw [eH1]; exact mh_up_ne (hI.ne hy (by omega) e)
  have key := mh_wh (fun m (q : Nat × mh_H) => f_X12_take_b15 m (bd 0) (nI p) (nI q.1) q.2) (fun (r : mh_H) => some r) (fun q => q.1 ≤ cs.length ∧ mh_fr [bd 56] H1 q.2 ∧ ∃ f, q.2 (bd 56) = some (.inl (0, 24, .inl f)) ∧ ∀ i, i < q.1 → f i = nI (cs.getD i 0)) (fun q => cs.length - q.1) (fun r => mh_fr [bd 56] H1 r ∧ ∃ f, r (bd 56) = some (.inl (0, 24, .inl f)) ∧ ∀ i, i < cs.length → f i = nI (cs.getD i 0))
    (fun m q hq => by
      obtain ⟨k, hh⟩ := q
      obtain ⟨q1, q2, f, q3, q4⟩ := hq
      have q1 : k ≤ cs.length := q1
      have q2 : mh_fr [bd 56] H1 hh := q2
      have q3 : hh (bd 56) = some (.inl (0, 24, .inl f)) := q3
      have q4 : ∀ i, i < k → f i = nI (cs.getD i 0) := q4
      show (∃ s', _ ∧ _ ∧ f_X12_take_b15 (m + 1) (bd 0) (nI p) (nI k) hh = _) ∨ ∃ r, _ ∧ f_X12_take_b15 (m + 1) (bd 0) (nI p) (nI k) hh = _
      have ho' := (q2 (bd 0) (by simp [hI.ne (show 0 < 99 by omega) (show 56 < 99 by omega) (by omega)])).trans o1
      have hg' := ((q2 (bd 1) (by simp [hI.ne (show 1 < 99 by omega) (show 56 < 99 by omega) (by omega)])).trans (k1 1 (by omega) (by omega))).trans hg
      have e14 : upd F 14 (nI cs.length) 14 = nI cs.length := pk_us
      rw [f_X12_take_b15, mh_gI_eq (k := 14) ho' rfl, Option.bind_some, e14]
      by_cases c : k < cs.length
      · left
        have e1 : nI (13 * p) + (1 : Int32) + nI k = nI (13 * p + 1 + k) := by rw [nI_1, nI_add]
        refine ⟨(k + 1, mh_up hh (bd 56) (.inl (0, 24, .inl (upd f k (nI (cs.getD k 0)))))), ⟨c, q2.trans (mh_fr.up List.mem_cons_self), _, mh_up_eq _ _ _, fun i hi => ?_⟩, by show cs.length - (k + 1) < cs.length - k; omega, ?_⟩
        · have hi : i < k + 1 := hi
          by_cases e : i = k
          · rw [e, pk_us]
          · rw [pk_un e]; exact q4 i (by omega)
        · rw [if_neg (fun q => absurd ((nI_leI (by omega) (by omega)).mp q) (by omega)), mh_gR_eq (k := 13) ho' rfl, Option.bind_some, mh_gR_eq (k := 1) ho' rfl, Option.bind_some, mh_b2_eq mh_r_mintAt, e1, mh_aI_eq hg' (show 13 * p + 1 + k < 304 by omega) (by omega), Option.bind_some, w4 k c, mh_sI_eq q3 (by omega) (by omega), Option.bind_some, mh_nm_eq, mh_inc]
      · right
        have e : k = cs.length := by omega
        subst e
        exact ⟨hh, ⟨q2, f, q3, q4⟩, by rw [if_pos ((nI_leI (by omega) (by omega)).mpr (by omega))]; rfl⟩)
    12 mh_fu (0, H1) (by show cs.length - 0 ≤ 12; omega) ⟨Nat.zero_le _, mh_fr.rfl, f0, (k1 56 (by omega) (by omega)).trans hf0, fun i hi => absurd hi (Nat.not_lt_zero i)⟩ (mh_fuel _ (by omega))
  obtain ⟨h', ⟨z1, f, z2, z3⟩, z4⟩ := key
  have z4 : f_X12_take_b15 mh_fu (bd 0) (nI p) 0 H1 = some h' := z4
  have o2 := (z1 (bd 0) (by simp [hI.ne (show 0 < 99 by omega) (show 56 < 99 by omega) (by omega)])).trans o1
  have off : ∀ b, b ≠ bd 0 → b ≠ bd 56 → h' b = h b := fun b b1 b2 => (z1 b (by simp [b2])).trans (by rw [eH1]; exact mh_up_ne b1)
  obtain ⟨R2, f2⟩ := hR.fl (h' := h') (F' := upd F 14 (nI cs.length)) (fun j _ e _ _ _ _ => pk_un e) o2 [6] (fun i hi => by rw [List.mem_singleton.mp hi]; omega) (fun b b1 b2 => off b b1 (b2 6 (by decide) 56 (by decide) (by decide))) (fun i hi => by rw [List.mem_singleton.mp hi]; exact ⟨f, z2⟩)
  refine ⟨h', upd F 14 (nI cs.length), ?_, R2, fun j e => pk_un e, ⟨pk_us, f, z2, z3⟩, f2, fun b hb => off b (fun q => hb (by rw [q]; simp)) (fun q => hb (by rw [q]; simp))⟩
  unfold f_X12_take_e
  rw [mh_gR_eq (k := 1) ho rfl, Option.bind_some, mh_b2_eq mh_r_mintAt, mh_aI_eq hg (show 13 * p < 304 by omega) (by omega), Option.bind_some, w3, p1, Option.bind_some, mh_nm_eq, z4]
theorem mh_r_kn0 {g0 : Nat → Int32} (hI : mh_Inj bd 99) (ho : h (bd 0) = some (.inr (12, mh_rf bd F))) (hb : h (bd 94) = some (.inl (2, 301, .inl g0))) : ∃ h' g, f_X12_keepNeeded_b2 mh_fu (bd 0) 0 h = f_X12_keepNeeded_b30 (bd 0) h' ∧ h' (bd 94) = some (.inl (2, 301, .inl g)) ∧ mh_fr [bd 94] h h' ∧ ∀ t, t ≤ 300 → mh_bp (g t) (mh_py [] t) := by
  have key := mh_wh (fun m (q : Nat × mh_H) => f_X12_keepNeeded_b2 m (bd 0) (nI q.1) q.2) (fun (r : mh_H) => f_X12_keepNeeded_b30 (bd 0) r) (fun q => q.1 ≤ 301 ∧ mh_fr [bd 94] h q.2 ∧ ∃ g, q.2 (bd 94) = some (.inl (2, 301, .inl g)) ∧ ∀ t, t < q.1 → mh_bp (g t) (mh_py [] t)) (fun q => 301 - q.1) (fun r => mh_fr [bd 94] h r ∧ ∃ g, r (bd 94) = some (.inl (2, 301, .inl g)) ∧ ∀ t, t ≤ 300 → mh_bp (g t) (mh_py [] t))
    (fun m q hq => by
      obtain ⟨s, hh⟩ := q
      obtain ⟨q1, q2, g, q3, q4⟩ := hq
      have q1 : s ≤ 301 := q1
      have q2 : mh_fr [bd 94] h hh := q2
      have q3 : hh (bd 94) = some (.inl (2, 301, .inl g)) := q3
      have q4 : ∀ t, t < s → mh_bp (g t) (mh_py [] t) := q4
      show (∃ s', _ ∧ _ ∧ f_X12_keepNeeded_b2 (m + 1) (bd 0) (nI s) hh = _) ∨ ∃ r, _ ∧ f_X12_keepNeeded_b2 (m + 1) (bd 0) (nI s) hh = _
      have ho' := (q2 (bd 0) (by simp [hI.ne (show 0 < 99 by omega) (show 94 < 99 by omega) (by omega)])).trans ho
      rw [f_X12_keepNeeded_b2]
      by_cases c : s ≤ 300
      · left
        have fin : ∀ v : Int32, (v = 0 ∨ v = 1) → mh_bp v (mh_py [] s) → ∃ s' : Nat × mh_H, (s'.1 ≤ 301 ∧ mh_fr [bd 94] h s'.2 ∧ ∃ g, s'.2 (bd 94) = some (.inl (2, 301, .inl g)) ∧ ∀ t, t < s'.1 → mh_bp (g t) (mh_py [] t)) ∧ 301 - s'.1 < 301 - s ∧ f_X12_keepNeeded_b23 (f_X12_keepNeeded_b2 m) (bd 0) (nI s) (bd 94) (nI s) v hh = f_X12_keepNeeded_b2 m (bd 0) (nI s'.1) s'.2 := fun v hv hb => by
          refine ⟨(s + 1, mh_up hh (bd 94) (.inl (2, 301, .inl (upd g s v)))), ⟨by show s + 1 ≤ 301; omega, q2.trans (mh_fr.up List.mem_cons_self), _, mh_up_eq _ _ _, fun t ht => ?_⟩, by show 301 - (s + 1) < 301 - s; omega, ?_⟩
          · have ht : t < s + 1 := ht
            by_cases e : t = s
            · rw [e, pk_us]; exact hb
            · rw [pk_un e]; exact q4 t (by omega)
          · unfold f_X12_keepNeeded_b23
            rw [mh_sZ_eq q3 (by omega) (by omega) hv, Option.bind_some, mh_nm_eq, mh_inc]
        rw [if_neg (fun q => absurd ((mh_ltl (a := 300) 300 rfl (by omega) (by omega)).mp q) (by omega)), mh_gR_eq (k := 33) ho' rfl, Option.bind_some]
        have zb := mh_bp_z0 s
        by_cases e : s = 0
        · rw [if_pos e] at zb
          rw [if_pos ((mh_eqr (b := 0) 0 rfl (by omega) (by omega)).mpr e)]
          exact fin 1 (Or.inr rfl) zb
        · rw [if_neg e] at zb
          rw [if_neg (fun q => e ((mh_eqr (b := 0) 0 rfl (by omega) (by omega)).mp q))]
          exact fin 0 (Or.inl rfl) zb
      · right
        exact ⟨hh, ⟨q2, g, q3, fun t ht => q4 t (by omega)⟩, by rw [if_pos ((mh_ltl (a := 300) 300 rfl (by omega) (by omega)).mpr (by omega))]⟩)
    301 mh_fu (0, h) (by show 301 - 0 ≤ 301; omega) ⟨Nat.zero_le _, mh_fr.rfl, g0, hb, fun i hi => absurd hi (Nat.not_lt_zero i)⟩ (mh_fuel _ (by omega))
  obtain ⟨h', ⟨z1, g, z2, z3⟩, z4⟩ := key
  exact ⟨h', g, z4, z2, z1, z3⟩
theorem mh_r_kn1 (k122 : Nat → Int32 → Int32 → mh_H → Option mh_H) {x1 x2 : Int32} {g0 : Nat → Int32} {K : List Nat} {c : Nat} (hI : mh_Inj bd 99) (ho : h (bd 0) = some (.inr (12, mh_rf bd F))) (hb : h (bd 94) = some (.inl (2, 301, .inl g0))) (hK : ∀ t, t ≤ 300 → mh_bp (g0 t) (mh_py K t)) (h1 : 1 ≤ c) (h2 : c ≤ 300) : ∃ h' g, f_X12_keepNeeded_b74 k122 mh_fu (bd 0) x1 x2 (nI c) (nI c) h = k122 (bd 0) x1 x2 h' ∧ h' (bd 94) = some (.inl (2, 301, .inl g)) ∧ mh_fr [bd 94] h h' ∧ ∀ t, t ≤ 300 → mh_bp (g t) (mh_py (K ++ [c]) t) := by
  have key := mh_wh (fun m (q : Nat × mh_H) => f_X12_keepNeeded_b74 k122 m (bd 0) x1 x2 (nI c) (nI q.1) q.2) (fun (r : mh_H) => k122 (bd 0) x1 x2 r) (fun q => c ≤ q.1 ∧ q.1 ≤ 301 ∧ mh_fr [bd 94] h q.2 ∧ ∃ g, q.2 (bd 94) = some (.inl (2, 301, .inl g)) ∧ mh_prw 300 K c q.1 g) (fun q => 301 - q.1) (fun r => mh_fr [bd 94] h r ∧ ∃ g, r (bd 94) = some (.inl (2, 301, .inl g)) ∧ ∀ t, t ≤ 300 → mh_bp (g t) (mh_py (K ++ [c]) t))
    (fun m q hq => by
      obtain ⟨s, hh⟩ := q
      obtain ⟨q0, q1, q2, g, q3, q4⟩ := hq
      have q0 : c ≤ s := q0
      have q1 : s ≤ 301 := q1
      have q2 : mh_fr [bd 94] h hh := q2
      have q3 : hh (bd 94) = some (.inl (2, 301, .inl g)) := q3
      have q4 : mh_prw 300 K c s g := q4
      show (∃ s', _ ∧ _ ∧ f_X12_keepNeeded_b74 k122 (m + 1) (bd 0) x1 x2 (nI c) (nI s) hh = _) ∨ ∃ r, _ ∧ f_X12_keepNeeded_b74 k122 (m + 1) (bd 0) x1 x2 (nI c) (nI s) hh = _
      have ho' := (q2 (bd 0) (by simp [hI.ne (show 0 < 99 by omega) (show 94 < 99 by omega) (by omega)])).trans ho
      rw [f_X12_keepNeeded_b74]
      by_cases c1 : s ≤ 300
      · left
        have fin : ∀ v : Int32, (v = 0 ∨ v = 1) → mh_bp v (mh_py K s ∨ mh_py (K ++ [c]) (s - c)) → ∃ s' : Nat × mh_H, (c ≤ s'.1 ∧ s'.1 ≤ 301 ∧ mh_fr [bd 94] h s'.2 ∧ ∃ g, s'.2 (bd 94) = some (.inl (2, 301, .inl g)) ∧ mh_prw 300 K c s'.1 g) ∧ 301 - s'.1 < 301 - s ∧ f_X12_keepNeeded_b115 (f_X12_keepNeeded_b74 k122 m) (bd 0) x1 x2 (nI c) (nI s) (bd 94) (nI s) v hh = f_X12_keepNeeded_b74 k122 m (bd 0) x1 x2 (nI c) (nI s'.1) s'.2 := fun v hv hb => by
          refine ⟨(s + 1, mh_up hh (bd 94) (.inl (2, 301, .inl (upd g s v)))), ⟨by show c ≤ s + 1; omega, by show s + 1 ≤ 301; omega, q2.trans (mh_fr.up List.mem_cons_self), _, mh_up_eq _ _ _, mh_prw_s q0 q4 hb⟩, by show 301 - (s + 1) < 301 - s; omega, ?_⟩
          unfold f_X12_keepNeeded_b115
          rw [mh_sZ_eq q3 (by omega) (by omega) hv, Option.bind_some, mh_nm_eq, mh_inc]
        have b1 := q4.2 s (Nat.le_refl _) c1
        have b2 := q4.1 (s - c) (by omega) (by omega)
        rw [if_neg (fun q => absurd ((mh_ltl (a := 300) 300 rfl (by omega) (by omega)).mp q) (by omega)), mh_gR_eq (k := 33) ho' rfl, Option.bind_some, Option.bind_some, mh_aI_eq q3 (show s < 301 by omega) (by omega), Option.bind_some]
        by_cases c2 : g s = 0
        · rw [if_pos c2, Option.bind_some, pk_sub q0, mh_aI_eq q3 (show s - c < 301 by omega) (by omega), Option.bind_some]
          by_cases c3 : g (s - c) = 0
          · rw [if_pos c3]
            exact fin 0 (Or.inl rfl) (mh_bp_or0 b1 b2 c2 c3)
          · rw [if_neg c3]
            exact fin 1 (Or.inr rfl) (mh_bp_or1 (x := 0) b2 c3)
        · rw [if_neg c2]
          exact fin 1 (Or.inr rfl) (mh_bp_or2 b1 c2)
      · right
        exact ⟨hh, ⟨q2, g, q3, fun t ht => q4.1 t (by omega) ht⟩, by rw [if_pos ((mh_ltl (a := 300) 300 rfl (by omega) (by omega)).mpr (by omega))]⟩)
    301 mh_fu (c, h) (by show 301 - c ≤ 301; omega) ⟨Nat.le_refl _, by show c ≤ 301; omega, mh_fr.rfl, g0, hb, mh_prw_0 hK⟩ (mh_fuel _ (by omega))
  obtain ⟨h', ⟨z1, g, z2, z3⟩, z4⟩ := key
  exact ⟨h', g, z4, z2, z1, z3⟩
theorem mh_r_keep (hR : mh_RI h bd σ F) {L : List Nat} (hS : mh_Sm h bd F L) (l1 : L.length ≤ 24) (l2 : ∀ x, x ∈ L → 1 ≤ x ∧ x ≤ 300) (l3 : L.Pairwise (· < ·)) : ∃ h' F', f_X12_keepNeeded_e (bd 0) h = some h' ∧ mh_RI h' bd σ F' ∧ (∀ j, j ≠ 14 → F' j = F j) ∧ mh_Sm h' bd F' (mh_pk (fun j => j ∈ L) 300) ∧ mh_frR bd h h' ∧ mh_fr [bd 0, bd 56, bd 94] h h' := by
  have hI := hR.1
  have ho := hR.ob
  obtain ⟨s14, f0, hf0, hfv⟩ := hS
  obtain ⟨r1, r2, r3, r4, r5, r6, c1, c0, c2, c3, c4, c5, c6⟩ := hR.2 10 (by omega)
  obtain ⟨h1, g1, y1, y2, y3, y4⟩ := mh_r_kn0 hI ho c2
  have k1 : ∀ y, y < 99 → y ≠ 94 → h1 (bd y) = h (bd y) := fun y hy e => y3 _ (by simp [hI.ne hy (show 94 < 99 by omega) e])
  have key := mh_wh (fun m (q : (Nat × Nat) × mh_H) => f_X12_keepNeeded_b34 m (bd 0) (nI (mh_pk (fun j => j ∈ L) q.1.2).length) (nI q.1.1) q.2) (fun (r : mh_H) => f_X12_keepNeeded_b128 (bd 0) (nI (mh_pk (fun j => j ∈ L) 300).length) r) (fun q => q.1.1 ≤ L.length ∧ q.1.2 ≤ 300 ∧ (∀ i, i < q.1.1 → L.getD i 0 ≤ q.1.2) ∧ (∀ i, q.1.1 ≤ i → i < L.length → q.1.2 < L.getD i 0) ∧ (mh_pk (fun j => j ∈ L) q.1.2).length ≤ q.1.1 ∧ mh_fr [bd 56, bd 94] h1 q.2 ∧ (∃ f, q.2 (bd 56) = some (.inl (0, 24, .inl f)) ∧ (∀ i, i < (mh_pk (fun j => j ∈ L) q.1.2).length → f i = nI ((mh_pk (fun j => j ∈ L) q.1.2).getD i 0)) ∧ ∀ i, q.1.1 ≤ i → i < L.length → f i = nI (L.getD i 0)) ∧ ∃ g, q.2 (bd 94) = some (.inl (2, 301, .inl g)) ∧ ∀ t, t ≤ 300 → mh_bp (g t) (mh_py (mh_pk (fun j => j ∈ L) q.1.2) t)) (fun q => L.length - q.1.1) (fun r => mh_fr [bd 56, bd 94] h1 r ∧ (∃ f, r (bd 56) = some (.inl (0, 24, .inl f)) ∧ ∀ i, i < (mh_pk (fun j => j ∈ L) 300).length → f i = nI ((mh_pk (fun j => j ∈ L) 300).getD i 0)) ∧ ∃ g, r (bd 94) = some (.inl (2, 301, .inl g)))
    (fun m q hq => by
      obtain ⟨⟨k, b⟩, hh⟩ := q
      obtain ⟨q1, q2, q3, q4, q5, q6, ⟨f, q7, q8, q9⟩, g, q10, q11⟩ := hq
      have q1 : k ≤ L.length := q1
      have q2 : b ≤ 300 := q2
      have q3 : ∀ i, i < k → L.getD i 0 ≤ b := q3
      have q4 : ∀ i, k ≤ i → i < L.length → b < L.getD i 0 := q4
      have q5 : (mh_pk (fun j => j ∈ L) b).length ≤ k := q5
      have q6 : mh_fr [bd 56, bd 94] h1 hh := q6
      have q7 : hh (bd 56) = some (.inl (0, 24, .inl f)) := q7
      have q8 : ∀ i, i < (mh_pk (fun j => j ∈ L) b).length → f i = nI ((mh_pk (fun j => j ∈ L) b).getD i 0) := q8
      have q9 : ∀ i, k ≤ i → i < L.length → f i = nI (L.getD i 0) := q9
      have q10 : hh (bd 94) = some (.inl (2, 301, .inl g)) := q10
      have q11 : ∀ t, t ≤ 300 → mh_bp (g t) (mh_py (mh_pk (fun j => j ∈ L) b) t) := q11
      show (∃ s', _ ∧ _ ∧ f_X12_keepNeeded_b34 (m + 1) (bd 0) (nI (mh_pk (fun j => j ∈ L) b).length) (nI k) hh = _) ∨ ∃ r, _ ∧ f_X12_keepNeeded_b34 (m + 1) (bd 0) (nI (mh_pk (fun j => j ∈ L) b).length) (nI k) hh = _
      have ho' := ((q6 (bd 0) (by simp [hI.ne (show 0 < 99 by omega) (show 94 < 99 by omega) (by omega), hI.ne (show 0 < 99 by omega) (show 56 < 99 by omega) (by omega)])).trans (k1 0 (by omega) (by omega))).trans ho
      rw [f_X12_keepNeeded_b34, mh_gI_eq (k := 14) ho' rfl, Option.bind_some, s14]
      by_cases c : k < L.length
      · left
        obtain ⟨x, ex⟩ : ∃ x, x = L.getD k 0 := ⟨_, rfl⟩
        have xm : x ∈ L := by rw [ex]; exact mh_get_mem c
        have xb := l2 x xm
        have bx : b < x := by rw [ex]; exact q4 k (Nat.le_refl _) c
        have none : ∀ z, b < z → z < x → z ∉ L := fun z z1 z2 hz => by
          obtain ⟨i, i1, i2⟩ := mh_mem_get hz
          by_cases e : i < k
          · have := q3 i e; omega
          · by_cases e2 : i = k
            · subst e2; omega
            · have := mh_pw_ne l3 (show k < i by omega) i1; omega
        have ep : mh_pk (fun j => j ∈ L) (x - 1) = mh_pk (fun j => j ∈ L) b := by
          have := mh_pk_flat (off := fun j => j ∈ L) (a := b) (x - 1 - b) (fun z z1 z2 => none z z1 (by omega))
          rwa [show b + (x - 1 - b) = x - 1 by omega] at this
        have bp := q11 x xb.2
        have nx3 : ∀ i, i < k + 1 → L.getD i 0 ≤ x := fun i hi => by
          by_cases e : i = k
          · rw [e, ex]; exact Nat.le_refl _
          · have := q3 i (by omega); omega
        have nx4 : ∀ i, k + 1 ≤ i → i < L.length → x < L.getD i 0 := fun i i1 i2 => by rw [ex]; exact mh_pw_ne l3 (by omega) i2
        rw [if_neg (fun q => absurd ((nI_leI (by omega) (by omega)).mp q) (by omega)), mh_gR_eq (k := 13) ho' rfl, Option.bind_some, mh_aI_eq q7 (show k < 24 by omega) (by omega), Option.bind_some, q9 k (Nat.le_refl _) c, ← ex, mh_gR_eq (k := 33) ho' rfl, Option.bind_some, mh_aI_eq q10 (show x < 301 by omega) (by omega), Option.bind_some]
        by_cases c2 : g x = 0
        · have np := bp.z.mp c2
          have ey : mh_pk (fun j => j ∈ L) x = mh_pk (fun j => j ∈ L) b ++ [x] := by
            have := mh_pk_y (off := fun j => j ∈ L) (n := x - 1) ⟨by show x - 1 + 1 ∈ L; rw [Nat.sub_add_cancel xb.1]; exact xm, by rw [Nat.sub_add_cancel xb.1, ep]; exact np⟩
            rwa [Nat.sub_add_cancel xb.1, ep] at this
          obtain ⟨K, eK⟩ : ∃ K, K = mh_pk (fun j => j ∈ L) b := ⟨_, rfl⟩
          rw [← eK] at ey q5 q8 q11
          obtain ⟨H2, eH2⟩ : ∃ H2, H2 = mh_up hh (bd 56) (.inl (0, 24, .inl (upd f K.length (nI x)))) := ⟨_, rfl⟩
          have sI : mh_sI hh (bd 56) (nI K.length) (nI x) = some H2 := by rw [eH2]; exact mh_sI_eq q7 (by omega) (by omega)
          have fr2 : mh_fr [bd 56, bd 94] h1 H2 := by rw [eH2]; exact q6.trans (mh_fr.up List.mem_cons_self)
          have n0 : bd 0 ≠ bd 56 := hI.ne (by omega) (by omega) (by omega)
          have n94 : bd 94 ≠ bd 56 := hI.ne (by omega) (by omega) (by omega)
          obtain ⟨H3, g3, u1, u2, u3, u4⟩ := mh_r_kn1 (h := H2) (F := F) (f_X12_keepNeeded_b122 (f_X12_keepNeeded_b34 m)) (x1 := nI (K.length + 1)) (x2 := nI k) (K := K) (c := x) hI (by rw [eH2, mh_up_ne n0]; exact ho') (by rw [eH2, mh_up_ne n94]; exact q10) q11 xb.1 xb.2
          refine ⟨((k + 1, x), H3), ⟨c, xb.2, nx3, nx4, ?_, fr2.trans (u3.sub (fun z hz => by simp only [List.mem_singleton] at hz; rw [hz]; simp)), ⟨upd f K.length (nI x), ?_, fun i hi => ?_, fun i i1 i2 => ?_⟩, g3, u2, ?_⟩, by show L.length - (k + 1) < L.length - k; omega, ?_⟩
          · show (mh_pk (fun j => j ∈ L) x).length ≤ k + 1
            rw [ey, List.length_append]
            show K.length + 1 ≤ k + 1
            omega
          · show H3 (bd 56) = _
            rw [u3 (bd 56) (by simp [hI.ne (show 56 < 99 by omega) (show 94 < 99 by omega) (by omega)]), eH2]
            exact mh_up_eq _ _ _
          · have hi : i < (mh_pk (fun j => j ∈ L) x).length := hi
            show _ = nI ((mh_pk (fun j => j ∈ L) x).getD i 0)
            rw [ey] at hi ⊢
            rw [List.length_append] at hi
            have hi : i < K.length + 1 := hi
            by_cases e : i = K.length
            · rw [e, pk_us]
              congr 1
              rw [List.getD_eq_getElem?_getD, List.getElem?_append_right (Nat.le_refl _), Nat.sub_self]
              rfl
            · rw [pk_un e, q8 i (by omega)]
              congr 1
              rw [List.getD_eq_getElem?_getD, List.getD_eq_getElem?_getD, List.getElem?_append_left (by omega)]
          · have i1 : k + 1 ≤ i := i1
            rw [pk_un (by omega)]
            exact q9 i (by omega) i2
          · show ∀ t, t ≤ 300 → mh_bp (g3 t) (mh_py (mh_pk (fun j => j ∈ L) x) t)
            rw [ey]
            exact u4
          · rw [if_pos c2, Option.bind_some, ← eK, sI, Option.bind_some, mh_nm_eq, mh_inc, u1]
            unfold f_X12_keepNeeded_b122
            rw [mh_nm_eq, mh_inc]
            show f_X12_keepNeeded_b34 m (bd 0) (nI (K.length + 1)) (nI (k + 1)) H3 = f_X12_keepNeeded_b34 m (bd 0) (nI (mh_pk (fun j => j ∈ L) x).length) (nI (k + 1)) H3
            rw [ey, List.length_append]
            rfl
        · have yp : mh_py (mh_pk (fun j => j ∈ L) b) x := by
            rcases bp with ⟨q, _⟩ | ⟨_, q⟩
            · exact q
            · exact absurd q c2
          have ey : mh_pk (fun j => j ∈ L) x = mh_pk (fun j => j ∈ L) b := by
            have := mh_pk_n (off := fun j => j ∈ L) (n := x - 1) (fun q => by
              have q2 := q.2
              rw [Nat.sub_add_cancel xb.1, ep] at q2
              exact q2 yp)
            rwa [Nat.sub_add_cancel xb.1, ep] at this
          refine ⟨((k + 1, x), hh), ⟨c, xb.2, nx3, nx4, ?_, q6, ⟨f, q7, ?_, fun i i1 i2 => q9 i (by have i1 : k + 1 ≤ i := i1; omega) i2⟩, g, q10, ?_⟩, by show L.length - (k + 1) < L.length - k; omega, ?_⟩
          · show (mh_pk (fun j => j ∈ L) x).length ≤ k + 1
            rw [ey]; omega
          · show ∀ i, i < (mh_pk (fun j => j ∈ L) x).length → f i = nI ((mh_pk (fun j => j ∈ L) x).getD i 0)
            rw [ey]; exact q8
          · show ∀ t, t ≤ 300 → mh_bp (g t) (mh_py (mh_pk (fun j => j ∈ L) x) t)
            rw [ey]; exact q11
          · rw [if_neg c2]
            unfold f_X12_keepNeeded_b122
            rw [mh_nm_eq, mh_inc]
            show _ = f_X12_keepNeeded_b34 m (bd 0) (nI (mh_pk (fun j => j ∈ L) x).length) (nI (k + 1)) hh
            rw [ey]
      · right
        have ek : k = L.length := by omega
        have ep : mh_pk (fun j => j ∈ L) 300 = mh_pk (fun j => j ∈ L) b := by
          have := mh_pk_flat (off := fun j => j ∈ L) (a := b) (300 - b) (fun z z1 z2 hz => by
            obtain ⟨i, i1, i2⟩ := mh_mem_get hz
            have := q3 i (by omega)
            omega)
          rwa [show b + (300 - b) = 300 by omega] at this
        refine ⟨hh, ⟨q6, ⟨f, q7, by rw [ep]; exact q8⟩, g, q10⟩, ?_⟩
        rw [if_pos ((nI_leI (by omega) (by omega)).mpr (by omega)), ep])
    24 mh_fu ((0, 0), h1) (by show L.length - 0 ≤ 24; omega) ⟨Nat.zero_le _, Nat.zero_le _, fun i hi => absurd hi (Nat.not_lt_zero i), fun i _ hi => (l2 _ (mh_get_mem hi)).1, Nat.le_refl _, mh_fr.rfl, ⟨f0, (k1 56 (by omega) (by omega)).trans hf0, fun i hi => absurd hi (Nat.not_lt_zero i), fun i _ hi => hfv i hi⟩, g1, y2, y4⟩ (mh_fuel _ (by omega))
  obtain ⟨h2, ⟨z1, ⟨f, z2, z3⟩, g, z4⟩, z5⟩ := key
  have z5 : f_X12_keepNeeded_b34 mh_fu (bd 0) 0 0 h1 = f_X12_keepNeeded_b128 (bd 0) (nI (mh_pk (fun j => j ∈ L) 300).length) h2 := z5
  obtain ⟨K, eK⟩ : ∃ K, K = mh_pk (fun j => j ∈ L) 300 := ⟨_, rfl⟩
  rw [← eK] at z3 z5 ⊢
  have k2 : ∀ y, y < 99 → y ≠ 56 → y ≠ 94 → h2 (bd y) = h (bd y) := fun y hy e1 e2 => (z1 _ (by simp [hI.ne hy (show 56 < 99 by omega) e1, hI.ne hy (show 94 < 99 by omega) e2])).trans (k1 y hy e2)
  have o2 := (k2 0 (by omega) (by omega) (by omega)).trans ho
  have p2 := mh_r_put14 o2 (nI K.length)
  obtain ⟨h3, e3⟩ : ∃ h3, h3 = mh_up h2 (bd 0) (.inr (12, mh_rf bd (upd F 14 (nI K.length)))) := ⟨_, rfl⟩
  rw [← e3] at p2
  have o3 : h3 (bd 0) = some (.inr (12, mh_rf bd (upd F 14 (nI K.length)))) := by rw [e3]; exact mh_up_eq _ _ _
  have k3 : ∀ y, y < 99 → y ≠ 0 → h3 (bd y) = h2 (bd y) := fun y hy e => by rw [e3]; exact mh_up_ne (hI.ne hy (by omega) e)
  have off : ∀ b, b ≠ bd 0 → b ≠ bd 56 → b ≠ bd 94 → h3 b = h b := fun b b1 b2 b3 => by
    rw [e3, mh_up_ne b1, z1 b (by simp [b2, b3])]
    exact y3 b (by simp [b3])
  obtain ⟨R3, f3⟩ := hR.fl (h' := h3) (F' := upd F 14 (nI K.length)) (fun j _ e _ _ _ _ => pk_un e) o3 [6, 10] (fun i hi => by simp only [List.mem_cons, List.not_mem_nil, or_false] at hi; omega) (fun b b1 b2 => off b b1 (b2 6 (by decide) 56 (by decide) (by decide)) (b2 10 (by decide) 94 (by decide) (by decide))) (fun i hi => by
    simp only [List.mem_cons, List.not_mem_nil, or_false] at hi
    rcases hi with e | e
    · subst e
      exact ⟨f, (k3 56 (by omega) (by omega)).trans z2⟩
    · subst e
      exact ⟨r1, g, r3, r4, r5, r6, ((k3 93 (by omega) (by omega)).trans (k2 93 (by omega) (by omega) (by omega))).trans c1, c0, (k3 94 (by omega) (by omega)).trans z4, ((k3 95 (by omega) (by omega)).trans (k2 95 (by omega) (by omega) (by omega))).trans c3, ((k3 96 (by omega) (by omega)).trans (k2 96 (by omega) (by omega) (by omega))).trans c4, ((k3 97 (by omega) (by omega)).trans (k2 97 (by omega) (by omega) (by omega))).trans c5, ((k3 98 (by omega) (by omega)).trans (k2 98 (by omega) (by omega) (by omega))).trans c6⟩)
  refine ⟨h3, upd F 14 (nI K.length), ?_, R3, fun j e => pk_un e, ⟨pk_us, f, (k3 56 (by omega) (by omega)).trans z2, z3⟩, f3, fun b hb => off b (fun q => hb (by rw [q]; simp)) (fun q => hb (by rw [q]; simp)) (fun q => hb (by rw [q]; simp))⟩
  unfold f_X12_keepNeeded_e
  rw [mh_nm_eq, y1]
  unfold f_X12_keepNeeded_b30
  rw [mh_nm_eq, mh_nm_eq, z5]
  unfold f_X12_keepNeeded_b128
  rw [p2]
  rfl
end MhModelN
