theorem mh_last_ge {b : List Nat} (hm : mh_ms b) {x : Nat} (hx : x ∈ b) : x ≤ b.getD (b.length - 1) 0 := by
  obtain ⟨i, i1, i2⟩ := mh_mem_get hx
  by_cases e : i = b.length - 1
  · rw [← i2, e]; exact Nat.le_refl _
  · have := mh_pw_ne hm.2 (show i < b.length - 1 by omega) (by omega)
    omega
theorem mh_last_app (b : List Nat) (c : Nat) : (b ++ [c]).getD ((b ++ [c]).length - 1) 0 = c := by
  rw [List.length_append]
  show (b ++ [c]).getD (b.length + 1 - 1) 0 = c
  rw [Nat.add_sub_cancel, mh_snoc_get (Nat.lt_succ_self _), if_pos rfl]
theorem mh_sl_ind {H d : Nat} {b : List Nat} (P : mh_St → Prop) (hs : ∀ c st, P st → P (mh_se H d (b ++ [c]) st)) : ∀ (m c : Nat) (st : mh_St), P st → P (mh_sl H d b c m st) := by
  intro m
  induction m with
  | zero => intro c st h; exact h
  | succ m ih =>
    intro c st h
    by_cases q : st.1 ≤ 2000
    · rw [mh_sl_s q]; exact ih _ _ (hs c st h)
    · rw [mh_sl_stop _ _ _ (by omega)]; exact h
theorem mh_se_mo {H : Nat} : ∀ (d : Nat) (b : List Nat) (st : mh_St) (k : Nat), k ≤ st.1 → k ≤ (mh_se H d b st).1 := by
  intro d
  induction d with
  | zero =>
    intro b st k hk
    by_cases c : st.1 < 2000
    · rw [mh_se_leaf c]
      split
      · show k ≤ st.1 + 1; omega
      · show k ≤ st.1 + 1; omega
    · rw [mh_se_over (by omega)]; show k ≤ st.1 + 1; omega
  | succ d ih =>
    intro b st k hk
    by_cases c : st.1 < 2000
    · rw [mh_se_node c]
      exact mh_sl_ind (fun st => k ≤ st.1) (fun c st h => ih _ st k h) _ _ _ (show k ≤ st.1 + 1 by omega)
    · rw [mh_se_over (by omega)]; show k ≤ st.1 + 1; omega
theorem mh_se_kp {H : Nat} : ∀ (d : Nat) (b : List Nat) (st : mh_St), b ≠ [] → st.2.2 ≠ [] → (mh_se H d b st).2.2 ≠ [] := by
  intro d
  induction d with
  | zero =>
    intro b st hb hs
    by_cases c : st.1 < 2000
    · rw [mh_se_leaf c]
      split
      · exact hb
      · exact hs
    · rw [mh_se_over (by omega)]; exact hs
  | succ d ih =>
    intro b st hb hs
    by_cases c : st.1 < 2000
    · rw [mh_se_node c]
      exact mh_sl_ind (fun st => st.2.2 ≠ []) (fun c st h => ih _ st (by simp) h) _ _ _ hs
    · rw [mh_se_over (by omega)]; exact hs
theorem mh_rh_app {b : List Nat} {c H : Nat} (hm : mh_ms (b ++ [c])) (hb : mh_ms b) (h1 : 1 ≤ H) (hc : c ≤ mh_rh b H + 1) : c ≤ mh_rh (b ++ [c]) H := by
  obtain ⟨s, hs⟩ := mh_up2_ex (b ++ [c]) H (fun x hx => (hm.1.2 x hx).2)
  obtain ⟨s0, hs0⟩ := mh_up2_ex b H (fun x hx => (hb.1.2 x hx).2)
  rw [mh_rh_is hs]
  rw [mh_rh_is hs0] at hc
  refine Nat.le_of_not_lt (fun q => hs.2 ?_)
  by_cases e : s + 1 = c
  · rw [e]
    have p1 : mh_pay (b ++ [c]) c 1 := by
      have := mh_pay_c (cs := b ++ [c]) (c := c) (List.mem_append.mpr (Or.inr List.mem_cons_self)) (mh_pay0 _)
      rwa [Nat.zero_add] at this
    obtain ⟨n, hn⟩ := mh_mn_ex ⟨1, p1⟩
    have := mh_mn_le hn p1
    exact ⟨n, hn, by omega⟩
  · obtain ⟨n, n1, n2⟩ := hs0.1 (s + 1) (by omega)
    have p1 := mh_pay_sub (mh_mn_pay n1) (ds := b ++ [c]) (fun x hx => List.mem_append.mpr (Or.inl hx))
    obtain ⟨k, hk⟩ := mh_mn_ex ⟨n, p1⟩
    have := mh_mn_le hk p1
    exact ⟨k, hk, by omega⟩
/-- a search that comes to its end has found -/
theorem mh_se_got {H : Nat} (hH : 1 ≤ H) : ∀ (d : Nat) (b : List Nat) (st : mh_St), mh_ms b → b ≠ [] → b.length + d ≤ 12 → b.getD (b.length - 1) 0 + d ≤ 299 → b.getD (b.length - 1) 0 ≤ mh_rh b H → (st.2.2 ≠ [] ∨ st.2.1 = 0) → (mh_se H d b st).1 ≤ 2000 → (mh_se H d b st).2.2 ≠ [] := by
  intro d
  induction d with
  | zero =>
    intro b st hm hb hl h9 hr hs hle
    have ll := hm.1.get (show b.length - 1 < b.length by have := List.length_pos_iff.mpr hb; omega)
    by_cases c : st.1 < 2000
    · rw [mh_se_leaf c]
      by_cases q : st.2.1 < mh_rh b H
      · rw [if_pos q]; exact hb
      · rw [if_neg q]
        exact hs.resolve_right (by omega)
    · rw [mh_se_over (by omega)] at hle
      have hle : st.1 + 1 ≤ 2000 := hle
      omega
  | succ d ih =>
    intro b st hm hb hl h9 hr hs hle
    have ll := hm.1.get (show b.length - 1 < b.length by have := List.length_pos_iff.mpr hb; omega)
    by_cases c : st.1 < 2000
    · rw [mh_se_node c] at hle ⊢
      obtain ⟨m, em⟩ : ∃ m, min (mh_rh b H + 1) 300 - b.getD (b.length - 1) 0 = m + 1 := ⟨min (mh_rh b H + 1) 300 - b.getD (b.length - 1) 0 - 1, by omega⟩
      obtain ⟨la, ela⟩ : ∃ la, la = b.getD (b.length - 1) 0 := ⟨_, rfl⟩
      rw [em, ← ela, mh_sl_s (show st.1 + 1 ≤ 2000 by omega)] at hle ⊢
      rw [← ela] at ll h9 hr em
      have hm2 : mh_ms (b ++ [la + 1]) := mh_ms_app hm (by omega) (by omega) (by omega) (fun x hx => by have := mh_last_ge hm hx; omega)
      have h2 := mh_sl_ind (H := H) (d := d) (b := b) (fun s2 => (mh_se H d (b ++ [la + 1]) (st.1 + 1, st.2)).1 ≤ s2.1) (fun c s2 h => mh_se_mo d _ s2 _ h) m (la + 1 + 1) _ (Nat.le_refl _)
      refine mh_sl_ind (fun st => st.2.2 ≠ []) (fun c st h => mh_se_kp d _ st (by simp) h) _ _ _ (ih (b ++ [la + 1]) (st.1 + 1, st.2) hm2 (by simp) (by rw [List.length_append]; show b.length + 1 + d ≤ 12; omega) (by rw [mh_last_app]; omega) (by rw [mh_last_app]; exact mh_rh_app hm2 hm hH (by omega)) hs (Nat.le_trans h2 hle))
    · rw [mh_se_over (by omega)] at hle
      have hle : st.1 + 1 ≤ 2000 := hle
      omega
/-- while the best are searched -/
def mh_Sh (h hh : mh_H) (bd : Nat → Nat) (F : Nat → Int32) (K : Nat) (b : List Nat) (st : mh_St) : Prop := mh_fr [bd 0, bd 62, bd 63, bd 64] h hh ∧ (∃ F', hh (bd 0) = some (.inr (12, mh_rf bd F')) ∧ F' 23 = nI st.1 ∧ F' 26 = nI st.2.1 ∧ ∀ j, j ≠ 23 → j ≠ 26 → F' j = F j) ∧ (∃ ft, hh (bd 62) = some (.inl (0, 6, .inl ft)) ∧ ∀ i, i < b.length → ft i = nI (b.getD i 0)) ∧ (∃ fo, hh (bd 63) = some (.inl (0, 6, .inl fo)) ∧ (st.2.2 = [] ∨ (st.2.2.length = K ∧ mh_ms st.2.2 ∧ ∀ i, i < K → fo i = nI (st.2.2.getD i 0)))) ∧ (∃ fr, hh (bd 64) = some (.inl (0, 3902, .inl fr))) ∧ st.1 ≤ 2001 ∧ st.2.1 ≤ 3600
section MhModelB
variable {h : mh_H} {bd : Nat → Nat} {σ : mh_Sg} {F : Nat → Int32}
theorem mh_Sh.pre {hh : mh_H} {K c : Nat} {b : List Nat} {st : mh_St} (hS : mh_Sh h hh bd F K (b ++ [c]) st) : mh_Sh h hh bd F K b st := by
  obtain ⟨a1, a2, ⟨ft, a3, a4⟩, a5⟩ := hS
  refine ⟨a1, a2, ⟨ft, a3, fun i hi => ?_⟩, a5⟩
  rw [a4 i (by rw [List.length_append]; show i < b.length + 1; omega), mh_snoc_get (by omega), if_neg (by omega)]
theorem mh_r_copy (rc : Nat → Int32 → mh_H → Option mh_H) {b : List Nat} {ft fo : Nat → Int32} (hI : mh_Inj bd 99) (ho : h (bd 0) = some (.inr (12, mh_rf bd F))) (hl : b.length ≤ 6) (hf : h (bd 62) = some (.inl (0, 6, .inl ft))) (hfv : ∀ i, i < b.length → ft i = nI (b.getD i 0)) (hg : h (bd 63) = some (.inl (0, 6, .inl fo))) : ∃ h' g, f_X12_search_b50 rc (f_X12_search_b73 rc) mh_fu (bd 0) (nI b.length) 0 h = some h' ∧ h' (bd 63) = some (.inl (0, 6, .inl g)) ∧ mh_fr [bd 63] h h' ∧ ∀ i, i < b.length → g i = nI (b.getD i 0) := by
  have key := mh_wh (fun m (q : Nat × mh_H) => f_X12_search_b50 rc (f_X12_search_b73 rc) m (bd 0) (nI b.length) (nI q.1) q.2) (fun (r : mh_H) => some r) (fun q => q.1 ≤ b.length ∧ mh_fr [bd 63] h q.2 ∧ ∃ g, q.2 (bd 63) = some (.inl (0, 6, .inl g)) ∧ ∀ i, i < q.1 → g i = nI (b.getD i 0)) (fun q => b.length - q.1) (fun r => mh_fr [bd 63] h r ∧ ∃ g, r (bd 63) = some (.inl (0, 6, .inl g)) ∧ ∀ i, i < b.length → g i = nI (b.getD i 0))
    (fun m q hq => by
      obtain ⟨k, hh⟩ := q
      obtain ⟨q1, q2, g, q3, q4⟩ := hq
      have q1 : k ≤ b.length := q1
      have q2 : mh_fr [bd 63] h hh := q2
      have q3 : hh (bd 63) = some (.inl (0, 6, .inl g)) := q3
      have q4 : ∀ i, i < k → g i = nI (b.getD i 0) := q4
      show (∃ s', _ ∧ _ ∧ f_X12_search_b50 rc (f_X12_search_b73 rc) (m + 1) (bd 0) (nI b.length) (nI k) hh = _) ∨ ∃ r, _ ∧ f_X12_search_b50 rc (f_X12_search_b73 rc) (m + 1) (bd 0) (nI b.length) (nI k) hh = _
      have ho' := (q2 (bd 0) (by simp [hI.ne (show 0 < 99 by omega) (show 63 < 99 by omega) (by omega)])).trans ho
      have hf' := (q2 (bd 62) (by simp [hI.ne (show 62 < 99 by omega) (show 63 < 99 by omega) (by omega)])).trans hf
      rw [f_X12_search_b50]
      by_cases c : k < b.length
      · left
        refine ⟨(k + 1, mh_up hh (bd 63) (.inl (0, 6, .inl (upd g k (nI (b.getD k 0)))))), ⟨c, q2.trans (mh_fr.up List.mem_cons_self), _, mh_up_eq _ _ _, fun i hi => ?_⟩, by show b.length - (k + 1) < b.length - k; omega, ?_⟩
        · have hi : i < k + 1 := hi
          by_cases e : i = k
          · rw [e, pk_us]
          · rw [pk_un e]; exact q4 i (by omega)
        · rw [if_neg (fun q => absurd ((nI_leI (by omega) (by omega)).mp q) (by omega)), mh_gR_eq (k := 25) ho' rfl, Option.bind_some, mh_gR_eq (k := 24) ho' rfl, Option.bind_some, mh_aI_eq hf' (show k < 6 by omega) (by omega), Option.bind_some, hfv k c, mh_sI_eq q3 (by omega) (by omega), Option.bind_some, mh_nm_eq, mh_inc]
      · right
        have e : k = b.length := by omega
        subst e
        exact ⟨hh, ⟨q2, g, q3, q4⟩, by rw [if_pos ((nI_leI (by omega) (by omega)).mpr (by omega))]; rfl⟩)
    6 mh_fu (0, h) (by show b.length - 0 ≤ 6; omega) ⟨Nat.zero_le _, mh_fr.rfl, fo, hg, fun i hi => absurd hi (Nat.not_lt_zero i)⟩ (mh_fuel _ (by omega))
  obtain ⟨h', ⟨z1, g, z2, z3⟩, z4⟩ := key
  exact ⟨h', g, z4, z2, z1, z3⟩
theorem mh_r_search {K H : Nat} (hI : mh_Inj bd 99) (hK : K ≤ 6) (hH : H ≤ 12) (h27 : F 27 = nI K) (h28 : F 28 = nI H) : ∀ (d D : Nat) (b : List Nat) (st : mh_St) (hh : mh_H), d < D → b.length + d = K → mh_ms b → b ≠ [] → st.1 ≤ 2000 → mh_Sh h hh bd F K b st → ∃ h', f_X12_search_d D (bd 0) (nI b.length) hh = some h' ∧ mh_Sh h h' bd F K b (mh_se H d b st) := by
  intro d
  induction d with
  | zero =>
    intro D b st hh h1 h2 h3 h4 h5 hS
    obtain ⟨D, rfl⟩ : ∃ k, D = k + 1 := ⟨D - 1, by omega⟩
    show ∃ h', f_X12_search_e (f_X12_search_d D) (bd 0) (nI b.length) hh = some h' ∧ _
    obtain ⟨a1, ⟨F', o1, o2, o3, o4⟩, ⟨ft, a3, a4⟩, ⟨fo, a5, a6⟩, ⟨fr, a7⟩, a8, a9⟩ := hS
    have p1 : mh_pI hh (bd 0) 12 23 (nI (st.1 + 1)) = some (mh_up hh (bd 0) (.inr (12, mh_rf bd (upd F' 23 (nI (st.1 + 1)))))) := mh_pI_s _ o1 ⟨show 23 < 38 by omega, rfl⟩
    obtain ⟨x1, e1⟩ : ∃ x1, x1 = mh_up hh (bd 0) (.inr (12, mh_rf bd (upd F' 23 (nI (st.1 + 1))))) := ⟨_, rfl⟩
    rw [← e1] at p1
    have ob : x1 (bd 0) = some (.inr (12, mh_rf bd (upd F' 23 (nI (st.1 + 1))))) := by rw [e1]; exact mh_up_eq _ _ _
    have kx : ∀ y, y < 99 → y ≠ 0 → x1 (bd y) = hh (bd y) := fun y hy e => by rw [e1]; exact mh_up_ne (hI.ne hy (by omega) e)
    have fr1 : mh_fr [bd 0, bd 62, bd 63, bd 64] h x1 := by rw [e1]; exact a1.trans (mh_fr.up (by simp))
    have e23 : upd F' 23 (nI (st.1 + 1)) 23 = nI (st.1 + 1) := pk_us
    have off : ∀ j, j ≠ 23 → j ≠ 26 → upd F' 23 (nI (st.1 + 1)) j = F j := fun j n1 n2 => by rw [pk_un n1]; exact o4 j n1 n2
    unfold f_X12_search_e
    rw [mh_gI_eq (k := 23) o1 rfl, Option.bind_some, o2, nI_1, p1, Option.bind_some, mh_gI_eq (k := 23) ob rfl, Option.bind_some, e23]
    by_cases c : st.1 < 2000
    · obtain ⟨x2, fr2, t1, t2, t3, t4⟩ := mh_r_trial (h := x1) (F := upd F' 23 (nI (st.1 + 1))) (b := b) (H := H) hI ob ((off 28 (by omega) (by omega)).trans h28) hH h3 (by omega) ((kx 62 (by omega) (by omega)).trans a3) a4 ((kx 64 (by omega) (by omega)).trans a7)
      have kx2 : ∀ y, y < 99 → y ≠ 64 → x2 (bd y) = x1 (bd y) := fun y hy e => t3 _ (by simp [hI.ne hy (show 64 < 99 by omega) e])
      have ob2 := (kx2 0 (by omega) (by omega)).trans ob
      have e27 : upd F' 23 (nI (st.1 + 1)) 27 = nI b.length := by rw [off 27 (by omega) (by omega), h27]; congr 1; omega
      have e26 : upd F' 23 (nI (st.1 + 1)) 26 = nI st.2.1 := by rw [pk_un (by omega)]; exact o3
      have fr2' : mh_fr [bd 0, bd 62, bd 63, bd 64] h x2 := fr1.trans (t3.sub (fun x hx => by rw [List.mem_singleton.mp hx]; simp))
      have k62 : x2 (bd 62) = some (.inl (0, 6, .inl ft)) := ((kx2 62 (by omega) (by omega)).trans (kx 62 (by omega) (by omega))).trans a3
      have k63 : x2 (bd 63) = some (.inl (0, 6, .inl fo)) := ((kx2 63 (by omega) (by omega)).trans (kx 63 (by omega) (by omega))).trans a5
      rw [if_pos ((mh_ler (b := 2000) 2000 rfl (by omega) (by omega)).mpr (by omega)), mh_cal_eq ob, mh_b2_eq t1, mh_gI_eq (k := 27) ob2 rfl, Option.bind_some, e27, if_pos rfl, mh_gI_eq (k := 26) ob2 rfl, Option.bind_some, e26, mh_se_leaf c]
      by_cases c2 : st.2.1 < mh_rh b H
      · rw [if_pos c2, if_neg (fun q => absurd ((nI_leI (by omega) (by omega)).mp q) (by omega))]
        have p3 : mh_pI x2 (bd 0) 12 26 (nI (mh_rh b H)) = some (mh_up x2 (bd 0) (.inr (12, mh_rf bd (upd (upd F' 23 (nI (st.1 + 1))) 26 (nI (mh_rh b H)))))) := mh_pI_s _ ob2 ⟨show 26 < 38 by omega, rfl⟩
        obtain ⟨x3, e3⟩ : ∃ x3, x3 = mh_up x2 (bd 0) (.inr (12, mh_rf bd (upd (upd F' 23 (nI (st.1 + 1))) 26 (nI (mh_rh b H))))) := ⟨_, rfl⟩
        rw [← e3] at p3
        have ob3 : x3 (bd 0) = some (.inr (12, mh_rf bd (upd (upd F' 23 (nI (st.1 + 1))) 26 (nI (mh_rh b H))))) := by rw [e3]; exact mh_up_eq _ _ _
        have kx3 : ∀ y, y < 99 → y ≠ 0 → x3 (bd y) = x2 (bd y) := fun y hy e => by rw [e3]; exact mh_up_ne (hI.ne hy (by omega) e)
        obtain ⟨x4, g4, u1, u2, u3, u4⟩ := mh_r_copy (h := x3) (F := upd (upd F' 23 (nI (st.1 + 1))) 26 (nI (mh_rh b H))) (f_X12_search_d D) (b := b) hI ob3 (by omega) ((kx3 62 (by omega) (by omega)).trans k62) a4 ((kx3 63 (by omega) (by omega)).trans k63)
        have kx4 : ∀ y, y < 99 → y ≠ 63 → x4 (bd y) = x3 (bd y) := fun y hy e => u3 _ (by simp [hI.ne hy (show 63 < 99 by omega) e])
        refine ⟨x4, by rw [p3, Option.bind_some, mh_nm_eq, u1], ?_, ⟨upd (upd F' 23 (nI (st.1 + 1))) 26 (nI (mh_rh b H)), (kx4 0 (by omega) (by omega)).trans ob3, by rw [pk_un (by omega)]; exact e23, pk_us, fun j n1 n2 => by rw [pk_un n2]; exact off j n1 n2⟩, ⟨ft, ((kx4 62 (by omega) (by omega)).trans (kx3 62 (by omega) (by omega))).trans k62, a4⟩, ⟨g4, u2, Or.inr ⟨by show b.length = K; omega, h3, fun i hi => u4 i (by omega)⟩⟩, ⟨fr2, ((kx4 64 (by omega) (by omega)).trans (kx3 64 (by omega) (by omega))).trans t2⟩, by show st.1 + 1 ≤ 2001; omega, t4⟩
        rw [e3] at u3
        exact fr2'.trans ((mh_fr.up (show bd 0 ∈ [bd 0, bd 62, bd 63, bd 64] by simp)).trans (u3.sub (fun x hx => by rw [List.mem_singleton.mp hx]; simp)))
      · rw [if_neg c2, if_pos ((nI_leI (by omega) (by omega)).mpr (by omega))]
        exact ⟨x2, rfl, fr2', ⟨_, ob2, e23, e26, off⟩, ⟨ft, k62, a4⟩, ⟨fo, k63, a6⟩, ⟨fr2, t2⟩, by show st.1 + 1 ≤ 2001; omega, a9⟩
    · rw [if_neg (fun q => absurd ((mh_ler (b := 2000) 2000 rfl (by omega) (by omega)).mp q) (by omega)), mh_se_over (by omega)]
      exact ⟨x1, rfl, fr1, ⟨_, ob, e23, by rw [pk_un (by omega)]; exact o3, off⟩, ⟨ft, (kx 62 (by omega) (by omega)).trans a3, a4⟩, ⟨fo, (kx 63 (by omega) (by omega)).trans a5, a6⟩, ⟨fr, (kx 64 (by omega) (by omega)).trans a7⟩, by show st.1 + 1 ≤ 2001; omega, a9⟩
  | succ d ih =>
    intro D b st hh h1 h2 h3 h4 h5 hS
    obtain ⟨D, rfl⟩ : ∃ k, D = k + 1 := ⟨D - 1, by omega⟩
    show ∃ h', f_X12_search_e (f_X12_search_d D) (bd 0) (nI b.length) hh = some h' ∧ _
    obtain ⟨a1, ⟨F', o1, o2, o3, o4⟩, ⟨ft, a3, a4⟩, ⟨fo, a5, a6⟩, ⟨fr, a7⟩, a8, a9⟩ := hS
    have bl := List.length_pos_iff.mpr h4
    have p1 : mh_pI hh (bd 0) 12 23 (nI (st.1 + 1)) = some (mh_up hh (bd 0) (.inr (12, mh_rf bd (upd F' 23 (nI (st.1 + 1)))))) := mh_pI_s _ o1 ⟨show 23 < 38 by omega, rfl⟩
    obtain ⟨x1, e1⟩ : ∃ x1, x1 = mh_up hh (bd 0) (.inr (12, mh_rf bd (upd F' 23 (nI (st.1 + 1))))) := ⟨_, rfl⟩
    rw [← e1] at p1
    have ob : x1 (bd 0) = some (.inr (12, mh_rf bd (upd F' 23 (nI (st.1 + 1))))) := by rw [e1]; exact mh_up_eq _ _ _
    have kx : ∀ y, y < 99 → y ≠ 0 → x1 (bd y) = hh (bd y) := fun y hy e => by rw [e1]; exact mh_up_ne (hI.ne hy (by omega) e)
    have fr1 : mh_fr [bd 0, bd 62, bd 63, bd 64] h x1 := by rw [e1]; exact a1.trans (mh_fr.up (by simp))
    have e23 : upd F' 23 (nI (st.1 + 1)) 23 = nI (st.1 + 1) := pk_us
    have off : ∀ j, j ≠ 23 → j ≠ 26 → upd F' 23 (nI (st.1 + 1)) j = F j := fun j n1 n2 => by rw [pk_un n1]; exact o4 j n1 n2
    unfold f_X12_search_e
    rw [mh_gI_eq (k := 23) o1 rfl, Option.bind_some, o2, nI_1, p1, Option.bind_some, mh_gI_eq (k := 23) ob rfl, Option.bind_some, e23]
    by_cases c : st.1 < 2000
    · obtain ⟨x2, fr2, t1, t2, t3, t4⟩ := mh_r_trial (h := x1) (F := upd F' 23 (nI (st.1 + 1))) (b := b) (H := H) hI ob ((off 28 (by omega) (by omega)).trans h28) hH h3 (by omega) ((kx 62 (by omega) (by omega)).trans a3) a4 ((kx 64 (by omega) (by omega)).trans a7)
      have kx2 : ∀ y, y < 99 → y ≠ 64 → x2 (bd y) = x1 (bd y) := fun y hy e => t3 _ (by simp [hI.ne hy (show 64 < 99 by omega) e])
      have ob2 := (kx2 0 (by omega) (by omega)).trans ob
      have e27 : upd F' 23 (nI (st.1 + 1)) 27 = nI K := (off 27 (by omega) (by omega)).trans h27
      have e26 : upd F' 23 (nI (st.1 + 1)) 26 = nI st.2.1 := by rw [pk_un (by omega)]; exact o3
      have fr2' : mh_fr [bd 0, bd 62, bd 63, bd 64] h x2 := fr1.trans (t3.sub (fun x hx => by rw [List.mem_singleton.mp hx]; simp))
      have k62 : x2 (bd 62) = some (.inl (0, 6, .inl ft)) := ((kx2 62 (by omega) (by omega)).trans (kx 62 (by omega) (by omega))).trans a3
      have k63 : x2 (bd 63) = some (.inl (0, 6, .inl fo)) := ((kx2 63 (by omega) (by omega)).trans (kx 63 (by omega) (by omega))).trans a5
      have el : nI b.length - (1 : Int32) = nI (b.length - 1) := pk_sub (b := 1) (by omega)
      have lb := h3.1.get (show b.length - 1 < b.length by omega)
      obtain ⟨la, ela⟩ : ∃ la, la = b.getD (b.length - 1) 0 := ⟨_, rfl⟩
      obtain ⟨v, ev⟩ : ∃ v, v = mh_rh b H := ⟨_, rfl⟩
      rw [mh_se_node c, if_pos ((mh_ler (b := 2000) 2000 rfl (by omega) (by omega)).mpr (by omega)), mh_cal_eq ob, mh_b2_eq t1, mh_gI_eq (k := 27) ob2 rfl, Option.bind_some, e27, if_neg (fun q => absurd ((nI_eq (by omega) (by omega)).mp q) (by omega)), mh_gR_eq (k := 24) ob2 rfl, Option.bind_some, el, mh_aI_eq k62 (show b.length - 1 < 6 by omega) (by omega), Option.bind_some, a4 _ (by omega), mh_nm_eq, nI_1]
      rw [← ela] at lb ⊢
      rw [← ev] at t4 ⊢
      have lge : ∀ x, x ∈ b → x ≤ la := fun x hx => by rw [ela]; exact mh_last_ge h3 hx
      have S2 : mh_Sh h x2 bd F K b (st.1 + 1, st.2) := ⟨fr2', ⟨_, ob2, e23, e26, off⟩, ⟨ft, k62, a4⟩, ⟨fo, k63, a6⟩, ⟨fr2, t2⟩, by show st.1 + 1 ≤ 2001; omega, a9⟩
      have key := mh_wh (fun m (q : (Nat × mh_St) × mh_H) => f_X12_search_b85 (f_X12_search_d D) m (bd 0) (nI b.length) (nI v) (nI q.1.1) q.2) (fun (r : mh_H) => some r) (fun q => la + 1 ≤ q.1.1 ∧ q.1.1 ≤ 301 ∧ mh_Sh h q.2 bd F K b q.1.2 ∧ mh_sl H d b q.1.1 (min (v + 1) 300 + 1 - q.1.1) q.1.2 = mh_sl H d b (la + 1) (min (v + 1) 300 - la) (st.1 + 1, st.2)) (fun q => 302 - q.1.1) (fun r => mh_Sh h r bd F K b (mh_sl H d b (la + 1) (min (v + 1) 300 - la) (st.1 + 1, st.2)))
        (fun m q hq => by
          obtain ⟨⟨x, su⟩, y⟩ := q
          obtain ⟨q1, q2, q3, q4⟩ := hq
          have q1 : la + 1 ≤ x := q1
          have q2 : x ≤ 301 := q2
          have q3 : mh_Sh h y bd F K b su := q3
          have q4 : mh_sl H d b x (min (v + 1) 300 + 1 - x) su = mh_sl H d b (la + 1) (min (v + 1) 300 - la) (st.1 + 1, st.2) := q4
          show (∃ s', _ ∧ _ ∧ f_X12_search_b85 (f_X12_search_d D) (m + 1) (bd 0) (nI b.length) (nI v) (nI x) y = _) ∨ ∃ r, _ ∧ f_X12_search_b85 (f_X12_search_d D) (m + 1) (bd 0) (nI b.length) (nI v) (nI x) y = _
          rw [f_X12_search_b85, nI_1]
          by_cases c1 : v + 1 < x
          · right
            rw [show min (v + 1) 300 + 1 - x = 0 by omega, mh_sl_0] at q4
            exact ⟨y, by rw [← q4]; exact q3, by rw [if_pos ((nI_ltI (by omega) (by omega)).mpr c1)]; rfl⟩
          · rw [if_neg (fun q => c1 ((nI_ltI (by omega) (by omega)).mp q))]
            by_cases c2 : 300 < x
            · right
              rw [show min (v + 1) 300 + 1 - x = 0 by omega, mh_sl_0] at q4
              exact ⟨y, by rw [← q4]; exact q3, by rw [if_pos ((mh_ltl (a := 300) 300 rfl (by omega) (by omega)).mpr c2)]; rfl⟩
            · obtain ⟨b1, ⟨G, g1, g2, g3, g4⟩, ⟨ft', b3, b4⟩, ⟨fo', b5, b6⟩, ⟨fr', b7⟩, b8, b9⟩ := id q3
              rw [if_neg (fun q => c2 ((mh_ltl (a := 300) 300 rfl (by omega) (by omega)).mp q)), mh_gI_eq (k := 23) g1 rfl, Option.bind_some, g2]
              by_cases c3 : 2000 < su.1
              · right
                rw [mh_sl_stop _ _ _ c3] at q4
                exact ⟨y, by rw [← q4]; exact q3, by rw [if_pos ((mh_ltl (a := 2000) 2000 rfl (by omega) (by omega)).mpr c3)]; rfl⟩
              · left
                have hm2 : mh_ms (b ++ [x]) := mh_ms_app h3 (by omega) (by omega) (by omega) (fun z hz => by have := lge z hz; omega)
                obtain ⟨y2, ey2⟩ : ∃ y2, y2 = mh_up y (bd 62) (.inl (0, 6, .inl (upd ft' b.length (nI x)))) := ⟨_, rfl⟩
                have s2 : mh_sI y (bd 62) (nI b.length) (nI x) = some y2 := by rw [ey2]; exact mh_sI_eq b3 (by omega) (by omega)
                have ky : ∀ z, z < 99 → z ≠ 62 → y2 (bd z) = y (bd z) := fun z hz e => by rw [ey2]; exact mh_up_ne (hI.ne hz (by omega) e)
                have og := (ky 0 (by omega) (by omega)).trans g1
                have Sy : mh_Sh h y2 bd F K (b ++ [x]) su := by
                  refine ⟨by rw [ey2]; exact b1.trans (mh_fr.up (by simp)), ⟨G, og, g2, g3, g4⟩, ⟨upd ft' b.length (nI x), by rw [ey2]; exact mh_up_eq _ _ _, fun i hi => ?_⟩, ⟨fo', (ky 63 (by omega) (by omega)).trans b5, b6⟩, ⟨fr', (ky 64 (by omega) (by omega)).trans b7⟩, b8, b9⟩
                  rw [List.length_append] at hi
                  have hi : i < b.length + 1 := hi
                  rw [mh_snoc_get hi]
                  by_cases e : i = b.length
                  · rw [if_pos e, e, pk_us]
                  · rw [if_neg e, pk_un e]; exact b4 i (by omega)
                obtain ⟨y3, r1, S3⟩ := ih D (b ++ [x]) su y2 (by omega) (by rw [List.length_append]; show b.length + 1 + d = K; omega) hm2 (by simp) (by omega) Sy
                rw [List.length_append] at r1
                have r1 : f_X12_search_d D (bd 0) (nI (b.length + 1)) y2 = some y3 := r1
                refine ⟨((x + 1, mh_se H d (b ++ [x]) su), y3), ⟨by show la + 1 ≤ x + 1; omega, by show x + 1 ≤ 301; omega, S3.pre, ?_⟩, by show 302 - (x + 1) < 302 - x; omega, ?_⟩
                · show mh_sl H d b (x + 1) (min (v + 1) 300 + 1 - (x + 1)) (mh_se H d (b ++ [x]) su) = _
                  rw [← q4, show min (v + 1) 300 + 1 - x = min (v + 1) 300 + 1 - (x + 1) + 1 by omega, mh_sl_s (by omega)]
                · rw [if_neg (fun q => c3 ((mh_ltl (a := 2000) 2000 rfl (by omega) (by omega)).mp q)), mh_gR_eq (k := 24) g1 rfl, Option.bind_some, s2, Option.bind_some, mh_cal_eq og, nI_1, r1, Option.bind_some, mh_nm_eq, mh_inc])
        302 mh_fu ((la + 1, (st.1 + 1, st.2)), x2) (by show 302 - (la + 1) ≤ 302; omega) ⟨Nat.le_refl _, by show la + 1 ≤ 301; omega, S2, by show mh_sl H d b (la + 1) (min (v + 1) 300 + 1 - (la + 1)) _ = _; rw [show min (v + 1) 300 + 1 - (la + 1) = min (v + 1) 300 - la by omega]⟩ (mh_fuel _ (by omega))
      obtain ⟨y, z1, z2⟩ := key
      exact ⟨y, z2, z1⟩
    · rw [if_neg (fun q => absurd ((mh_ler (b := 2000) 2000 rfl (by omega) (by omega)).mp q) (by omega)), mh_se_over (by omega)]
      exact ⟨x1, rfl, fr1, ⟨_, ob, e23, by rw [pk_un (by omega)]; exact o3, off⟩, ⟨ft, (kx 62 (by omega) (by omega)).trans a3, a4⟩, ⟨fo, (kx 63 (by omega) (by omega)).trans a5, a6⟩, ⟨fr, (kx 64 (by omega) (by omega)).trans a7⟩, by show st.1 + 1 ≤ 2001; omega, a9⟩
theorem mh_M_cases (hR : mh_RI h bd σ F) : ∃ h' F', f_X12_cases_e (bd 0) h = some (nI σ.2.2.1, h') ∧ F' 0 = 0 ∧ mh_RI h' bd σ F' ∧ mh_frR bd h h' := by
  obtain ⟨h1, F1, p1, R1, z1, f1⟩ := mh_r_code hR
  obtain ⟨_, _, _, ⟨i4, _⟩, _⟩ := R1.ii
  unfold f_X12_cases_e
  rw [p1, Option.bind_some, mh_gI_eq (k := 23) R1.ob rfl, Option.bind_some, i4]
  exact ⟨h1, F1, rfl, z1, R1, f1⟩
end MhModelB
