/-! choices that pay a sum; the told one: the fewest, of like ones the greatest coins most often -/
def mh_vp (cs ns : List Nat) (s : Nat) (ks : List Nat) : Prop := mh_Sv ns cs.length ks ∧ mh_dot cs ks = s
def mh_bv (cs ns : List Nat) (s : Nat) (ks : List Nat) : Prop := mh_vp cs ns s ks ∧ ∀ l, mh_vp cs ns s l → ks.sum < l.sum ∨ (ks.sum = l.sum ∧ mh_dg l ≤ mh_dg ks)
theorem mh_Sv_20 {ns ks : List Nat} {i : Nat} (hb : ∀ j, ns.getD j 0 ≤ 20) (h : mh_Sv ns i ks) : ∀ x, x ∈ ks → x ≤ 20 := fun x hx => by
  obtain ⟨j, j1, j2⟩ := mh_mem_get hx
  have := h.2 j (by rw [h.1] at j1; exact j1)
  have := hb j
  omega
theorem mh_vp_dg {cs ns ks : List Nat} {s : Nat} (hz : mh_pz cs ns) (h : mh_vp cs ns s ks) : mh_dg ks < mh_WH ∧ ks.sum ≤ 240 ∧ (ks.sum = 0 → mh_dg ks = 0) := by
  have hl := hz.1.1.1
  have a := mh_dg_lt ks (mh_Sv_20 hz.2.2.1 h.1)
  have b := Nat.pow_le_pow_right (show 0 < 21 by omega) (show ks.length ≤ 12 by rw [h.1.1]; exact hl)
  have c : (21 : Nat) ^ 12 = mh_WH := by decide
  have d := mh_sum_le ks (mh_Sv_20 hz.2.2.1 h.1)
  have e : ks.length ≤ 12 := by rw [h.1.1]; exact hl
  refine ⟨by omega, by omega, fun hz0 => ?_⟩
  have hall : ∀ x, x ∈ ks → x = 0 := fun x hx => by have := mh_mem_le hx; omega
  have : ∀ m : List Nat, (∀ x, x ∈ m → x = 0) → mh_dg m = 0 := fun m => by
    induction m with
    | nil => intro _; rfl
    | cons y m ih => intro h; rw [mh_dg, h y List.mem_cons_self, ih (fun x hx => h x (List.mem_cons_of_mem y hx))]
  exact this ks hall
theorem mh_dg_le {cs ns ks : List Nat} {s : Nat} (hz : mh_pz cs ns) (h : mh_vp cs ns s ks) : mh_dg ks ≤ ks.sum * mh_WH := by
  obtain ⟨a, b, c⟩ := mh_vp_dg hz h
  by_cases h0 : ks.sum = 0
  · rw [c h0]; exact Nat.zero_le _
  · have := Nat.mul_le_mul_right mh_WH (Nat.one_le_iff_ne_zero.mpr h0)
    omega
theorem mh_lex {n n' D D' : Nat} (hD : D < mh_WH) (hD' : D' < mh_WH) (h1 : D ≤ n * mh_WH) (h2 : D' ≤ n' * mh_WH) : n * mh_WH - D ≤ n' * mh_WH - D' ↔ (n < n' ∨ (n = n' ∧ D' ≤ D)) := by
  constructor
  · intro h
    by_cases h3 : n < n'
    · exact Or.inl h3
    · right
      by_cases h4 : n = n'
      · subst h4; exact ⟨rfl, by omega⟩
      · have := Nat.mul_le_mul_right mh_WH (show n' + 1 ≤ n by omega)
        rw [Nat.succ_mul] at this
        omega
  · intro h
    rcases h with h | ⟨h3, h4⟩
    · have := Nat.mul_le_mul_right mh_WH (show n + 1 ≤ n' by omega)
      rw [Nat.succ_mul] at this
      omega
    · subst h3; omega
theorem mh_Tk_bv {cs ns : List Nat} {s : Nat} {x : Int64} (hz : mh_pz cs ns) (h : mh_Tk (mh_Pk cs ns cs.length) s x) : ((∀ ks, ¬ mh_vp cs ns s ks) ∧ x = lN mh_UNP) ∨ ∃ ks, mh_bv cs ns s ks ∧ x = lN (ks.sum * mh_WH - mh_dg ks) := by
  rcases h with ⟨h1, h2⟩ | ⟨K, ⟨ks, k1, k2, k3⟩, h2, h3, h4⟩
  · refine Or.inl ⟨fun ks hk => ?_, h2⟩
    refine h1 (ks.sum * mh_WH - mh_dg ks) ⟨ks, hk.1, by rw [List.take_length]; exact hk.2, ?_⟩
    have := mh_dg_le hz hk
    omega
  · rw [List.take_length] at k2
    have hv : mh_vp cs ns s ks := ⟨k1, k2⟩
    refine Or.inr ⟨ks, ⟨hv, fun l hl => ?_⟩, by rw [h3]; congr 1; omega⟩
    have a := mh_dg_le hz hl
    have b := h2 (l.sum * mh_WH - mh_dg l) ⟨l, hl.1, by rw [List.take_length]; exact hl.2, by omega⟩
    exact (mh_lex (mh_vp_dg hz hv).1 (mh_vp_dg hz hl).1 (mh_dg_le hz hv) a).mp (by omega)
theorem mh_dg_inj : ∀ (a b : List Nat), a.length = b.length → (∀ x, x ∈ a → x ≤ 20) → (∀ x, x ∈ b → x ≤ 20) → mh_dg a = mh_dg b → a = b := by
  intro a
  induction a with
  | nil => intro b hb _ _ _; exact (List.eq_nil_of_length_eq_zero hb.symm).symm
  | cons x a ih =>
    intro b hb h1 h2 h3
    cases b with
    | nil => cases hb
    | cons y b =>
      rw [mh_dg, mh_dg] at h3
      have hx := h1 x List.mem_cons_self
      have hy := h2 y List.mem_cons_self
      have e : x = y := by omega
      have e2 : mh_dg a = mh_dg b := by omega
      rw [e, ih b (by simpa using hb) (fun z hz => h1 z (List.mem_cons_of_mem x hz)) (fun z hz => h2 z (List.mem_cons_of_mem y hz)) e2]
theorem mh_bv_u {cs ns ks l : List Nat} {s : Nat} (hz : mh_pz cs ns) (h : mh_bv cs ns s ks) (k : mh_bv cs ns s l) : ks = l := by
  have a := h.2 l k.1
  have b := k.2 ks h.1
  refine mh_dg_inj ks l (by rw [h.1.1.1, k.1.1.1]) (mh_Sv_20 hz.2.2.1 h.1.1) (mh_Sv_20 hz.2.2.1 k.1.1) (by omega)
theorem mh_vp_le {cs ns ks : List Nat} {s : Nat} (hz : mh_pz cs ns) (h : mh_vp cs ns s ks) : s ≤ mh_dot cs ns := by
  have := mh_Sv_dot hz.2.1 cs.length ks (Nat.le_refl _) h.1
  rw [List.take_length] at this
  have e : ns.take cs.length = ns := by rw [← hz.2.1, List.take_length]
  rw [e, h.2] at this
  exact this
section MhPK
variable {h : mh_H} {o pu ap vp tp kv : Nat} {cs ns : List Nat}
theorem mh_fx8_key (hP : mh_PT h o pu ap vp tp kv cs ns) {s : Nat} (hs : s < 2 ^ 31) : ∃ x, f_X8_key_e o (nI s) h = some (x, h) ∧ (((∀ ks, ¬ mh_vp cs ns s ks) ∧ x = lN mh_UNP) ∨ ∃ ks, mh_bv cs ns s ks ∧ x = lN (ks.sum * mh_WH - mh_dg ks)) := by
  obtain ⟨f, g, fk, r1, r2, r3, r4, r5⟩ := hP
  have hd := r4.2.2.2
  unfold f_X8_key_e
  rw [if_neg (nI_pos hs), mh_gI_eq (k := 2) r1 rfl, Option.bind_some]
  by_cases hc : mh_dot cs ns < s
  · rw [if_pos ((nI_ltI (by omega) hs).mpr hc)]
    exact ⟨_, rfl, Or.inl ⟨fun ks hk => by have := mh_vp_le r4 hk; omega, rfl⟩⟩
  · rw [if_neg (fun q => hc ((nI_ltI (by omega) hs).mp q)), mh_gR_eq (k := 1) r1 rfl, Option.bind_some, mh_aJ_eq r3 (by omega) (by omega), Option.bind_some]
    exact ⟨_, rfl, mh_Tk_bv r4 (r5 s (by omega))⟩
theorem mh_key_div {n D : Nat} (hD : D < mh_WH) (h1 : D ≤ n * mh_WH) : (n * mh_WH - D + mh_WH - 1) / mh_WH = n := by
  have hW : mh_WH = 7355827511386641 := rfl
  rw [show n * mh_WH - D + mh_WH - 1 = (mh_WH - 1 - D) + n * mh_WH by omega, Nat.add_mul_div_right _ _ (by omega), Nat.div_eq_of_lt (by omega), Nat.zero_add]
theorem mh_fx8_size (hP : mh_PT h o pu ap vp tp kv cs ns) {s : Nat} (hs : s < 2 ^ 31) : ∃ x, f_X8_size_e o (nI s) h = some (x, h) ∧ (((∀ ks, ¬ mh_vp cs ns s ks) ∧ x = -1) ∨ ∃ ks, mh_bv cs ns s ks ∧ x = nI ks.sum) := by
  obtain ⟨y, e1, e2⟩ := mh_fx8_key hP hs
  obtain ⟨f, g, fk, r1, r2, r3, r4, r5⟩ := hP
  have hU : mh_UNP = 9223372036854775807 := rfl
  have hW : mh_WH = 7355827511386641 := rfl
  unfold f_X8_size_e
  rw [mh_cal_eq r1, mh_b2_eq e1]
  rcases e2 with ⟨a1, a2⟩ | ⟨ks, a1, a2⟩
  · rw [a2, mh_lunp, if_pos ((mh_cmp0 _ _).mpr rfl)]
    exact ⟨_, rfl, Or.inl ⟨a1, rfl⟩⟩
  · obtain ⟨b1, b2, b3⟩ := mh_vp_dg r4 a1.1
    have b4 := mh_dg_le r4 a1.1
    have b5 := Nat.mul_le_mul_right mh_WH b2
    have c1 : ¬ lg_cmp (lN (ks.sum * mh_WH - mh_dg ks)) (lN mh_UNP) = 0 := fun q => absurd ((mh_ceqN (by omega) (by omega)).mp q) (by omega)
    have e3 : (lN (ks.sum * mh_WH - mh_dg ks) + (7355827511386641 : Int64) - (1 : Int64)) / (7355827511386641 : Int64) = lN ks.sum := by
      have : lN (ks.sum * mh_WH - mh_dg ks) + (7355827511386641 : Int64) = lN (ks.sum * mh_WH - mh_dg ks + mh_WH) := lN_add _ mh_WH
      rw [this]
      have : lN (ks.sum * mh_WH - mh_dg ks + mh_WH) - (1 : Int64) = lN (ks.sum * mh_WH - mh_dg ks + mh_WH - 1) := lN_sub (b := 1) (by omega)
      rw [this]
      have : lN (ks.sum * mh_WH - mh_dg ks + mh_WH - 1) / (7355827511386641 : Int64) = lN ((ks.sum * mh_WH - mh_dg ks + mh_WH - 1) / mh_WH) := pk_lDiv (b := mh_WH) (by omega) (by omega) (by omega)
      rw [this, mh_key_div b1 b4]
    rw [a2, mh_lunp, if_neg c1, mh_nz_eq (by decide), e3, lN_i]
    exact ⟨_, rfl, Or.inr ⟨ks, a1, rfl⟩⟩
theorem mh_fx8_size_neg (hP : mh_PT h o pu ap vp tp kv cs ns) {x : Int32} (hx : x < 0) : f_X8_size_e o x h = some (-1, h) := by
  obtain ⟨f, g, fk, r1, r2, r3, r4, r5⟩ := hP
  have e : f_X8_key_e o x h = some (lN mh_UNP, h) := by
    unfold f_X8_key_e
    rw [if_pos hx]
    rfl
  unfold f_X8_size_e
  rw [mh_cal_eq r1, mh_b2_eq e, mh_lunp, if_pos ((mh_cmp0 _ _).mpr rfl)]
  rfl
noncomputable def mh_cn (P : Nat → Prop) (n : Nat) : Nat := mh_cnt (fun s => @decide (P s) (Classical.propDecidable _)) n
theorem mh_cn_y {P : Nat → Prop} {n : Nat} (h : P n) : mh_cn P (n + 1) = mh_cn P n + 1 := by
  unfold mh_cn
  rw [mh_cnt, if_pos (@decide_eq_true _ (Classical.propDecidable _) h)]
theorem mh_cn_n {P : Nat → Prop} {n : Nat} (h : ¬ P n) : mh_cn P (n + 1) = mh_cn P n := by
  unfold mh_cn
  rw [mh_cnt, if_neg (fun q => h (@of_decide_eq_true _ (Classical.propDecidable _) q)), Nat.add_zero]
theorem mh_cn_le (P : Nat → Prop) (n : Nat) : mh_cn P n ≤ n := mh_cnt_le _ n
theorem mh_fx8_unpaid (hP : mh_PT h o pu ap vp tp kv cs ns) : f_X8_unpaid_e o h = some (nI (mh_cn (fun s => ∀ ks, ¬ mh_vp cs ns s ks) (mh_dot cs ns + 1)), h) := by
  obtain ⟨f, g, fk, r1, r2, r3, r4, r5⟩ := hP
  have hd := r4.2.2.2
  have hU : mh_UNP = 9223372036854775807 := rfl
  have hW : mh_WH = 7355827511386641 := rfl
  have key := mh_wh (fun n (i : Nat) => f_X8_unpaid_b4 n o (nI (mh_cn (fun s => ∀ ks, ¬ mh_vp cs ns s ks) i)) (nI i) h) (fun (r : Int32 × mh_H) => some r) (fun i => i ≤ mh_dot cs ns + 1) (fun i => mh_dot cs ns + 1 - i) (fun r => r = (nI (mh_cn (fun s => ∀ ks, ¬ mh_vp cs ns s ks) (mh_dot cs ns + 1)), h))
    (fun n i hi => by
      show (∃ s', _ ∧ _ ∧ f_X8_unpaid_b4 (n + 1) o (nI (mh_cn (fun s => ∀ ks, ¬ mh_vp cs ns s ks) i)) (nI i) h = _) ∨ ∃ r, _ ∧ f_X8_unpaid_b4 (n + 1) o (nI (mh_cn (fun s => ∀ ks, ¬ mh_vp cs ns s ks) i)) (nI i) h = _
      by_cases hc : mh_dot cs ns < i
      · right
        have e : i = mh_dot cs ns + 1 := by omega
        refine ⟨_, rfl, ?_⟩
        rw [f_X8_unpaid_b4, mh_gI_eq (k := 2) r1 rfl, Option.bind_some, if_pos ((nI_ltI (by omega) (by omega)).mpr hc), e]
        rfl
      · left
        refine ⟨i + 1, by omega, by omega, ?_⟩
        rw [f_X8_unpaid_b4, mh_gI_eq (k := 2) r1 rfl, Option.bind_some, if_neg (fun q => hc ((nI_ltI (by omega) (by omega)).mp q)), mh_gR_eq (k := 1) r1 rfl, Option.bind_some, mh_aJ_eq r3 (by omega) (by omega), Option.bind_some]
        rcases mh_Tk_bv r4 (r5 i (by omega)) with ⟨a1, a2⟩ | ⟨ks, a1, a2⟩
        · rw [a2, mh_lunp, if_pos ((mh_cmp0 _ _).mpr rfl), mh_nm_eq, mh_inc, mh_cn_y a1]
          unfold f_X8_unpaid_b28
          rw [mh_nm_eq, mh_inc]
        · obtain ⟨b1, b2, b3⟩ := mh_vp_dg r4 a1.1
          have b5 := Nat.mul_le_mul_right mh_WH b2
          have c1 : ¬ lg_cmp (lN (ks.sum * mh_WH - mh_dg ks)) (lN mh_UNP) = 0 := fun q => absurd ((mh_ceqN (by omega) (by omega)).mp q) (by omega)
          rw [a2, mh_lunp, if_neg c1, mh_cn_n (fun q => q ks a1.1)]
          unfold f_X8_unpaid_b28
          rw [mh_nm_eq, mh_inc])
    20001 mh_fu 0 (by omega) (Nat.zero_le _) (mh_fuel _ (by omega))
  obtain ⟨r, z1, z2⟩ := key
  rw [z1] at z2
  exact z2
end MhPK
/-- a change that is told -/
def mh_cg (c1 n1 c2 n2 : List Nat) (s : Nat) (ks ms : List Nat) : Prop :=
  mh_vp c1 n1 (s + mh_dot c2 ms) ks ∧ mh_vp c2 n2 (mh_dot c2 ms) ms ∧ ∀ ks' ms', mh_vp c1 n1 (s + mh_dot c2 ms') ks' → mh_vp c2 n2 (mh_dot c2 ms') ms' → ks.sum + ms.sum < ks'.sum + ms'.sum ∨ (ks.sum + ms.sum = ks'.sum + ms'.sum ∧ (mh_dg ks' < mh_dg ks ∨ (mh_dg ks' = mh_dg ks ∧ mh_dg ms' ≤ mh_dg ms)))
theorem mh_cg_u {c1 n1 c2 n2 : List Nat} {s : Nat} {ks ms ks' ms' : List Nat} (z1 : mh_pz c1 n1) (z2 : mh_pz c2 n2) (h : mh_cg c1 n1 c2 n2 s ks ms) (k : mh_cg c1 n1 c2 n2 s ks' ms') : ks = ks' ∧ ms = ms' := by
  have a := h.2.2 ks' ms' k.1 k.2.1
  have b := k.2.2 ks ms h.1 h.2.1
  have e1 : mh_dg ks = mh_dg ks' := by omega
  have e2 : mh_dg ms = mh_dg ms' := by omega
  exact ⟨mh_dg_inj _ _ (by rw [h.1.1.1, k.1.1.1]) (mh_Sv_20 z1.2.2.1 h.1.1) (mh_Sv_20 z1.2.2.1 k.1.1) e1, mh_dg_inj _ _ (by rw [h.2.1.1.1, k.2.1.1.1]) (mh_Sv_20 z2.2.2.1 h.2.1.1) (mh_Sv_20 z2.2.2.1 k.2.1.1) e2⟩
