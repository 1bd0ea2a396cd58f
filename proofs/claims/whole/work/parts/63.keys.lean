/-! keys of a purse's payings -/
def mh_WH : Nat := 7355827511386641
def mh_UNP : Nat := 9223372036854775807
def mh_dg : List Nat → Nat
  | [] => 0
  | k :: ks => k + 21 * mh_dg ks
theorem mh_dg_app (k : Nat) : ∀ ks : List Nat, mh_dg (ks ++ [k]) = mh_dg ks + k * 21 ^ ks.length := by
  intro ks
  induction ks with
  | nil => simp [mh_dg]
  | cons x ks ih =>
    rw [List.cons_append, mh_dg, ih, mh_dg, List.length_cons, Nat.pow_succ, Nat.mul_add, Nat.add_assoc]
    congr 2
    rw [Nat.mul_left_comm, Nat.mul_comm 21]
theorem mh_dg_lt : ∀ ks : List Nat, (∀ x, x ∈ ks → x ≤ 20) → mh_dg ks < 21 ^ ks.length := by
  intro ks
  induction ks with
  | nil => intro _; exact Nat.one_pos
  | cons x ks ih =>
    intro h
    have a := h x List.mem_cons_self
    have b := ih (fun y hy => h y (List.mem_cons_of_mem x hy))
    rw [mh_dg, List.length_cons, Nat.pow_succ]
    omega
theorem mh_dot_app : ∀ (a b : List Nat) (x y : Nat), a.length = b.length → mh_dot (a ++ [x]) (b ++ [y]) = mh_dot a b + x * y := by
  intro a
  induction a with
  | nil =>
    intro b x y hb
    cases b with
    | nil => simp [mh_dot, Nat.mul_comm]
    | cons c bs => cases hb
  | cons c a ih =>
    intro b x y hb
    cases b with
    | nil => cases hb
    | cons d bs =>
      have := ih bs x y (by simpa using hb)
      simp only [List.cons_append, mh_dot, this]
      omega
/-- a choice: so many of each of the first i coins -/
def mh_Sv (ns : List Nat) (i : Nat) (ks : List Nat) : Prop := ks.length = i ∧ ∀ j, j < i → ks.getD j 0 ≤ ns.getD j 0
def mh_Pk (cs ns : List Nat) (i s K : Nat) : Prop := ∃ ks, mh_Sv ns i ks ∧ mh_dot (cs.take i) ks = s ∧ K + mh_dg ks = ks.sum * mh_WH
def mh_Pq (cs ns : List Nat) (i t s K : Nat) : Prop := ∃ k s' K', k ≤ t ∧ mh_Pk cs ns i s' K' ∧ s = s' + k * cs.getD i 0 ∧ K + k * 21 ^ i = K' + k * mh_WH
theorem mh_getD_app {l : List Nat} {x j : Nat} : (l ++ [x]).getD j 0 = if j < l.length then l.getD j 0 else if j = l.length then x else 0 := by
  rw [List.getD_eq_getElem?_getD]
  by_cases h1 : j < l.length
  · rw [if_pos h1, List.getElem?_append_left h1, ← List.getD_eq_getElem?_getD]
  · rw [if_neg h1, List.getElem?_append_right (by omega)]
    by_cases h2 : j = l.length
    · rw [if_pos h2, h2, Nat.sub_self]; rfl
    · rw [if_neg h2, List.getElem?_eq_none (show ([x] : List Nat).length ≤ j - l.length from by show 1 ≤ _; omega)]; rfl
theorem mh_Sv_s {ns ks : List Nat} {i k : Nat} (h : mh_Sv ns i ks) (hk : k ≤ ns.getD i 0) : mh_Sv ns (i + 1) (ks ++ [k]) := by
  refine ⟨by rw [List.length_append, h.1]; rfl, fun j hj => ?_⟩
  rw [mh_getD_app, h.1]
  by_cases h1 : j < i
  · rw [if_pos h1]; exact h.2 j h1
  · rw [if_neg h1, if_pos (by omega), show j = i by omega]; exact hk
theorem mh_Sv_inv {ns ks : List Nat} {i : Nat} (h : mh_Sv ns (i + 1) ks) : ∃ k l, ks = l ++ [k] ∧ mh_Sv ns i l ∧ k ≤ ns.getD i 0 := by
  have hne : ks ≠ [] := List.length_pos_iff.mp (by rw [h.1]; omega)
  refine ⟨ks.getLast hne, ks.dropLast, (List.dropLast_concat_getLast hne).symm, ?_⟩
  have hl : ks.dropLast.length = i := by rw [List.length_dropLast, h.1]; rfl
  have e := (List.dropLast_concat_getLast hne).symm
  have a : ∀ j, j < i + 1 → (ks.dropLast ++ [ks.getLast hne]).getD j 0 ≤ ns.getD j 0 := fun j hj => by
    rw [← e]; exact h.2 j hj
  refine ⟨⟨hl, fun j hj => ?_⟩, ?_⟩
  · have := a j (by omega)
    rw [mh_getD_app, hl, if_pos hj] at this
    exact this
  · have := a i (by omega)
    rw [mh_getD_app, hl, if_neg (by omega), if_pos rfl] at this
    exact this
theorem mh_sum_app (l : List Nat) (k : Nat) : (l ++ [k]).sum = l.sum + k := by rw [List.sum_append_nat]; simp
theorem mh_Pk_0 {cs ns : List Nat} {s K : Nat} : mh_Pk cs ns 0 s K ↔ s = 0 ∧ K = 0 := by
  constructor
  · intro ⟨ks, h1, h2, h3⟩
    have e : ks = [] := List.eq_nil_of_length_eq_zero h1.1
    subst e
    have h3 : K + 0 = 0 * mh_WH := h3
    exact ⟨h2.symm, by omega⟩
  · intro ⟨h1, h2⟩
    subst h1 h2
    exact ⟨[], ⟨rfl, fun j hj => absurd hj (Nat.not_lt_zero j)⟩, rfl, by show 0 + 0 = 0 * mh_WH; omega⟩
theorem mh_Pq_end {cs ns : List Nat} {i s K : Nat} (hi : i < cs.length) (hl12 : cs.length ≤ 12) (hb : ∀ j, ns.getD j 0 ≤ 20) : mh_Pq cs ns i (ns.getD i 0) s K ↔ mh_Pk cs ns (i + 1) s K := by
  have hlen : ∀ ks, mh_Sv ns i ks → (cs.take i).length = ks.length := fun ks h => by rw [List.length_take, h.1]; omega
  constructor
  · intro ⟨k, s', K', h1, ⟨ks, h2, h3, h4⟩, h5, h6⟩
    refine ⟨ks ++ [k], mh_Sv_s h2 h1, ?_, ?_⟩
    · rw [mh_take_s hi, mh_dot_app _ _ _ _ (hlen ks h2), h3, h5, Nat.mul_comm]
    · rw [mh_dg_app, mh_sum_app, h2.1, Nat.add_mul]; omega
  · intro ⟨ks, h1, h2, h3⟩
    obtain ⟨k, l, e, h4, h5⟩ := mh_Sv_inv h1
    subst e
    rw [mh_take_s hi, mh_dot_app _ _ _ _ (hlen l h4)] at h2
    rw [mh_dg_app, mh_sum_app, h4.1, Nat.add_mul] at h3
    have hd : mh_dg l ≤ l.sum * mh_WH := by
      have : ∀ (m : List Nat), (∀ x, x ∈ m → x ≤ 20) → m.length ≤ 12 → mh_dg m ≤ m.sum * mh_WH := fun m hm hl => by
        by_cases hz : m.sum = 0
        · have hall : ∀ x, x ∈ m → x = 0 := fun x hx => by have := mh_mem_le hx; omega
          have : ∀ m : List Nat, (∀ x, x ∈ m → x = 0) → mh_dg m = 0 := fun m => by
            induction m with
            | nil => intro _; rfl
            | cons y m ih => intro h; rw [mh_dg, h y List.mem_cons_self, ih (fun x hx => h x (List.mem_cons_of_mem y hx))]
          rw [this m hall]; exact Nat.zero_le _
        · have a := mh_dg_lt m hm
          have b := Nat.pow_le_pow_right (show 0 < 21 by omega) hl
          have c : (21 : Nat) ^ 12 = mh_WH := by decide
          have d := Nat.mul_le_mul_right mh_WH (Nat.one_le_iff_ne_zero.mpr hz)
          omega
      refine this l (fun x hx => ?_) (by rw [h4.1]; omega)
      obtain ⟨j, j1, j2⟩ := mh_mem_get hx
      have := h4.2 j (by rw [h4.1] at j1; exact j1)
      have := hb j
      omega
    refine ⟨k, mh_dot (cs.take i) l, l.sum * mh_WH - mh_dg l, h5, ⟨l, h4, rfl, by omega⟩, by rw [Nat.mul_comm k]; omega, by omega⟩
