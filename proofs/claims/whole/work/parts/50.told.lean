/-! the paying that is told -/
def mh_Op (cs : List Nat) (s : Nat) (l : List Nat) : Prop := (∀ x, x ∈ l → x ∈ cs) ∧ l.sum = s ∧ mh_mn cs s = some l.length
def mh_Tm (cs : List Nat) (s c n : Nat) : Prop := (∃ l, mh_Op cs s l ∧ l.count c = n) ∧ ∀ l, mh_Op cs s l → l.count c ≤ n
theorem mh_Tm_u {cs : List Nat} {s c n m : Nat} (h : mh_Tm cs s c n) (k : mh_Tm cs s c m) : n = m := by
  obtain ⟨⟨l, h1, h2⟩, h3⟩ := h
  obtain ⟨⟨r, k1, k2⟩, k3⟩ := k
  have := h3 r k1
  have := k3 l h1
  omega
def mh_Td (cs : List Nat) : Nat → Nat → Nat → Nat → Prop
  | 0, _, _, _ => False
  | j + 1, left, i, n => ∃ k, mh_Tm (cs.take (j + 1)) left (cs.getD j 0) k ∧ (if i = j then n = k else mh_Td cs j (left - k * cs.getD j 0) i n)
theorem mh_Td_u {cs : List Nat} {i n m : Nat} : ∀ (j left : Nat), mh_Td cs j left i n → mh_Td cs j left i m → n = m := by
  intro j
  induction j with
  | zero => intro left h _; exact absurd h id
  | succ j ih =>
    intro left h k
    obtain ⟨a, h1, h2⟩ := h
    obtain ⟨b, k1, k2⟩ := k
    have e := mh_Tm_u h1 k1
    subst e
    by_cases hi : i = j
    · rw [if_pos hi] at h2 k2; omega
    · rw [if_neg hi] at h2 k2; exact ih _ h2 k2
theorem mh_outc (c : Nat) : ∀ (l : List Nat), ∃ l0 : List Nat, (∀ x, x ∈ l0 → x ∈ l ∧ x ≠ c) ∧ l.sum = l0.sum + l.count c * c ∧ l.length = l0.length + l.count c := by
  intro l
  induction l with
  | nil => exact ⟨[], fun x h => absurd h List.not_mem_nil, by simp, rfl⟩
  | cons x l ih =>
    obtain ⟨l0, h1, h2, h3⟩ := ih
    by_cases hx : x = c
    · subst hx
      refine ⟨l0, fun y hy => ⟨List.mem_cons_of_mem _ (h1 y hy).1, (h1 y hy).2⟩, ?_, ?_⟩
      · rw [List.sum_cons, List.count_cons_self, Nat.succ_mul]; omega
      · rw [List.length_cons, List.count_cons_self]; omega
    · refine ⟨x :: l0, fun y hy => ?_, ?_, ?_⟩
      · rcases List.mem_cons.mp hy with e | hy
        · rw [e]; exact ⟨List.mem_cons_self, hx⟩
        · exact ⟨List.mem_cons_of_mem _ (h1 y hy).1, (h1 y hy).2⟩
      · rw [List.sum_cons, List.sum_cons, List.count_cons_of_ne hx]; omega
      · rw [List.length_cons, List.length_cons, List.count_cons_of_ne hx]; omega
/-- k of a coin can be taken, and the rest is paid best -/
def mh_Ak (cs : List Nat) (s c v k : Nat) : Prop := k * c ≤ s ∧ k ≤ v ∧ mh_mn cs (s - k * c) = some (v - k)
theorem mh_pay_rep {cs : List Nat} {c s n : Nat} (hc : c ∈ cs) (h : mh_pay cs s n) (k : Nat) : mh_pay cs (s + k * c) (n + k) := by
  induction k with
  | zero => rw [Nat.zero_mul]; exact h
  | succ k ih => rw [Nat.succ_mul, ← Nat.add_assoc, ← Nat.add_assoc]; exact mh_pay_c hc ih
theorem mh_Ak_of {cs : List Nat} {s c v k : Nat} {l : List Nat} (hv : mh_mn cs s = some v) (hc : c ∈ cs) (h : mh_Op cs s l) (hk : k ≤ l.count c) : mh_Ak cs s c v k := by
  obtain ⟨h1, h2, h3⟩ := h
  have e : v = l.length := by rw [hv] at h3; exact Option.some.inj h3
  obtain ⟨l0, q1, q2, q3⟩ := mh_outc c l
  have hm := Nat.mul_le_mul_right c hk
  have hd : (l.count c - k) * c + k * c = l.count c * c := by rw [← Nat.add_mul]; congr 1; omega
  refine ⟨by omega, by omega, mh_mn_some.mpr ⟨⟨l0 ++ List.replicate (l.count c - k) c, fun x hx => ?_, ?_, ?_⟩, fun m hm2 => ?_⟩⟩
  · rcases List.mem_append.mp hx with hx | hx
    · exact h1 x (q1 x hx).1
    · rw [(List.mem_replicate.mp hx).2]; exact hc
  · rw [List.sum_append_nat, List.sum_replicate_nat]; omega
  · rw [List.length_append, List.length_replicate]; omega
  · have := mh_pay_rep hc hm2 k
    rw [Nat.sub_add_cancel (by omega)] at this
    have := mh_mn_le hv this
    omega
theorem mh_Ak_op {cs : List Nat} {s c v k : Nat} (hv : mh_mn cs s = some v) (hc : c ∈ cs) (h : mh_Ak cs s c v k) {l : List Nat} (hl : mh_Op cs (s - k * c) l) : mh_Op cs s (l ++ List.replicate k c) := by
  obtain ⟨h1, h2, h3⟩ := h
  obtain ⟨q1, q2, q3⟩ := hl
  rw [h3] at q3
  have q3 := Option.some.inj q3
  refine ⟨fun x hx => ?_, ?_, ?_⟩
  · rcases List.mem_append.mp hx with hx | hx
    · exact q1 x hx
    · rw [(List.mem_replicate.mp hx).2]; exact hc
  · rw [List.sum_append_nat, List.sum_replicate_nat]; omega
  · rw [hv, List.length_append, List.length_replicate]; congr 1; omega
theorem mh_Op_ex {cs : List Nat} {s v : Nat} (hv : mh_mn cs s = some v) : ∃ l, mh_Op cs s l := by
  obtain ⟨l, h1, h2, h3⟩ := mh_mn_pay hv
  exact ⟨l, h1, h2, by rw [hv, h3]⟩
theorem mh_Ak_0 {cs : List Nat} {s c v : Nat} (hv : mh_mn cs s = some v) : mh_Ak cs s c v 0 := ⟨by omega, Nat.zero_le _, by rw [Nat.zero_mul]; exact hv⟩
theorem mh_Tm_of {cs : List Nat} {s c v k : Nat} (hv : mh_mn cs s = some v) (hc : c ∈ cs) (h : mh_Ak cs s c v k) (hn : ¬ mh_Ak cs s c v (k + 1)) : mh_Tm cs s c k := by
  have up : ∀ l, mh_Op cs s l → l.count c ≤ k := fun l hl => Nat.le_of_not_lt (fun q => hn (mh_Ak_of hv hc hl q))
  obtain ⟨l, hl⟩ := mh_Op_ex h.2.2
  have h2 := mh_Ak_op hv hc h hl
  refine ⟨⟨_, h2, ?_⟩, up⟩
  have a := up _ h2
  have b : k ≤ (l ++ List.replicate k c).count c := by
    rw [List.count_append, List.count_replicate_self]; omega
  omega
/-- all best payings use some coins alone -/
def mh_Us (cs ds : List Nat) (s : Nat) : Prop := (∃ v, mh_mn cs s = some v) ∧ ∀ l, mh_Op cs s l → ∀ x, x ∈ l → x ∈ ds
theorem mh_Us_op {cs ds : List Nat} {s : Nat} (hd : ∀ x, x ∈ ds → x ∈ cs) (h : mh_Us cs ds s) (l : List Nat) : mh_Op cs s l ↔ mh_Op ds s l := by
  obtain ⟨⟨v, hv⟩, h2⟩ := h
  have fw : ∀ l, mh_Op cs s l → mh_Op ds s l := fun l hl => ⟨h2 l hl, hl.2.1, mh_mn_some.mpr ⟨⟨l, h2 l hl, hl.2.1, rfl⟩, fun m hm => mh_mn_le hl.2.2 (mh_pay_sub hm hd)⟩⟩
  refine ⟨fw l, fun hl => ⟨fun x hx => hd x (hl.1 x hx), hl.2.1, ?_⟩⟩
  obtain ⟨r, hr⟩ := mh_Op_ex hv
  have := (fw r hr).2.2
  rw [hl.2.2] at this
  rw [this]
  exact hr.2.2
theorem mh_Us_mx {cs ds : List Nat} {s c k : Nat} (hd : ∀ x, x ∈ ds → x ∈ cs) (h : mh_Us cs ds s) (hm : mh_Tm cs s c k) : mh_Tm ds s c k := by
  obtain ⟨⟨l, h1, h2⟩, h3⟩ := hm
  exact ⟨⟨l, (mh_Us_op hd h l).mp h1, h2⟩, fun r hr => h3 r ((mh_Us_op hd h r).mpr hr)⟩
theorem mh_Us_next {cs ds es : List Nat} {s c v k : Nat} (hv : mh_mn cs s = some v) (hc : c ∈ cs) (h : mh_Us cs ds s) (hA : mh_Ak cs s c v k) (hm : mh_Tm cs s c k) (he : ∀ x, x ∈ ds → x ≠ c → x ∈ es) : mh_Us cs es (s - k * c) := by
  refine ⟨⟨_, hA.2.2⟩, fun l hl x hx => ?_⟩
  have h2 := mh_Ak_op hv hc hA hl
  refine he x (h.2 _ h2 x (List.mem_append_left _ hx)) (fun q => ?_)
  have a := hm.2 _ h2
  rw [List.count_append, List.count_replicate_self] at a
  have : 0 < l.count c := List.count_pos_iff.mpr (q ▸ hx)
  omega
/-- in rising coins, those below the j-th stand ahead -/
theorem mh_take_ne {cs : List Nat} {j x : Nat} (hj : j < cs.length) (hx : x ∈ cs.take (j + 1)) (hn : x ≠ cs.getD j 0) : x ∈ cs.take j := by
  rw [mh_take_s hj] at hx
  rcases List.mem_append.mp hx with q | q
  · exact q
  · exact absurd (List.mem_singleton.mp q) hn
