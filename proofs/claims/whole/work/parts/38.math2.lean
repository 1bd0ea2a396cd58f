/-! any coins, but for blocks that make multiples of m, are fewer than m -/
theorem mh_short {m : Nat} (hm : 0 < m) (w : Nat → Nat) : ∀ (k : Nat) (l : List Nat), l.length ≤ k → ∃ l' : List Nat, l'.length < m ∧ (∀ x, x ∈ l' → x ∈ l) ∧ l'.sum % m = l.sum % m ∧ (l'.map w).sum ≤ (l.map w).sum ∧ l'.sum ≤ l.sum := by
  intro k
  induction k with
  | zero =>
    intro l hl
    exact ⟨l, by omega, fun _ h => h, rfl, Nat.le_refl _, Nat.le_refl _⟩
  | succ k ih =>
    intro l hl
    by_cases h : l.length < m
    · exact ⟨l, h, fun _ h => h, rfl, Nat.le_refl _, Nat.le_refl _⟩
    · obtain ⟨a, b, c, e, hb, _, hd⟩ := mh_blk hm (Nat.le_of_not_lt h)
      have hbl := List.length_pos_iff.mpr hb
      have hl2 : (a ++ c).length ≤ k := by
        rw [e, List.length_append, List.length_append] at hl
        rw [List.length_append]
        omega
      obtain ⟨l', q1, q2, q3, q4, q5⟩ := ih (a ++ c) hl2
      refine ⟨l', q1, fun x hx => ?_, ?_, ?_, ?_⟩
      · rw [e]
        have := q2 x hx
        simp only [List.mem_append] at this ⊢
        rcases this with h | h
        · exact Or.inl h
        · exact Or.inr (Or.inr h)
      · obtain ⟨q, hq⟩ := hd
        rw [q3, e]
        simp only [List.sum_append_nat]
        rw [hq, show a.sum + (m * q + c.sum) = a.sum + c.sum + m * q by omega, Nat.add_mul_mod_self_left]
      · refine Nat.le_trans q4 ?_
        rw [e]
        simp only [List.map_append, List.sum_append_nat]
        omega
      · refine Nat.le_trans q5 ?_
        rw [e]
        simp only [List.sum_append_nat]
        omega
theorem mh_sum_le {B : Nat} : ∀ (l : List Nat), (∀ x, x ∈ l → x ≤ B) → l.sum ≤ l.length * B := by
  intro l
  induction l with
  | nil => intro _; exact Nat.zero_le _
  | cons c l ih =>
    intro h
    have a := h c List.mem_cons_self
    have b := ih (fun x hx => h x (List.mem_cons_of_mem c hx))
    rw [List.sum_cons, List.length_cons, Nat.succ_mul]
    omega
theorem mh_flt (p : Nat → Bool) : ∀ (l : List Nat), (l.filter p).sum + (l.filter (fun x => !p x)).sum = l.sum ∧ (l.filter p).length + (l.filter (fun x => !p x)).length = l.length := by
  intro l
  induction l with
  | nil => exact ⟨rfl, rfl⟩
  | cons c l ih =>
    by_cases hc : p c = true
    · rw [List.filter_cons_of_pos hc, List.filter_cons_of_neg (by simp [hc])]
      simp only [List.sum_cons, List.length_cons]
      omega
    · rw [List.filter_cons_of_neg hc, List.filter_cons_of_pos (by simp [hc])]
      simp only [List.sum_cons, List.length_cons]
      omega
/-- a mint as the proof has it: values of 1 or more, the greatest g -/
def mh_gr (cs : List Nat) (g : Nat) : Prop := g ∈ cs ∧ ∀ x, x ∈ cs → 1 ≤ x ∧ x ≤ g
theorem mh_few {cs : List Nat} {g s n : Nat} {l : List Nat} (hg : mh_gr cs g) (hm : mh_mn cs s = some n) (h1 : ∀ x, x ∈ l → x ∈ cs) (h2 : l.sum = s) (h3 : l.length = n) : (l.filter (fun x => !(x == g))).length < g := by
  refine Nat.lt_of_not_le (fun hc => ?_)
  have g1 := (hg.2 g hg.1).1
  obtain ⟨a, b, c, e, hb, _, q, hq⟩ := mh_blk g1 hc
  have hf := mh_flt (fun x => x == g) l
  have hin : ∀ x, x ∈ l.filter (fun x => !(x == g)) → x ∈ cs ∧ x ≠ g := fun x hx => by
    have := List.mem_filter.mp hx
    exact ⟨h1 x this.1, by simpa using this.2⟩
  have hbi : ∀ x, x ∈ b → x ≤ g - 1 := fun x hx => by
    have := hin x (by rw [e]; exact List.mem_append_right _ (List.mem_append_left _ hx))
    have := hg.2 x this.1
    omega
  have hs := mh_sum_le b hbi
  have hbl := List.length_pos_iff.mpr hb
  have hqb : q < b.length := by
    refine Nat.lt_of_not_le (fun hc => ?_)
    have a1 := Nat.mul_le_mul_left g hc
    have a2 : b.length * (g - 1) + b.length = b.length * g := by
      rw [← Nat.mul_succ]
      congr 1
      omega
    have a3 := Nat.mul_comm g b.length
    omega
  have hs2 := congrArg List.sum e
  have hl2 := congrArg List.length e
  simp only [List.sum_append_nat, List.length_append] at hs2 hl2
  have hp : mh_pay cs s (n - b.length + q) := by
    refine ⟨l.filter (fun x => x == g) ++ (List.replicate q g ++ (a ++ c)), fun x hx => ?_, ?_, ?_⟩
    · rcases List.mem_append.mp hx with hx | hx
      · exact h1 x (List.mem_filter.mp hx).1
      · rcases List.mem_append.mp hx with hx | hx
        · rw [(List.mem_replicate.mp hx).2]
          exact hg.1
        · refine (hin x ?_).1
          rw [e]
          rcases List.mem_append.mp hx with hx | hx
          · exact List.mem_append_left _ hx
          · exact List.mem_append_right _ (List.mem_append_right _ hx)
    · simp only [List.sum_append_nat, List.sum_replicate_nat]
      have := Nat.mul_comm g q
      omega
    · simp only [List.length_append, List.length_replicate]
      omega
  have := mh_mn_le hm hp
  omega
theorem mh_has_g {cs : List Nat} {g s n : Nat} (hg : mh_gr cs g) (hm : mh_mn cs s = some n) (hs : (g - 1) * (g - 1) < s) : g ≤ s ∧ 0 < n ∧ mh_pay cs (s - g) (n - 1) := by
  obtain ⟨l, h1, h2, h3⟩ := mh_mn_pay hm
  have hf := mh_few hg hm h1 h2 h3
  by_cases hl : g ∈ l
  · exact mh_er h1 h2 h3 hl
  · exfalso
    have e : l.filter (fun x => !(x == g)) = l := List.filter_eq_self.mpr (fun x hx => by
      have : x ≠ g := fun q => hl (q ▸ hx)
      simpa using this)
    rw [e] at hf
    have := mh_sum_le (B := g - 1) l (fun x hx => by
      have a : x ≠ g := fun q => hl (q ▸ hx)
      have b := hg.2 x (h1 x hx)
      omega)
    have := Nat.mul_le_mul_right (g - 1) (show l.length ≤ g - 1 by omega)
    omega
theorem mh_per {cs : List Nat} {g s : Nat} (hg : mh_gr cs g) (hs : (g - 1) * (g - 1) < s + g) : mh_mn cs (s + g) = (mh_mn cs s).map (· + 1) := by
  cases h : mh_mn cs s with
  | none =>
    refine mh_mn_none.mpr (fun hp => ?_)
    obtain ⟨k, hk⟩ := mh_mn_ex hp
    obtain ⟨_, _, q⟩ := mh_has_g hg hk hs
    rw [Nat.add_sub_cancel] at q
    exact mh_mn_none.mp h ⟨_, q⟩
  | some n =>
    have a := mh_pay_c hg.1 (mh_mn_pay h)
    obtain ⟨k, hk⟩ := mh_mn_ex ⟨_, a⟩
    obtain ⟨_, q0, q⟩ := mh_has_g hg hk hs
    rw [Nat.add_sub_cancel] at q
    have := mh_mn_le h q
    have := mh_mn_le hk a
    rw [hk]
    show some k = some (n + 1)
    congr 1
    omega
theorem mh_perk {cs : List Nat} {g s : Nat} (hg : mh_gr cs g) (hs : (g - 1) * (g - 1) < s + g) : ∀ k, mh_mn cs (s + k * g) = (mh_mn cs s).map (· + k) := by
  intro k
  induction k with
  | zero =>
    rw [Nat.zero_mul]
    cases mh_mn cs s <;> rfl
  | succ k ih =>
    rw [Nat.succ_mul, ← Nat.add_assoc, mh_per hg (by omega), ih]
    cases mh_mn cs s <;> rfl
/-! rests: what is closed under sums reaches the greatest common divisor of its rests -/
def mh_res (m : Nat) (P : Nat → Prop) (r : Nat) : Prop := ∃ s, P s ∧ s % m = r % m
theorem mh_res_k {m : Nat} {P : Nat → Prop} (h0 : P 0) (ha : ∀ a b, P a → P b → P (a + b)) {t : Nat} (h : P t) : ∀ k, P (k * t) := by
  intro k
  induction k with
  | zero => rw [Nat.zero_mul]; exact h0
  | succ k ih => rw [Nat.succ_mul]; exact ha _ _ ih h
theorem mh_res_mul {m : Nat} {P : Nat → Prop} (h0 : P 0) (ha : ∀ a b, P a → P b → P (a + b)) {r : Nat} (h : mh_res m P r) (k : Nat) : mh_res m P (k * r) := by
  obtain ⟨s, h1, h2⟩ := h
  exact ⟨k * s, mh_res_k (m := m) h0 ha h1 k, by rw [Nat.mul_mod, h2, ← Nat.mul_mod]⟩
theorem mh_res_mod {m : Nat} {P : Nat → Prop} (hm : 0 < m) (h0 : P 0) (ha : ∀ a b, P a → P b → P (a + b)) {a b : Nat} (h : mh_res m P a) (k : mh_res m P b) : mh_res m P (b % a) := by
  obtain ⟨s, h1, h2⟩ := mh_res_mul h0 ha h ((m - 1) * (b / a))
  obtain ⟨t, k1, k2⟩ := k
  refine ⟨t + s, ha _ _ k1 h1, ?_⟩
  rw [Nat.add_mod, h2, k2, ← Nat.add_mod]
  have e : b + (m - 1) * (b / a) * a = b % a + m * (b / a * a) := by
    have h1 := Nat.div_add_mod b a
    have h2 : m * (b / a * a) = (m - 1) * (b / a * a) + (b / a * a) := by
      rw [← Nat.succ_mul]
      congr 1
      omega
    rw [h2, Nat.mul_assoc]
    have := Nat.mul_comm a (b / a)
    omega
  rw [e, Nat.add_mul_mod_self_left]
theorem mh_res_gcd {m : Nat} {P : Nat → Prop} (hm : 0 < m) (h0 : P 0) (ha : ∀ a b, P a → P b → P (a + b)) : ∀ (a b : Nat), mh_res m P a → mh_res m P b → mh_res m P (Nat.gcd a b) := by
  intro a
  induction a using Nat.strongRecOn with
  | ind a ih =>
    intro b h k
    by_cases hz : a = 0
    · rw [hz, Nat.gcd_zero_left]
      exact k
    · rw [Nat.gcd_rec]
      exact ih (b % a) (Nat.mod_lt _ (by omega)) a (mh_res_mod hm h0 ha h k) h
theorem mh_res_self {m : Nat} {P : Nat → Prop} (h0 : P 0) : mh_res m P m := ⟨0, h0, by rw [Nat.mod_self, Nat.zero_mod]⟩
theorem mh_res_gd {m : Nat} {P : Nat → Prop} (hm : 0 < m) (h0 : P 0) (ha : ∀ a b, P a → P b → P (a + b)) : ∀ (cs : List Nat) (d : Nat), mh_res m P d → (∀ c, c ∈ cs → P c) → mh_res m P (mh_gd cs d) := by
  intro cs
  induction cs with
  | nil => intro d h _; exact h
  | cons c cs ih =>
    intro d h hc
    exact ih (Nat.gcd c d) (mh_res_gcd hm h0 ha c d ⟨c, hc c List.mem_cons_self, rfl⟩ h) (fun x hx => hc x (List.mem_cons_of_mem c hx))
theorem mh_gd_dvd : ∀ (cs : List Nat) (d : Nat), mh_gd cs d ∣ d ∧ ∀ c, c ∈ cs → mh_gd cs d ∣ c := by
  intro cs
  induction cs with
  | nil => intro d; exact ⟨Nat.dvd_refl _, fun c h => absurd h List.not_mem_nil⟩
  | cons c cs ih =>
    intro d
    have h := ih (Nat.gcd c d)
    refine ⟨Nat.dvd_trans h.1 (Nat.gcd_dvd_right _ _), fun x hx => ?_⟩
    rcases List.mem_cons.mp hx with e | hx
    · rw [e]
      exact Nat.dvd_trans h.1 (Nat.gcd_dvd_left _ _)
    · exact h.2 x hx
theorem mh_py_dvd {cs : List Nat} {d s : Nat} (hd : ∀ c, c ∈ cs → d ∣ c) (h : mh_py cs s) : d ∣ s := by
  obtain ⟨n, l, h1, h2, h3⟩ := h
  subst h2
  clear h3
  induction l with
  | nil => exact Nat.dvd_zero d
  | cons c l ih =>
    rw [List.sum_cons]
    exact Nat.dvd_add (hd c (h1 c List.mem_cons_self)) (ih (fun x hx => h1 x (List.mem_cons_of_mem c hx)))
/-- all multiples of the divisor from some sum on are paid -/
theorem mh_frob {cs : List Nat} {m s : Nat} (hm : mh_py cs m) (h0 : 0 < m) (hb : ∀ x, x ∈ cs → x ≤ 300) (hd : mh_gd cs 0 ∣ s) (hs : (m - 1) * 300 ≤ s) : mh_py cs s := by
  have hr : mh_res m (mh_py cs) (mh_gd cs 0) := mh_res_gd h0 (mh_py0 cs) (fun a b => mh_py_add) cs 0 ⟨0, mh_py0 cs, rfl⟩ (fun c => mh_py_c)
  obtain ⟨k, hk⟩ := hd
  obtain ⟨t, ⟨n, l, h1, h2, h3⟩, ht⟩ := mh_res_mul (mh_py0 cs) (fun a b => mh_py_add) hr k
  obtain ⟨l', q1, q2, q3, _, _⟩ := mh_short h0 (fun x => x) l.length l (Nat.le_refl _)
  have q6 := mh_sum_le l' (fun x hx => hb x (h1 x (q2 x hx)))
  have q7 := Nat.mul_le_mul_right 300 (show l'.length ≤ m - 1 by omega)
  have hc : l'.sum % m = s % m := by
    rw [q3, h2, ht, hk, Nat.mul_comm]
  have hle : l'.sum ≤ s := by omega
  have e : s = l'.sum + (s / m - l'.sum / m) * m := by
    have a := Nat.div_add_mod s m
    have b := Nat.div_add_mod l'.sum m
    have c := Nat.div_le_div_right (c := m) hle
    rw [Nat.sub_mul, Nat.mul_comm (s / m), Nat.mul_comm (l'.sum / m)]
    have := Nat.mul_le_mul_left m c
    omega
  rw [e]
  exact mh_py_add ⟨_, l', fun x hx => h1 x (q2 x hx), rfl, rfl⟩ (mh_py_mul hm _)
