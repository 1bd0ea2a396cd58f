/-! a loop of the model, by a measure: each turn goes on with less, or ends -/
theorem mh_wh {σ R β : Type} (F : Nat → σ → β) (G : R → β) (P : σ → Prop) (μ : σ → Nat) (Q : R → Prop)
    (h : ∀ n s, P s → (∃ s', P s' ∧ μ s' < μ s ∧ F (n + 1) s = F n s') ∨ ∃ r, Q r ∧ F (n + 1) s = G r) :
    ∀ (k n : Nat) (s : σ), μ s ≤ k → P s → k < n → ∃ r, Q r ∧ F n s = G r := by
  intro k
  induction k with
  | zero =>
    intro n s h1 h2 h3
    obtain ⟨n, rfl⟩ : ∃ k, n = k + 1 := ⟨n - 1, by omega⟩
    rcases h n s h2 with ⟨s', q1, q2, q3⟩ | h
    · omega
    · exact h
  | succ k ih =>
    intro n s h1 h2 h3
    obtain ⟨n, rfl⟩ : ∃ k, n = k + 1 := ⟨n - 1, by omega⟩
    rcases h n s h2 with ⟨s', q1, q2, q3⟩ | h
    · rw [q3]
      exact ih n s' (by omega) q1 (by omega)
    · exact h
/-! what differs lies apart -/
theorem mh_apt {h : mh_H} {a b : Nat} {e1 e2 : mh_E} (h1 : h a = some e1) (h2 : h b = some e2) (hn : e1 ≠ e2) : a ≠ b := fun q => by
  rw [q, h2] at h1
  exact hn (Option.some.inj h1).symm
theorem mh_aI_eq' {h : mh_H} {a kd n j : Nat} {f : Nat → Int32} (ha : h a = some (.inl (kd, n, .inl f))) (hj : j < n) (hn : n < 2 ^ 31) : mh_aI h a kd (nI j) = some (f j) := mh_aI_eq ha hj hn
theorem mh_sJ_eq {h : mh_H} {a n j : Nat} {f : Nat → Int64} {v : Int64} (ha : h a = some (.inl (1, n, .inr (.inl f)))) (hj : j < n) (hn : n < 2 ^ 31) : mh_sJ h a (nI j) v = some (mh_up h a (.inl (1, n, .inr (.inl (vp_updL f j v))))) := by
  unfold mh_sJ
  rw [ha]
  show (if 1 = 1 ∧ (0 ≤ (nI j).toInt ∧ (nI j).toInt < (n : Int)) then some (mh_up h a (.inl (1, n, .inr (.inl (vp_updL f (nI j).toNatClampNeg v))))) else none) = _
  rw [if_pos ⟨rfl, mh_ixn hj hn⟩, nI_clamp (by omega)]
theorem mh_nm_eq {α β : Type} (x : α) (f : α → β) : mh_nm x f = f x := rfl
theorem mh_nz_eq {α : Type} {c : Prop} [Decidable c] {o : Option α} (h : ¬ c) : mh_nz c o = o := if_neg h
def mh_bz (b : Bool) : Int32 := if b then 1 else 0
theorem mh_bz_t : mh_bz true = 1 := rfl
theorem mh_bz_f : mh_bz false = 0 := rfl
theorem mh_bz01 (b : Bool) : mh_bz b = 0 ∨ mh_bz b = 1 := by cases b <;> simp [mh_bz]
theorem mh_bz0 (b : Bool) : mh_bz b = 0 ↔ b = false := by cases b <;> simp [mh_bz]
theorem mh_bz1 (b : Bool) : mh_bz b = 1 ↔ b = true := by cases b <;> simp [mh_bz]
theorem mh_pI_s {h : mh_H} {a ci k : Nat} {fs : List Value} {v : Int32} (fs' : List Value) (ha : h a = some (.inr (ci, fs))) (hs : k < fs.length ∧ fs.set k (.int v) = fs') : mh_pI h a ci k v = some (mh_up h a (.inr (ci, fs'))) := by
  rw [mh_pI_eq ha hs.1, hs.2]
theorem mh_ltl {a b : Nat} (x : Int32) (hx : x = nI a) (ha : a < 2 ^ 31) (hb : b < 2 ^ 31) : x < nI b ↔ a < b := by rw [hx]; exact nI_ltI ha hb
theorem mh_ltr {a b : Nat} (x : Int32) (hx : x = nI b) (ha : a < 2 ^ 31) (hb : b < 2 ^ 31) : nI a < x ↔ a < b := by rw [hx]; exact nI_ltI ha hb
theorem mh_lel {a b : Nat} (x : Int32) (hx : x = nI a) (ha : a < 2 ^ 31) (hb : b < 2 ^ 31) : x ≤ nI b ↔ a ≤ b := by rw [hx]; exact nI_leI ha hb
theorem mh_ler {a b : Nat} (x : Int32) (hx : x = nI b) (ha : a < 2 ^ 31) (hb : b < 2 ^ 31) : nI a ≤ x ↔ a ≤ b := by rw [hx]; exact nI_leI ha hb
theorem mh_eqr {a b : Nat} (x : Int32) (hx : x = nI b) (ha : a < 2 ^ 31) (hb : b < 2 ^ 31) : nI a = x ↔ a = b := by rw [hx]; exact nI_eq ha hb
