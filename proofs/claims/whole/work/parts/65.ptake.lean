/-- a purse as it may be -/
def mh_pz (cs ns : List Nat) : Prop := mh_ms cs ∧ ns.length = cs.length ∧ (∀ j, ns.getD j 0 ≤ 20) ∧ mh_dot cs ns ≤ 20000
theorem mh_sum_b : ∀ (l : List Nat) (B : Nat), (∀ j, j < l.length → l.getD j 0 ≤ B) → l.sum ≤ l.length * B := by
  intro l B h
  refine mh_sum_le l (fun x hx => ?_)
  obtain ⟨j, j1, j2⟩ := mh_mem_get hx
  rw [← j2]
  exact h j j1
theorem mh_Pk_b {cs ns : List Nat} (hb : ∀ j, ns.getD j 0 ≤ 20) {i s K : Nat} (hi : i ≤ 12) (h : mh_Pk cs ns i s K) : K ≤ 240 * mh_WH := by
  obtain ⟨ks, h1, h2, h3⟩ := h
  have a := mh_sum_b ks 20 (fun j hj => by have := h1.2 j (by rw [h1.1] at hj; exact hj); have := hb j; omega)
  rw [h1.1] at a
  have b := Nat.mul_le_mul_right mh_WH (show ks.sum ≤ 240 by omega)
  omega
theorem mh_Pq_b {cs ns : List Nat} (hb : ∀ j, ns.getD j 0 ≤ 20) {i t s K : Nat} (hi : i ≤ 12) (ht : t ≤ 20) (h : mh_Pq cs ns i t s K) : K ≤ 260 * mh_WH := by
  obtain ⟨k, s', K', h1, h2, h3, h4⟩ := h
  have a := mh_Pk_b hb hi h2
  have b := Nat.mul_le_mul_right mh_WH (show k ≤ 20 by omega)
  omega
theorem mh_Pq_0 {cs ns : List Nat} {i s K : Nat} : mh_Pq cs ns i 0 s K ↔ mh_Pk cs ns i s K := by
  constructor
  · intro ⟨k, s', K', h1, h2, h3, h4⟩
    have e : k = 0 := by omega
    subst e
    rw [Nat.zero_mul] at h3 h4
    rw [Nat.zero_mul] at h4
    have e1 : s = s' := by omega
    have e2 : K = K' := by omega
    rw [e1, e2]
    exact h2
  · intro h
    exact ⟨0, s, K, Nat.le_refl _, h, by omega, by omega⟩
theorem mh_21 {i : Nat} (hi : i ≤ 12) : 21 ^ i ≤ mh_WH := by
  have a := Nat.pow_le_pow_right (show 0 < 21 by omega) hi
  have c : (21 : Nat) ^ 12 = mh_WH := by decide
  omega
theorem mh_Pq_s {cs ns : List Nat} {i t p s K : Nat} (hi : i ≤ 12) (hp : p ≤ t + 1) : mh_Pn (mh_Pq cs ns i t) (p * cs.getD i 0) (p * (mh_WH - 21 ^ i)) s K ↔ mh_Pq cs ns i (t + p) s K := by
  have h21 := mh_21 hi
  constructor
  · intro h
    rcases h with ⟨k, s', K', h1, h2, h3, h4⟩ | ⟨h0, K0, ⟨k, s', K', h1, h2, h3, h4⟩, h5⟩
    · exact ⟨k, s', K', by omega, h2, h3, h4⟩
    · refine ⟨k + p, s', K', by omega, h2, by rw [Nat.add_mul]; omega, ?_⟩
      rw [h5, Nat.mul_sub, Nat.add_mul, Nat.add_mul]
      have := Nat.mul_le_mul_left p h21
      omega
  · intro ⟨k, s', K', h1, h2, h3, h4⟩
    by_cases hk : k ≤ t
    · exact Or.inl ⟨k, s', K', hk, h2, h3, h4⟩
    · right
      obtain ⟨m, rfl⟩ : ∃ m, k = m + p := ⟨k - p, by omega⟩
      rw [Nat.add_mul] at h3 h4
      rw [Nat.add_mul] at h4
      have a := Nat.mul_le_mul_left p h21
      have b := Nat.mul_le_mul_left m h21
      refine ⟨by omega, K' + m * mh_WH - m * 21 ^ i, ⟨m, s', K', by omega, h2, by omega, by omega⟩, ?_⟩
      rw [Nat.mul_sub]
      omega
section MhPT2
variable {h : mh_H} {o pu kv : Nat} {cs ns : List Nat}
theorem mh_Tk_iff {P Q : Nat → Nat → Prop} {s : Nat} {x : Int64} (h : mh_Tk P s x) (e : ∀ K, P s K ↔ Q s K) : mh_Tk Q s x := by
  rcases h with ⟨h1, h2⟩ | ⟨K, h1, h2, h3, h4⟩
  · exact Or.inl ⟨fun K q => h1 K ((e K).mpr q), h2⟩
  · exact Or.inr ⟨K, (e K).mp h1, fun K' q => h2 K' ((e K').mpr q), h3, h4⟩
theorem mh_fx8_allowAll {f0 : Nat → Int64} {tot i : Nat} (ho : h o = some (.inr (8, [.ref pu, .ref kv, .int (nI tot)]))) (hk : h kv = some (.inl (1, 20001, .inr (.inl f0)))) (hms : mh_ms cs) (hb : ∀ j, ns.getD j 0 ≤ 20) (hi : i < cs.length) (hT : ∀ s, s < 20001 → mh_Tk (mh_Pk cs ns i) s (f0 s)) (ht : ∀ s K, mh_Pk cs ns i s K → s ≤ tot) (h2 : tot + ns.getD i 0 * cs.getD i 0 ≤ 20000) :
    ∃ f', f_X8_allowAll_e o (nI (ns.getD i 0)) (nI (cs.getD i 0)) (lN (mh_WH - 21 ^ i)) h = some (mh_up (mh_up h o (.inr (8, [.ref pu, .ref kv, .int (nI (tot + ns.getD i 0 * cs.getD i 0))]))) kv (.inl (1, 20001, .inr (.inl f')))) ∧ ∀ s, s < 20001 → mh_Tk (mh_Pk cs ns (i + 1)) s (f' s) := by
  have hl := hms.1.1
  have hbi := hb i
  have hci := hms.1.get hi
  have n1 : o ≠ kv := mh_apt ho hk (fun q => by cases q)
  have h21 := mh_21 (show i ≤ 12 by omega)
  have hWH : mh_WH = 7355827511386641 := rfl
  have key := mh_wh (fun n (q : Nat × Nat × (Nat → Int64)) => f_X8_allowAll_b6 n o (nI (cs.getD i 0)) (lN (mh_WH - 21 ^ i)) (nI (ns.getD i 0 - q.1)) (nI q.2.1) (mh_up (mh_up h o (.inr (8, [.ref pu, .ref kv, .int (nI (tot + q.1 * cs.getD i 0))]))) kv (.inl (1, 20001, .inr (.inl q.2.2)))))
    (fun (f : Nat → Int64) => some (mh_up (mh_up h o (.inr (8, [.ref pu, .ref kv, .int (nI (tot + ns.getD i 0 * cs.getD i 0))]))) kv (.inl (1, 20001, .inr (.inl f)))))
    (fun q => q.1 ≤ ns.getD i 0 ∧ (q.1 = ns.getD i 0 ∨ q.2.1 = q.1 + 1) ∧ q.2.1 ≤ 100 ∧ ∀ s, s < 20001 → mh_Tk (mh_Pq cs ns i q.1) s (q.2.2 s)) (fun q => ns.getD i 0 - q.1)
    (fun f => ∀ s, s < 20001 → mh_Tk (mh_Pk cs ns (i + 1)) s (f s))
    (fun n q hq => by
      obtain ⟨t, hp, f⟩ := q
      obtain ⟨q1, q2, q3, q4⟩ := hq
      have q1 : t ≤ ns.getD i 0 := q1
      have q2 : t = ns.getD i 0 ∨ hp = t + 1 := q2
      have q3 : hp ≤ 100 := q3
      have q4 : ∀ s, s < 20001 → mh_Tk (mh_Pq cs ns i t) s (f s) := q4
      show (∃ s', _ ∧ _ ∧ f_X8_allowAll_b6 (n + 1) o (nI (cs.getD i 0)) (lN (mh_WH - 21 ^ i)) (nI (ns.getD i 0 - t)) (nI hp) (mh_up (mh_up h o (.inr (8, [.ref pu, .ref kv, .int (nI (tot + t * cs.getD i 0))]))) kv (.inl (1, 20001, .inr (.inl f)))) = _) ∨ ∃ r, _ ∧ f_X8_allowAll_b6 (n + 1) o (nI (cs.getD i 0)) (lN (mh_WH - 21 ^ i)) (nI (ns.getD i 0 - t)) (nI hp) (mh_up (mh_up h o (.inr (8, [.ref pu, .ref kv, .int (nI (tot + t * cs.getD i 0))]))) kv (.inl (1, 20001, .inr (.inl f)))) = _
      by_cases hz : t = ns.getD i 0
      · right
        subst hz
        refine ⟨f, fun s hs => mh_Tk_iff (q4 s hs) (fun K => mh_Pq_end hi hl hb), ?_⟩
        rw [f_X8_allowAll_b6, Nat.sub_self, if_pos (show nI 0 ≤ 0 by decide)]
        rfl
      · left
        have hhp := q2.resolve_left hz
        have wo : (mh_up (mh_up h o (.inr (8, [.ref pu, .ref kv, .int (nI (tot + t * cs.getD i 0))]))) kv (.inl (1, 20001, .inr (.inl f)))) o = some (.inr (8, [.ref pu, .ref kv, .int (nI (tot + t * cs.getD i 0))])) := by rw [mh_up_ne n1]; exact mh_up_eq _ _ _
        obtain ⟨p, hpp⟩ : ∃ p, p = min hp (ns.getD i 0 - t) := ⟨_, rfl⟩
        have hp1 : 1 ≤ p := by omega
        have hp2 : p ≤ t + 1 := by omega
        have hp3 : t + p ≤ ns.getD i 0 := by omega
        have em : (if nI (ns.getD i 0 - t) < nI hp then nI (ns.getD i 0 - t) else nI hp) = nI p := by
          by_cases hq : ns.getD i 0 - t < hp
          · rw [if_pos ((nI_ltI (by omega) (by omega)).mpr hq), show p = ns.getD i 0 - t by omega]
          · rw [if_neg (fun q => hq ((nI_ltI (by omega) (by omega)).mp q)), show p = hp by omega]
        have m1 := Nat.mul_le_mul_right (cs.getD i 0) hp3
        rw [Nat.add_mul] at m1
        have m2 := Nat.mul_le_mul hp1 hci.1
        obtain ⟨f', r1, r2⟩ := mh_fx8_allow (P := mh_Pq cs ns i t) (sum := p * cs.getD i 0) (key := p * (mh_WH - 21 ^ i)) wo (mh_up_eq _ _ _) q4 (fun s K ⟨k, s', K', a1, a2, a3, a4⟩ => by
          have := ht s' K' a2
          have := Nat.mul_le_mul_right (cs.getD i 0) a1
          omega) (by omega) (by omega) (fun s K hK => by
          have a := mh_Pq_b hb (show i ≤ 12 by omega) (show t ≤ 20 by omega) hK
          have b := Nat.mul_le_mul (show p ≤ 20 by omega) (Nat.sub_le mh_WH (21 ^ i))
          omega)
        have e8 : mh_up (mh_up (mh_up (mh_up h o (.inr (8, [.ref pu, .ref kv, .int (nI (tot + t * cs.getD i 0))]))) kv (.inl (1, 20001, .inr (.inl f)))) o (.inr (8, [.ref pu, .ref kv, .int (nI (tot + t * cs.getD i 0 + p * cs.getD i 0))]))) kv (.inl (1, 20001, .inr (.inl f'))) = mh_up (mh_up h o (.inr (8, [.ref pu, .ref kv, .int (nI (tot + (t + p) * cs.getD i 0))]))) kv (.inl (1, 20001, .inr (.inl f'))) := by
          rw [Nat.add_mul, ← Nat.add_assoc]
          funext b
          unfold mh_up
          by_cases hb1 : b = kv
          · rw [if_pos hb1, if_pos hb1]
          · by_cases hb2 : b = o
            · rw [if_neg hb1, if_pos hb2, if_neg hb1, if_pos hb2]
            · rw [if_neg hb1, if_neg hb2, if_neg hb1, if_neg hb2, if_neg hb1, if_neg hb2]
        rw [e8] at r1
        have c1 : ¬ nI (ns.getD i 0 - t) ≤ 0 := nI_nle (by omega) (by omega)
        have c2 : ¬ (20 : Int32) < nI hp := fun q => absurd ((mh_ltl (a := 20) 20 rfl (by omega) (by omega)).mp q) (by omega)
        refine ⟨(t + p, hp * 2, f'), ⟨hp3, ?_, by show hp * 2 ≤ 100; omega, fun s hs => mh_Tk_iff (r2 s hs) (fun K => mh_Pq_s (by omega) hp2)⟩, by show ns.getD i 0 - (t + p) < ns.getD i 0 - t; omega, ?_⟩
        · show t + p = ns.getD i 0 ∨ hp * 2 = t + p + 1
          omega
        · have e9 : nI hp * (2 : Int32) = nI (hp * 2) := mh_nI_mul hp 2
          rw [f_X8_allowAll_b6, if_neg c1, if_neg c2, mh_nm_eq, em, mh_nI_mul, nI_l (by omega), lN_mul, mh_cal_eq wo, r1, Option.bind_some, mh_nm_eq, mh_nm_eq, pk_sub (by omega), e9, show ns.getD i 0 - t - p = ns.getD i 0 - (t + p) by omega])
    20 mh_fu (0, 1, f0) (by show ns.getD i 0 - 0 ≤ 20; omega) ⟨Nat.zero_le _, Or.inr rfl, by show 1 ≤ 100; omega, fun s hs => mh_Tk_iff (hT s hs) (fun K => mh_Pq_0.symm)⟩ (mh_fuel _ (by omega))
  obtain ⟨f', z1, z2⟩ := key
  refine ⟨f', ?_, z1⟩
  have z2 : f_X8_allowAll_b6 mh_fu o (nI (cs.getD i 0)) (lN (mh_WH - 21 ^ i)) (nI (ns.getD i 0 - 0)) (nI 1) (mh_up (mh_up h o (.inr (8, [.ref pu, .ref kv, .int (nI (tot + 0 * cs.getD i 0))]))) kv (.inl (1, 20001, .inr (.inl f0)))) = _ := z2
  rw [Nat.zero_mul, Nat.add_zero, Nat.sub_zero, mh_up_id ho, mh_up_id hk] at z2
  exact z2
theorem mh_lp_fillJ {a : Nat} (x : Int64) {N : Nat} (hN : N < 2 ^ 31) {f : Nat → Int64} (ha : h a = some (.inl (1, N, .inr (.inl f)))) : ∃ f', f_J7_fill_d0a16_e a x h = some (mh_up h a (.inl (1, N, .inr (.inl f')))) ∧ ∀ j, j < N → f' j = x := by
  have key := mh_wh (fun n (q : Nat × (Nat → Int64)) => f_J7_fill_d0a16_b6 n a x (nI q.1) (nI N) (mh_up h a (.inl (1, N, .inr (.inl q.2))))) (fun (f : Nat → Int64) => some (mh_up h a (.inl (1, N, .inr (.inl f)))))
    (fun q => q.1 ≤ N ∧ ∀ j, j < q.1 → q.2 j = x) (fun q => N - q.1) (fun f => ∀ j, j < N → f j = x)
    (fun n q hq => by
      obtain ⟨i, f⟩ := q
      obtain ⟨q1, q2⟩ := hq
      have q1 : i ≤ N := q1
      have q2 : ∀ j, j < i → f j = x := q2
      show (∃ s', _ ∧ _ ∧ f_J7_fill_d0a16_b6 (n + 1) a x (nI i) (nI N) (mh_up h a (.inl (1, N, .inr (.inl f)))) = _) ∨ ∃ r, _ ∧ f_J7_fill_d0a16_b6 (n + 1) a x (nI i) (nI N) (mh_up h a (.inl (1, N, .inr (.inl f)))) = _
      by_cases hi : i < N
      · left
        refine ⟨(i + 1, vp_updL f i x), ⟨hi, fun j hj => ?_⟩, by show N - (i + 1) < N - i; omega, ?_⟩
        · have hj : j < i + 1 := hj
          show vp_updL f i x j = x
          by_cases hji : j = i
          · rw [hji, pk_uLs]
          · rw [pk_uLn hji]; exact q2 j (by omega)
        · rw [f_J7_fill_d0a16_b6, if_neg (fun q => absurd ((nI_leI (by omega) (by omega)).mp q) (by omega)), mh_sJ_eq (mh_up_eq _ _ _) hi hN, Option.bind_some, mh_nm_eq, mh_inc, mh_up_up]
      · right
        refine ⟨f, fun j hj => q2 j (by omega), ?_⟩
        rw [f_J7_fill_d0a16_b6, if_pos ((nI_leI (by omega) (by omega)).mpr (by omega))]
        rfl)
    N mh_fu (0, f) (by show N - 0 ≤ N; omega) ⟨Nat.zero_le _, fun j hj => absurd hj (Nat.not_lt_zero j)⟩ (mh_fuel _ (by omega))
  obtain ⟨f', z1, z2⟩ := key
  have z2 : f_J7_fill_d0a16_b6 mh_fu a x (nI 0) (nI N) (mh_up h a (.inl (1, N, .inr (.inl f)))) = _ := z2
  rw [mh_up_id ha, nI_0] at z2
  refine ⟨f', ?_, z1⟩
  unfold f_J7_fill_d0a16_e
  rw [mh_nm_eq, mh_aL_eq ha, Option.bind_some]
  exact z2
end MhPT2
