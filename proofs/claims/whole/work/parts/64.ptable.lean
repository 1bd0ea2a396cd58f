/-! PurseTable: keys[s] is the least key of s -/
def mh_Tk (P : Nat → Nat → Prop) (s : Nat) (x : Int64) : Prop := ((∀ K, ¬ P s K) ∧ x = lN mh_UNP) ∨ ∃ K, P s K ∧ (∀ K', P s K' → K ≤ K') ∧ x = lN K ∧ K < 2 ^ 62
def mh_Pn (P : Nat → Nat → Prop) (sum key s K : Nat) : Prop := P s K ∨ (sum ≤ s ∧ ∃ K0, P (s - sum) K0 ∧ K = K0 + key)
theorem mh_lunp : (9223372036854775807 : Int64) = lN mh_UNP := rfl
section MhPT
variable {h : mh_H} {o pu kv : Nat}
theorem mh_fx8_allow {P : Nat → Nat → Prop} {f0 : Nat → Int64} {tot sum key : Nat} (ho : h o = some (.inr (8, [.ref pu, .ref kv, .int (nI tot)]))) (hk : h kv = some (.inl (1, 20001, .inr (.inl f0)))) (hT : ∀ s, s < 20001 → mh_Tk P s (f0 s)) (ht : ∀ s K, P s K → s ≤ tot) (h1 : 1 ≤ sum) (h2 : tot + sum ≤ 20000) (hb : ∀ s K, P s K → K + key < 2 ^ 62) :
    ∃ f', f_X8_allow_e o (nI sum) (lN key) h = some (mh_up (mh_up h o (.inr (8, [.ref pu, .ref kv, .int (nI (tot + sum))]))) kv (.inl (1, 20001, .inr (.inl f')))) ∧ ∀ s, s < 20001 → mh_Tk (mh_Pn P sum key) s (f' s) := by
  have n1 : o ≠ kv := mh_apt ho hk (fun q => by cases q)
  have hU : mh_UNP = 9223372036854775807 := rfl
  have key' := mh_wh (fun n (q : Nat × (Nat → Int64)) => f_X8_allow_b33 n o (nI sum) (lN key) (nI q.1) (mh_up (mh_up h o (.inr (8, [.ref pu, .ref kv, .int (nI (tot + sum))]))) kv (.inl (1, 20001, .inr (.inl q.2)))))
    (fun (f : Nat → Int64) => some (mh_up (mh_up h o (.inr (8, [.ref pu, .ref kv, .int (nI (tot + sum))]))) kv (.inl (1, 20001, .inr (.inl f)))))
    (fun q => sum ≤ q.1 + 1 ∧ q.1 ≤ tot + sum ∧ (∀ s, s ≤ q.1 → q.2 s = f0 s) ∧ ∀ s, q.1 < s → s < 20001 → mh_Tk (mh_Pn P sum key) s (q.2 s)) (fun q => q.1)
    (fun f => ∀ s, s < 20001 → mh_Tk (mh_Pn P sum key) s (f s))
    (fun n q hq => by
      obtain ⟨j, f⟩ := q
      obtain ⟨q1, q2, q3, q4⟩ := hq
      have q1 : sum ≤ j + 1 := q1
      have q2 : j ≤ tot + sum := q2
      have q3 : ∀ s, s ≤ j → f s = f0 s := q3
      have q4 : ∀ s, j < s → s < 20001 → mh_Tk (mh_Pn P sum key) s (f s) := q4
      show (∃ s', _ ∧ _ ∧ f_X8_allow_b33 (n + 1) o (nI sum) (lN key) (nI j) (mh_up (mh_up h o (.inr (8, [.ref pu, .ref kv, .int (nI (tot + sum))]))) kv (.inl (1, 20001, .inr (.inl f)))) = _) ∨ ∃ r, _ ∧ f_X8_allow_b33 (n + 1) o (nI sum) (lN key) (nI j) (mh_up (mh_up h o (.inr (8, [.ref pu, .ref kv, .int (nI (tot + sum))]))) kv (.inl (1, 20001, .inr (.inl f)))) = _
      have wo : (mh_up (mh_up h o (.inr (8, [.ref pu, .ref kv, .int (nI (tot + sum))]))) kv (.inl (1, 20001, .inr (.inl f)))) o = some (.inr (8, [.ref pu, .ref kv, .int (nI (tot + sum))])) := by rw [mh_up_ne n1]; exact mh_up_eq _ _ _
      by_cases hc : j < sum
      · right
        refine ⟨f, fun s hs => ?_, ?_⟩
        · by_cases hsj : j < s
          · exact q4 s hsj hs
          · rw [q3 s (by omega)]
            rcases hT s hs with ⟨a1, a2⟩ | ⟨K, a1, a2, a3, a4⟩
            · exact Or.inl ⟨fun K q => q.elim (a1 K) (fun q => absurd q.1 (by omega)), a2⟩
            · exact Or.inr ⟨K, Or.inl a1, fun K' q => q.elim (a2 K') (fun q => absurd q.1 (by omega)), a3, a4⟩
        · rw [f_X8_allow_b33, if_pos ((nI_ltI (by omega) (by omega)).mpr hc)]
          rfl
      · left
        have c1 : ¬ nI j < nI sum := fun q => hc ((nI_ltI (by omega) (by omega)).mp q)
        have g1 : mh_gR (mh_up (mh_up h o (.inr (8, [.ref pu, .ref kv, .int (nI (tot + sum))]))) kv (.inl (1, 20001, .inr (.inl f)))) o 8 1 = some kv := mh_gR_eq wo rfl
        have rd : mh_aJ (mh_up (mh_up h o (.inr (8, [.ref pu, .ref kv, .int (nI (tot + sum))]))) kv (.inl (1, 20001, .inr (.inl f)))) kv (nI j - nI sum) = some (f0 (j - sum)) := by rw [pk_sub (by omega), mh_aJ_eq (mh_up_eq _ _ _) (by omega) (by omega), q3 _ (by omega)]
        have rd2 : mh_aJ (mh_up (mh_up h o (.inr (8, [.ref pu, .ref kv, .int (nI (tot + sum))]))) kv (.inl (1, 20001, .inr (.inl f)))) kv (nI j) = some (f0 j) := by rw [mh_aJ_eq (mh_up_eq _ _ _) (by omega) (by omega), q3 _ (Nat.le_refl _)]
        have dn : nI j + Int32.ofInt (-1) = nI (j - 1) := by
          rw [show j = (j - 1) + 1 by omega, mh_dec]
          rfl
        -- nothing changes at j
        have stay : mh_Tk (mh_Pn P sum key) j (f0 j) → f_X8_allow_b33 (n + 1) o (nI sum) (lN key) (nI j) (mh_up (mh_up h o (.inr (8, [.ref pu, .ref kv, .int (nI (tot + sum))]))) kv (.inl (1, 20001, .inr (.inl f)))) = f_X8_allow_b85 (f_X8_allow_b33 n) o (nI sum) (lN key) (nI j) (mh_up (mh_up h o (.inr (8, [.ref pu, .ref kv, .int (nI (tot + sum))]))) kv (.inl (1, 20001, .inr (.inl f)))) → ∃ s' : Nat × (Nat → Int64), (sum ≤ s'.1 + 1 ∧ s'.1 ≤ tot + sum ∧ (∀ s, s ≤ s'.1 → s'.2 s = f0 s) ∧ ∀ s, s'.1 < s → s < 20001 → mh_Tk (mh_Pn P sum key) s (s'.2 s)) ∧ s'.1 < j ∧ f_X8_allow_b33 (n + 1) o (nI sum) (lN key) (nI j) (mh_up (mh_up h o (.inr (8, [.ref pu, .ref kv, .int (nI (tot + sum))]))) kv (.inl (1, 20001, .inr (.inl f)))) = f_X8_allow_b33 n o (nI sum) (lN key) (nI s'.1) (mh_up (mh_up h o (.inr (8, [.ref pu, .ref kv, .int (nI (tot + sum))]))) kv (.inl (1, 20001, .inr (.inl s'.2)))) := fun t1 t2 => by
          refine ⟨(j - 1, f), ⟨by show sum ≤ j - 1 + 1; omega, by show j - 1 ≤ tot + sum; omega, fun s hs => q3 s (by have hs : s ≤ j - 1 := hs; omega), fun s s1 s2 => ?_⟩, by show j - 1 < j; omega, ?_⟩
          · have s1 : j - 1 < s := s1
            by_cases hsj : s = j
            · rw [hsj]; show mh_Tk (mh_Pn P sum key) j (f j); rw [q3 j (Nat.le_refl _)]; exact t1
            · exact q4 s (by omega) s2
          · rw [t2]
            unfold f_X8_allow_b85
            rw [mh_nm_eq, dn]
        rcases hT (j - sum) (by omega) with ⟨a1, a2⟩ | ⟨K0, a1, a2, a3, a4⟩
        · refine stay ?_ ?_
          · rcases hT j (by omega) with ⟨b1, b2⟩ | ⟨K, b1, b2, b3, b4⟩
            · exact Or.inl ⟨fun K q => q.elim (b1 K) (fun ⟨_, K0, q, _⟩ => a1 K0 q), b2⟩
            · exact Or.inr ⟨K, Or.inl b1, fun K' q => q.elim (b2 K') (fun ⟨_, K0, q, _⟩ => absurd q (a1 K0)), b3, b4⟩
          · rw [f_X8_allow_b33, if_neg c1, g1, Option.bind_some, rd, Option.bind_some, a2, mh_lunp, if_pos ((mh_cmp0 _ _).mpr rfl)]
        · have hbk := hb _ K0 a1
          have c2 : ¬ lg_cmp (lN K0) (9223372036854775807 : Int64) = 0 := by
            rw [mh_lunp]
            exact fun q => absurd ((mh_ceqN (by omega) (by omega)).mp q) (by omega)
          have pre : f_X8_allow_b33 (n + 1) o (nI sum) (lN key) (nI j) (mh_up (mh_up h o (.inr (8, [.ref pu, .ref kv, .int (nI (tot + sum))]))) kv (.inl (1, 20001, .inr (.inl f)))) = if 0 ≤ lg_cmp (lN (K0 + key)) (f0 j) then f_X8_allow_b85 (f_X8_allow_b33 n) o (nI sum) (lN key) (nI j) (mh_up (mh_up h o (.inr (8, [.ref pu, .ref kv, .int (nI (tot + sum))]))) kv (.inl (1, 20001, .inr (.inl f)))) else f_X8_allow_b85 (f_X8_allow_b33 n) o (nI sum) (lN key) (nI j) (mh_up (mh_up h o (.inr (8, [.ref pu, .ref kv, .int (nI (tot + sum))]))) kv (.inl (1, 20001, .inr (.inl (vp_updL f j (lN (K0 + key))))))) := by
            rw [f_X8_allow_b33, if_neg c1, g1, Option.bind_some, rd, Option.bind_some, a3, if_neg c2, Option.bind_some, rd2, Option.bind_some, lN_add, Option.bind_some, mh_sJ_eq (mh_up_eq _ _ _) (by omega) (by omega), Option.bind_some, mh_up_up]
          have newIn : mh_Pn P sum key j (K0 + key) := Or.inr ⟨by omega, K0, a1, rfl⟩
          have upd' : (∀ K', mh_Pn P sum key j K' → K0 + key ≤ K') → ¬ 0 ≤ lg_cmp (lN (K0 + key)) (f0 j) → ∃ s' : Nat × (Nat → Int64), (sum ≤ s'.1 + 1 ∧ s'.1 ≤ tot + sum ∧ (∀ s, s ≤ s'.1 → s'.2 s = f0 s) ∧ ∀ s, s'.1 < s → s < 20001 → mh_Tk (mh_Pn P sum key) s (s'.2 s)) ∧ s'.1 < j ∧ f_X8_allow_b33 (n + 1) o (nI sum) (lN key) (nI j) (mh_up (mh_up h o (.inr (8, [.ref pu, .ref kv, .int (nI (tot + sum))]))) kv (.inl (1, 20001, .inr (.inl f)))) = f_X8_allow_b33 n o (nI sum) (lN key) (nI s'.1) (mh_up (mh_up h o (.inr (8, [.ref pu, .ref kv, .int (nI (tot + sum))]))) kv (.inl (1, 20001, .inr (.inl s'.2)))) := fun t1 t2 => by
            refine ⟨(j - 1, vp_updL f j (lN (K0 + key))), ⟨by show sum ≤ j - 1 + 1; omega, by show j - 1 ≤ tot + sum; omega, fun s hs => ?_, fun s s1 s2 => ?_⟩, by show j - 1 < j; omega, ?_⟩
            · have hs : s ≤ j - 1 := hs
              show vp_updL f j (lN (K0 + key)) s = f0 s
              rw [pk_uLn (by omega)]; exact q3 s (by omega)
            · have s1 : j - 1 < s := s1
              show mh_Tk (mh_Pn P sum key) s (vp_updL f j (lN (K0 + key)) s)
              by_cases hsj : s = j
              · rw [hsj, pk_uLs]; exact Or.inr ⟨K0 + key, newIn, t1, rfl, hbk⟩
              · rw [pk_uLn hsj]; exact q4 s (by omega) s2
            · rw [pre, if_neg t2]
              unfold f_X8_allow_b85
              rw [mh_nm_eq, dn]
          rcases hT j (by omega) with ⟨b1, b2⟩ | ⟨K, b1, b2, b3, b4⟩
          · refine upd' (fun K' q => q.elim (fun q => absurd q (b1 K')) (fun ⟨_, K1, q, e⟩ => by have := a2 K1 q; omega)) ?_
            rw [b2]
            exact fun q => absurd ((mh_cgeN (by omega) (by omega)).mp q) (by omega)
          · by_cases hlt : K0 + key < K
            · refine upd' (fun K' q => q.elim (fun q => by have := b2 K' q; omega) (fun ⟨_, K1, q, e⟩ => by have := a2 K1 q; omega)) ?_
              rw [b3]
              exact fun q => absurd ((mh_cgeN (by omega) (by omega)).mp q) (by omega)
            · refine stay (Or.inr ⟨K, Or.inl b1, fun K' q => q.elim (b2 K') (fun ⟨_, K1, q, e⟩ => by have := a2 K1 q; omega), b3, b4⟩) ?_
              rw [pre, b3, if_pos ((mh_cgeN (by omega) (by omega)).mpr (by omega))])
    (tot + sum) mh_fu (tot + sum, f0) (Nat.le_refl _) ⟨by show sum ≤ tot + sum + 1; omega, Nat.le_refl _, fun s _ => rfl, fun s s1 s2 => ?_⟩ (mh_fuel _ (by omega))
  · obtain ⟨f', z1, z2⟩ := key'
    have z2 : f_X8_allow_b33 mh_fu o (nI sum) (lN key) (nI (tot + sum)) (mh_up (mh_up h o (.inr (8, [.ref pu, .ref kv, .int (nI (tot + sum))]))) kv (.inl (1, 20001, .inr (.inl f0)))) = _ := z2
    have hk' : (mh_up h o (.inr (8, [.ref pu, .ref kv, .int (nI (tot + sum))]))) kv = some (.inl (1, 20001, .inr (.inl f0))) := by rw [mh_up_ne n1.symm]; exact hk
    rw [mh_up_id hk'] at z2
    refine ⟨f', ?_, z1⟩
    unfold f_X8_allow_e
    rw [if_neg (nI_pos (by omega)), mh_gI_eq (k := 2) ho rfl, Option.bind_some, nI_add, if_pos ((mh_ler (b := 20000) 20000 rfl (by omega) (by omega)).mpr h2), Option.bind_some, nI_add, mh_pI_s [.ref pu, .ref kv, .int (nI (tot + sum))] ho ⟨Nat.le_of_ble_eq_true rfl, rfl⟩, Option.bind_some, mh_gI_eq (k := 2) (mh_up_eq _ _ _) rfl, Option.bind_some]
    exact z2
  · have s1 : tot + sum < s := s1
    rcases hT s s2 with ⟨b1, b2⟩ | ⟨K, b1, b2, b3, b4⟩
    · exact Or.inl ⟨fun K q => q.elim (b1 K) (fun ⟨_, K0, q, _⟩ => by have := ht _ K0 q; omega), b2⟩
    · have := ht s K b1; omega
end MhPT
