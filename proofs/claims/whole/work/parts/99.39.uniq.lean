/-! a spec allows one answer -/
theorem mh_lNe {a b : Nat} (ha : a < 2 ^ 63) (hb : b < 2 ^ 63) (e : lN a = lN b) : a = b := by
  have := congrArg Int64.toInt e
  unfold lN at this
  rw [Int64.toInt_ofNat_of_lt ha, Int64.toInt_ofNat_of_lt hb] at this
  omega
theorem mh_nIe {a b : Nat} {x : Int32} (ha : a < 2 ^ 31) (hb : b < 2 ^ 31) (e : x = nI a) (k : x = nI b) : a = b := (nI_eq ha hb).mp (e.symm.trans k)
def mh_Gd (σ : mh_Sg) : Prop := (∀ p, p < 8 → mh_ms (mh_mi σ p) ∧ mh_pz (mh_pc σ p) (mh_pn σ p)) ∧ ∀ c n, σ.2.2.2 = some (c, n) → c.length ≤ 12
theorem mh_Qm_v {α : Type} {σ : mh_Sg} {x : Int32} {B : List Nat → Nat ⊕ α → Prop} {r r' : Nat ⊕ α} (hG : mh_Gd σ) (hB : ∀ cs r r', mh_ms cs → B cs r → B cs r' → r = r') (h : mh_Qm σ x B r) (k : mh_Qm σ x B r') : r = r' := by
  rcases h with ⟨h1, h2⟩ | ⟨p, h1, h2, h3⟩
  · rcases k with ⟨_, k2⟩ | ⟨q, k1, k2, _⟩
    · rw [h2, k2]
    · exact absurd k2 (h1 q k1)
  · rcases k with ⟨k1, _⟩ | ⟨q, k1, k2, k3⟩
    · exact absurd h2 (k1 p h1)
    · have e := mh_nIe (by omega) (by omega) h2 k2
      subst e
      exact hB _ _ _ (hG.1 p h1).1 h3 k3
theorem mh_Qp_v {α : Type} {σ : mh_Sg} {x : Int32} {B : List Nat → List Nat → Nat ⊕ α → Prop} {r r' : Nat ⊕ α} (hG : mh_Gd σ) (hB : ∀ c n r r', mh_pz c n → B c n r → B c n r' → r = r') (h : mh_Qp σ x B r) (k : mh_Qp σ x B r') : r = r' := by
  rcases h with ⟨h1, h2⟩ | ⟨p, h1, h2, h3⟩
  · rcases k with ⟨_, k2⟩ | ⟨q, k1, k2, _⟩
    · rw [h2, k2]
    · exact absurd k2 (h1 q k1)
  · rcases k with ⟨k1, _⟩ | ⟨q, k1, k2, k3⟩
    · exact absurd h2 (k1 p h1)
    · have e := mh_nIe (by omega) (by omega) h2 k2
      subst e
      exact hB _ _ _ _ (hG.1 p h1).2 h3 k3
theorem mh_Qm_c {α : Type} {σ : mh_Sg} {x : Int32} {B : List Nat → Nat ⊕ α → Prop} {P : Nat → Prop} {e : Nat} (h1 : P 1) (hB : ∀ cs e, B cs (.inl e) → P e) (h : mh_Qm σ x B (.inl e)) : P e := by
  rcases h with ⟨_, h2⟩ | ⟨p, _, _, h3⟩
  · injection h2 with h2; rw [h2]; exact h1
  · exact hB _ _ h3
theorem mh_Qp_c {α : Type} {σ : mh_Sg} {x : Int32} {B : List Nat → List Nat → Nat ⊕ α → Prop} {P : Nat → Prop} {e : Nat} (h1 : P 1) (hB : ∀ c n e, B c n (.inl e) → P e) (h : mh_Qp σ x B (.inl e)) : P e := by
  rcases h with ⟨_, h2⟩ | ⟨p, _, _, h3⟩
  · injection h2 with h2; rw [h2]; exact h1
  · exact hB _ _ _ h3
theorem mh_Bat_u {x : Int32} {cs : List Nat} {r r' : Nat ⊕ Int32} (hm : mh_ms cs) (h : mh_Bat x cs r) (k : mh_Bat x cs r') : r = r' := by
  have hl := hm.1.1
  rcases h with ⟨a, b⟩ | ⟨a, i, i1, i2, b⟩ | ⟨a, i1, b⟩ <;> rcases k with ⟨a', b'⟩ | ⟨a', j, j1, j2, b'⟩ | ⟨a', j1, b'⟩
  · rw [b, b']
  · exact absurd a a'
  · exact absurd a a'
  · exact absurd a' a
  · have := mh_nIe (by omega) (by omega) i2 j2
    subst this
    rw [b, b']
  · exact absurd i2 (j1 i i1)
  · exact absurd a' a
  · exact absurd j2 (i1 j j1)
  · rw [b, b']
theorem mh_Bfew_u {y : Int64} {cs : List Nat} {r r' : Nat ⊕ Int64} (h : mh_Bfew y cs r) (k : mh_Bfew y cs r') : r = r' := by
  rcases h with ⟨s, a, b, c⟩ | ⟨a, c⟩ <;> rcases k with ⟨s', a', b', c'⟩ | ⟨a', c'⟩
  · have := mh_lNe (by omega) (by omega) (b.symm.trans b')
    subst this
    rw [c, c']
  · exact absurd b (a' s a)
  · exact absurd b' (a s' a')
  · rw [c, c']
theorem mh_Bgy_u {y : Int64} {cs : List Nat} {r r' : Nat ⊕ Int64} (h : mh_Bgy y cs r) (k : mh_Bgy y cs r') : r = r' := by
  rcases h with ⟨s, a, b, c⟩ | ⟨a, c⟩ <;> rcases k with ⟨s', a', b', c'⟩ | ⟨a', c'⟩
  · have := mh_lNe (by omega) (by omega) (b.symm.trans b')
    subst this
    rw [c, c']
  · exact absurd b (a' s a)
  · exact absurd b' (a s' a')
  · rw [c, c']
theorem mh_Bwith_u {y : Int64} {x : Int32} {cs : List Nat} {r r' : Nat ⊕ Int64} (hm : mh_ms cs) (h : mh_Bwith y x cs r) (k : mh_Bwith y x cs r') : r = r' := by
  have hl := hm.1.1
  rcases h with ⟨a, b⟩ | ⟨i, i1, i2, h⟩ <;> rcases k with ⟨a', b'⟩ | ⟨j, j1, j2, k⟩
  · rw [b, b']
  · exact absurd j2 (a j j1)
  · exact absurd i2 (a' i i1)
  · have := mh_nIe (by omega) (by omega) i2 j2
    subst this
    rcases h with ⟨s, a, b, z, c, d⟩ | ⟨a, c⟩ <;> rcases k with ⟨s', a', b', z', c', d'⟩ | ⟨a', c'⟩
    · have := mh_lNe (by omega) (by omega) (b.symm.trans b')
      subst this
      rw [d, d', mh_wi_u c c']
    · exact absurd b (a' s a)
    · exact absurd b' (a s' a')
    · rw [c, c']
theorem mh_Bst_u {x : Int32} {cs : List Nat} {r r' : Nat ⊕ Int32} (h : mh_Bst x cs r) (k : mh_Bst x cs r') : r = r' := by
  rcases h with ⟨s, a1, a2, b, z, c, d⟩ | ⟨a, c⟩ <;> rcases k with ⟨s', a1', a2', b', z', c', d'⟩ | ⟨a', c'⟩
  · have := mh_nIe (by omega) (by omega) b b'
    subst this
    rw [d, d', mh_up2_unique c c']
  · exact absurd b (a' s a1 a2)
  · exact absurd b' (a s' a1' a2')
  · rw [c, c']
theorem mh_Bsp_u {x y : Int32} {cs : List Nat} {r r' : Nat ⊕ Int64} (h : mh_Bsp x y cs r) (k : mh_Bsp x y cs r') : r = r' := by
  rcases h with ⟨s, t, a1, a2, b, b2, z, c, d⟩ | ⟨a, c⟩ <;> rcases k with ⟨s', t', a1', a2', b', b2', z', c', d'⟩ | ⟨a', c'⟩
  · have e1 := mh_nIe (by omega) (by omega) b b'
    have e2 := mh_nIe (by omega) (by omega) b2 b2'
    subst e1 e2
    rw [d, d', mh_spn_u c c']
  · exact absurd ⟨b, b2⟩ (a' s t a1 a2)
  · exact absurd ⟨b', b2'⟩ (a s' t' a1' a2')
  · rw [c, c']
theorem mh_Bmany_u {cs : List Nat} {r r' : Nat ⊕ Int64} (h : mh_Bmany cs r) (k : mh_Bmany cs r') : r = r' := by
  rcases h with ⟨a, b⟩ | ⟨a, b⟩ <;> rcases k with ⟨a', b'⟩ | ⟨a', b'⟩
  · rw [b, b']
  · exact absurd a a'
  · exact absurd a' a
  · rw [b, b']
theorem mh_Blast_u {cs : List Nat} {z z' : Int32} (h : mh_Blast cs z) (k : mh_Blast cs z') : z = z' := by
  rcases h with ⟨a, b⟩ | ⟨a, b⟩ <;> rcases k with ⟨a', b'⟩ | ⟨a', b'⟩
  · exact mh_lg_u b b'
  · exact absurd a a'
  · exact absurd a' a
  · rw [b, b']
theorem mh_Bmir_u {cs : List Nat} {r r' : Nat ⊕ Int32} (h : mh_Bmir cs r) (k : mh_Bmir cs r') : r = r' := by
  rcases h with ⟨a, b⟩ | ⟨a, b⟩ <;> rcases k with ⟨a', b'⟩ | ⟨a', b'⟩
  · rw [b, b']
  · exact absurd a a'
  · exact absurd a' a
  · rw [b, b']
theorem mh_Brest_u {x : Int32} {cs : List Nat} {r r' : Nat ⊕ Int32} (hm : mh_ms cs) (h : mh_Brest x cs r) (k : mh_Brest x cs r') : r = r' := by
  have hl := hm.1.le 0
  rcases h with ⟨s, a, b, h⟩ | ⟨a, c⟩ <;> rcases k with ⟨s', a', b', k⟩ | ⟨a', c'⟩
  · have := mh_nIe (by omega) (by omega) b b'
    subst this
    rcases h with ⟨t, t1, t2, t3, t4, t5⟩ | ⟨t, t5⟩ <;> rcases k with ⟨u, u1, u2, u3, u4, u5⟩ | ⟨u, u5⟩
    · have e1 := t4 u u2 u3
      have e2 := u4 t t2 t3
      rw [t5, u5, Nat.le_antisymm e1 e2]
    · exact absurd t3 (u t t2)
    · exact absurd u3 (t u u2)
    · rw [t5, u5]
  · exact absurd b (a' s a)
  · exact absurd b' (a s' a')
  · rw [c, c']
theorem mh_cn_inj {P : Nat → Prop} {a b : Nat} (ha : P a) (hb : P b) (e : mh_cn P a = mh_cn P b) : a = b := by
  rcases Nat.lt_trichotomy a b with h | h | h
  · have := mh_cn_mono (P := P) h
    rw [Nat.succ_eq_add_one, mh_cn_y ha] at this
    omega
  · exact h
  · have := mh_cn_mono (P := P) h
    rw [Nat.succ_eq_add_one, mh_cn_y hb] at this
    omega
theorem mh_Bgap_u {x : Int32} {cs : List Nat} {r r' : Nat ⊕ Int32} (h : mh_Bgap x cs r) (k : mh_Bgap x cs r') : r = r' := by
  rcases h with ⟨s, a, b, h⟩ | ⟨a, c⟩ <;> rcases k with ⟨s', a', b', k⟩ | ⟨a', c'⟩
  · have := mh_nIe (by omega) (by omega) b b'
    subst this
    rcases h with ⟨t, t1, t2, t3, t5⟩ | ⟨t, t5⟩ <;> rcases k with ⟨u, u1, u2, u3, u5⟩ | ⟨u, u5⟩
    · rw [t5, u5, mh_cn_inj (P := fun s => ¬ mh_py cs s) t2 u2 (t3.trans u3.symm)]
    · exact absurd t3 (u t t2)
    · exact absurd u3 (t u u2)
    · rw [t5, u5]
  · exact absurd b (a' s a)
  · exact absurd b' (a s' a')
  · rw [c, c']
theorem mh_Ssame_u {σ : mh_Sg} {x1 x2 : Int32} {r r' : Nat ⊕ Int32} (h : mh_Ssame σ x1 x2 r) (k : mh_Ssame σ x1 x2 r') : r = r' := by
  rcases h with ⟨a, b, a1, b1, a2, b2, h⟩ | ⟨h, h2⟩ <;> rcases k with ⟨c, d, c1, d1, c2, d2, k⟩ | ⟨k, k2⟩
  · have e1 := mh_nIe (by omega) (by omega) a2 c2
    have e2 := mh_nIe (by omega) (by omega) b2 d2
    subst e1 e2
    rcases h with ⟨a, b⟩ | ⟨a, b⟩ <;> rcases k with ⟨a', b'⟩ | ⟨a', b'⟩
    · rw [b, b']
    · exact absurd a a'
    · exact absurd a' a
    · rw [b, b']
  · exact absurd ⟨a2, b2⟩ (k a b a1 b1)
  · exact absurd ⟨c2, d2⟩ (h c d c1 d1)
  · rw [h2, k2]
theorem mh_Bways_u {x : Int32} {cs : List Nat} {r r' : Nat ⊕ Int64} (h : mh_Bways x cs r) (k : mh_Bways x cs r') : r = r' := by
  rcases h with ⟨s, a, b, c⟩ | ⟨a, c⟩ <;> rcases k with ⟨s', a', b', c'⟩ | ⟨a', c'⟩
  · have := mh_nIe (by omega) (by omega) b b'
    subst this
    rw [c, c']
  · exact absurd b (a' s a)
  · exact absurd b' (a s' a')
  · rw [c, c']
theorem mh_Bap_u {x : Int32} {cs : List Nat} {r r' : Nat ⊕ Int32} (h : mh_Bap x cs r) (k : mh_Bap x cs r') : r = r' := by
  rcases h with ⟨s, a, b, h⟩ | ⟨a, c⟩ <;> rcases k with ⟨s', a', b', k⟩ | ⟨a', c'⟩
  · have := mh_nIe (by omega) (by omega) b b'
    subst this
    rcases h with ⟨t, t5⟩ | ⟨t, t2, t5⟩ | ⟨t, t5⟩ <;> rcases k with ⟨u, u5⟩ | ⟨u, u2, u5⟩ | ⟨u, u5⟩ <;> first | (rw [t5, u5]; done) | omega
  · exact absurd b (a' s a)
  · exact absurd b' (a s' a')
  · rw [c, c']
theorem mh_Srank_u {hd : Option (List Nat × List Nat)} {r r' : Nat ⊕ Int64} (h : mh_Srank hd r) (k : mh_Srank hd r') : r = r' := by
  rcases h with ⟨a, b⟩ | ⟨c, n, e, h⟩ <;> rcases k with ⟨a', b'⟩ | ⟨c', n', e', k⟩
  · rw [b, b']
  · rw [a] at e'; cases e'
  · rw [a'] at e; cases e
  · rw [e] at e'
    injection e' with e'
    injection e' with e1 e2
    subst e1 e2
    rcases h with ⟨t1, t2, t3⟩ | ⟨t1, t3⟩ <;> rcases k with ⟨u1, u2, u3⟩ | ⟨u1, u3⟩
    · rw [t3, u3]
    · exact absurd ⟨t1, t2⟩ u1
    · exact absurd ⟨u1, u2⟩ t1
    · rw [t3, u3]
theorem mh_Bpays_u {x : Int32} {c n : List Nat} {r r' : Nat ⊕ Int32} (hz : mh_pz c n) (h : mh_Bpays x c n r) (k : mh_Bpays x c n r') : r = r' := by
  rcases h with ⟨s, ks, a, b, d, e⟩ | ⟨a, e⟩ <;> rcases k with ⟨s', ks', a', b', d', e'⟩ | ⟨a', e'⟩
  · have := mh_nIe (by omega) (by omega) b b'
    subst this
    rw [e, e', mh_bv_u hz d d']
  · exact absurd d.1 (a' s ks a b)
  · exact absurd d'.1 (a s' ks' a' b')
  · rw [e, e']
theorem mh_nnI {i j : Nat} (hi : i < 2 ^ 31) (hj : j < 2 ^ 30) (e : nI i = -3 - nI j) : False := by
  have := congrArg Int32.toInt e
  rw [Int32.toInt_sub, nI_toInt hi, nI_toInt (by omega), show (-3 : Int32).toInt = -3 from rfl, Int.bmod_eq_of_le (by omega) (by omega)] at this
  omega
theorem mh_n3 {i j : Nat} (hi : i < 2 ^ 30) (hj : j < 2 ^ 30) (e : (-3 : Int32) - nI i = -3 - nI j) : i = j := by
  have := congrArg Int32.toInt e
  rw [Int32.toInt_sub, Int32.toInt_sub, nI_toInt (by omega), nI_toInt (by omega), show (-3 : Int32).toInt = -3 from rfl, Int.bmod_eq_of_le (by omega) (by omega), Int.bmod_eq_of_le (by omega) (by omega)] at this
  omega
theorem mh_n3c {j : Nat} (hj : j < 2 ^ 30) {c : Int32} (hc : -3 < c.toInt) (e : c = -3 - nI j) : False := by
  have := congrArg Int32.toInt e
  rw [Int32.toInt_sub, nI_toInt (by omega), show (-3 : Int32).toInt = -3 from rfl, Int.bmod_eq_of_le (by omega) (by omega)] at this
  omega
theorem mh_n2c {j : Nat} (hj : j < 2 ^ 31) {c : Int32} (hc : c.toInt < 0) (e : c = nI j) : False := by
  have := congrArg Int32.toInt e
  rw [nI_toInt hj] at this
  omega
theorem mh_Bhas_u {x : Int32} {c n : List Nat} {r r' : Nat ⊕ Int32} (hz : mh_pz c n) (h : mh_Bhas x c n r) (k : mh_Bhas x c n r') : r = r' := by
  have hl := hz.1.1.1
  have m1 : (-1 : Int32).toInt = -1 := rfl
  have m2 : (-2 : Int32).toInt = -2 := rfl
  rcases h with ⟨a, b⟩ | ⟨a, b⟩ | ⟨i, i1, i2, b⟩ | ⟨i, i1, i2, b⟩ | ⟨a1, a2, a3, b⟩ <;> rcases k with ⟨a', b'⟩ | ⟨a', b'⟩ | ⟨j, j1, j2, b'⟩ | ⟨j, j1, j2, b'⟩ | ⟨a1', a2', a3', b'⟩
  · rw [b, b']
  · rw [a] at a'; exact absurd a' (by decide)
  · exact (mh_n2c (by omega) (by omega) (a.symm.trans j2)).elim
  · exact (mh_n3c (by omega) (by omega) (a.symm.trans j2)).elim
  · exact absurd a a1'
  · rw [a] at a'; exact absurd a' (by decide)
  · rw [b, b']
  · exact (mh_n2c (by omega) (by omega) (a.symm.trans j2)).elim
  · exact (mh_n3c (by omega) (by omega) (a.symm.trans j2)).elim
  · exact absurd a a2'
  · exact (mh_n2c (by omega) (by omega) (a'.symm.trans i2)).elim
  · exact (mh_n2c (by omega) (by omega) (a'.symm.trans i2)).elim
  · have := mh_nIe (by omega) (by omega) i2 j2
    subst this
    rw [b, b']
  · exact (mh_nnI (by omega) (by omega) (i2.symm.trans j2)).elim
  · exact absurd i2 (a3' i i1).1
  · exact (mh_n3c (by omega) (by omega) (a'.symm.trans i2)).elim
  · exact (mh_n3c (by omega) (by omega) (a'.symm.trans i2)).elim
  · exact (mh_nnI (by omega) (by omega) (j2.symm.trans i2)).elim
  · have := mh_n3 (by omega) (by omega) (i2.symm.trans j2)
    subst this
    rw [b, b']
  · exact absurd i2 (a3' i i1).2
  · exact absurd a' a1
  · exact absurd a' a2
  · exact absurd j2 (a3 j j1).1
  · exact absurd j2 (a3 j j1).2
  · rw [b, b']
