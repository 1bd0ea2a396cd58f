/-! a spec allows one answer and one state -/
theorem mh_Scoin_u {σ σ1 σ2 : mh_Sg} {x1 x2 r r' : Int32} (h : mh_Scoin σ x1 x2 r σ1) (k : mh_Scoin σ x1 x2 r' σ2) : r = r' ∧ σ1 = σ2 := by
  rcases h with ⟨p, v, a, b, c⟩ | ⟨a, b, c⟩ <;> rcases k with ⟨p', v', a', b', c'⟩ | ⟨a', b', c'⟩
  · have e1 := mh_nIe (by have := a.1; omega) (by have := a'.1; omega) a.2.1 a'.2.1
    have e2 := mh_nIe (by have := a.2.2.2.1; omega) (by have := a'.2.2.2.1; omega) a.2.2.2.2.1 a'.2.2.2.2.1
    subst e1 e2
    rw [b, c, b', c']
    exact ⟨rfl, rfl⟩
  · exact absurd a (a' p v)
  · exact absurd a' (a p' v')
  · rw [b, c, b', c']
    exact ⟨rfl, rfl⟩
theorem mh_ms_inj {cs : List Nat} (hm : mh_ms cs) {i j : Nat} (hi : i < cs.length) (hj : j < cs.length) (e : cs.getD i 0 = cs.getD j 0) : i = j := by
  rw [← mh_pf_get hm hi, e, mh_pf_get hm hj]
theorem mh_Smelt_u {σ σ1 σ2 : mh_Sg} {x1 x2 r r' : Int32} (hG : mh_Gd σ) (h : mh_Smelt σ x1 x2 r σ1) (k : mh_Smelt σ x1 x2 r' σ2) : r = r' ∧ σ1 = σ2 := by
  rcases h with ⟨p, v, a1, a2, a3, a4, b, c⟩ | ⟨a, b, c⟩ <;> rcases k with ⟨p', v', a1', a2', a3', a4', b', c'⟩ | ⟨a', b', c'⟩
  · have e1 := mh_nIe (by omega) (by omega) a2 a2'
    subst e1
    have hm : mh_ms (σ.2.1.1 (σ.1.1 * 8 + p)) := (hG.1 p a1).1
    have e2 := mh_nIe (by have := hm.1.le v; omega) (by have := hm.1.le v'; omega) a4 a4'
    have e3 := mh_ms_inj hm a3 a3' e2
    subst e3
    rw [b, c, b', c']
    exact ⟨rfl, rfl⟩
  · exact absurd a4 (a' p v a1 a2 a3)
  · exact absurd a4' (a p' v' a1' a2' a3')
  · rw [b, c, b', c']
    exact ⟨rfl, rfl⟩
theorem mh_Sbec_u {σ σ1 σ2 : mh_Sg} {p : Nat} {ok : Prop} {m : List Nat} {r r' : Nat ⊕ Int32} (h : mh_Sbec σ p ok m r σ1) (k : mh_Sbec σ p ok m r' σ2) : r = r' ∧ σ1 = σ2 := by
  rcases h with ⟨a, b, c⟩ | ⟨a, b, c⟩ <;> rcases k with ⟨a', b', c'⟩ | ⟨a', b', c'⟩
  · rw [b, c, b', c']
    exact ⟨rfl, rfl⟩
  · exact absurd a a'
  · exact absurd a' a
  · rw [b, c, b', c']
    exact ⟨rfl, rfl⟩
theorem mh_Sjoin_u {σ σ1 σ2 : mh_Sg} {x1 x2 x3 : Int32} {r r' : Nat ⊕ Int32} (h : mh_Sjoin σ x1 x2 x3 r σ1) (k : mh_Sjoin σ x1 x2 x3 r' σ2) : r = r' ∧ σ1 = σ2 := by
  rcases h with ⟨a, b, p, a1, a2, a3, a4, a5, a6, h⟩ | ⟨h, h2, h3⟩ <;> rcases k with ⟨a', b', p', a1', a2', a3', a4', a5', a6', k⟩ | ⟨k, k2, k3⟩
  · have e1 := mh_nIe (by omega) (by omega) a4 a4'
    have e2 := mh_nIe (by omega) (by omega) a5 a5'
    have e3 := mh_nIe (by omega) (by omega) a6 a6'
    subst e1 e2 e3
    exact mh_Sbec_u h k
  · exact absurd ⟨a4, a5, a6⟩ (k a b p a1 a2 a3)
  · exact absurd ⟨a4', a5', a6'⟩ (h a' b' p' a1' a2' a3')
  · rw [h2, h3, k2, k3]
    exact ⟨rfl, rfl⟩
theorem mh_Spart_u {σ σ1 σ2 : mh_Sg} {x1 x2 x3 : Int32} {r r' : Nat ⊕ Int32} (h : mh_Spart σ x1 x2 x3 r σ1) (k : mh_Spart σ x1 x2 x3 r' σ2) : r = r' ∧ σ1 = σ2 := by
  rcases h with ⟨a, b, p, a1, a2, a3, a4, a5, a6, h⟩ | ⟨h, h2, h3⟩ <;> rcases k with ⟨a', b', p', a1', a2', a3', a4', a5', a6', k⟩ | ⟨k, k2, k3⟩
  · have e1 := mh_nIe (by omega) (by omega) a4 a4'
    have e2 := mh_nIe (by omega) (by omega) a5 a5'
    have e3 := mh_nIe (by omega) (by omega) a6 a6'
    subst e1 e2 e3
    exact mh_Sbec_u h k
  · exact absurd ⟨a4, a5, a6⟩ (k a b p a1 a2 a3)
  · exact absurd ⟨a4', a5', a6'⟩ (h a' b' p' a1' a2' a3')
  · rw [h2, h3, k2, k3]
    exact ⟨rfl, rfl⟩
theorem mh_Sfac_u {σ σ1 σ2 : mh_Sg} {x1 x2 x3 : Int32} {r r' : Nat ⊕ Int32} (h : mh_Sfac σ x1 x2 x3 r σ1) (k : mh_Sfac σ x1 x2 x3 r' σ2) : r = r' ∧ σ1 = σ2 := by
  rcases h with ⟨a, p, a1, a3, a4, a6, h⟩ | ⟨h, h2, h3⟩ <;> rcases k with ⟨a', p', a1', a3', a4', a6', k⟩ | ⟨k, k2, k3⟩
  · have e1 := mh_nIe (by omega) (by omega) a4 a4'
    have e3 := mh_nIe (by omega) (by omega) a6 a6'
    subst e1 e3
    rcases h with ⟨d, d1, d2, d3, h⟩ | ⟨h, h2, h3⟩ <;> rcases k with ⟨d', d1', d2', d3', k⟩ | ⟨k, k2, k3⟩
    · have e4 := mh_nIe (by omega) (by omega) d3 d3'
      subst e4
      exact mh_Sbec_u h k
    · exact absurd d3 (k d d1 d2)
    · exact absurd d3' (h d' d1' d2')
    · rw [h2, h3, k2, k3]
      exact ⟨rfl, rfl⟩
  · exact absurd ⟨a4, a6⟩ (k a p a1 a3)
  · exact absurd ⟨a4', a6'⟩ (h a' p' a1' a3')
  · rw [h2, h3, k2, k3]
    exact ⟨rfl, rfl⟩
theorem mh_Sof_u {σ σ1 σ2 : mh_Sg} {x1 x2 : Int32} {y : Int64} {r r' : Nat ⊕ Int32} (h : mh_Sof σ x1 x2 y r σ1) (k : mh_Sof σ x1 x2 y r' σ2) : r = r' ∧ σ1 = σ2 := by
  rcases h with ⟨h, h2, h3⟩ | ⟨p, a1, a2, h⟩ <;> rcases k with ⟨k, k2, k3⟩ | ⟨p', a1', a2', k⟩
  · rw [h2, h3, k2, k3]
    exact ⟨rfl, rfl⟩
  · exact absurd a2' (h p' a1')
  · exact absurd a2 (k p a1)
  · have e1 := mh_nIe (by omega) (by omega) a2 a2'
    subst e1
    rcases h with ⟨h, h2, h3⟩ | ⟨s, b1, b2, h⟩ <;> rcases k with ⟨k, k2, k3⟩ | ⟨s', b1', b2', k⟩
    · rw [h2, h3, k2, k3]
      exact ⟨rfl, rfl⟩
    · exact absurd b2' (h s' b1')
    · exact absurd b2 (k s b1)
    · have e2 := mh_nIe (by omega) (by omega) b2 b2'
      subst e2
      rcases h with ⟨t, h, h2, h3⟩ | ⟨h, h2, h3⟩ <;> rcases k with ⟨t', k, k2, k3⟩ | ⟨k, k2, k3⟩
      · have e3 := mh_lNe (by have := h.2; omega) (by have := k.2; omega) (h.1.symm.trans k.1)
        subst e3
        rw [h2, h3, k2, k3]
        exact ⟨rfl, rfl⟩
      · exact absurd h (k t)
      · exact absurd k (h t')
      · rw [h2, h3, k2, k3]
        exact ⟨rfl, rfl⟩
theorem mh_Bhand_u {hd : Option (List Nat × List Nat)} {x : Int32} {B C : List Nat → List Nat → Nat → Prop} {no no' X : Prop} (hl : ∀ c n, hd = some (c, n) → c.length ≤ 12) (hB : ∀ c n i, B c n i → C c n i → X) (hn : no → no' → X) (h : mh_Bhand hd x B no) (k : mh_Bhand hd x C no') : X := by
  rcases h with ⟨c, n, i, a1, a2, a3, a4⟩ | ⟨a1, a2⟩ <;> rcases k with ⟨c', n', i', b1, b2, b3, b4⟩ | ⟨b1, b2⟩
  · have e := b1
    rw [a1] at e
    injection e with e
    injection e with e1 e2
    subst e1 e2
    have := hl c n a1
    have e3 := mh_nIe (by omega) (by omega) a3 b3
    subst e3
    exact hB _ _ _ a4 b4
  · exact absurd a3 (b1 c n a1 i a2)
  · exact absurd b3 (a1 c' n' b1 i' b2)
  · exact hn a2 b2
theorem mh_Sput_u {σ σ1 σ2 : mh_Sg} {x1 x2 : Int32} {r r' : Nat ⊕ Int32} (hG : mh_Gd σ) (h : mh_Sput σ x1 x2 r σ1) (k : mh_Sput σ x1 x2 r' σ2) : r = r' ∧ σ1 = σ2 := by
  refine mh_Bhand_u hG.2 (fun c n i h k => ?_) (fun h k => ?_) h k
  · rcases h with ⟨t, t1, t2, h2, h3⟩ | ⟨h, h2, h3⟩ <;> rcases k with ⟨t', t1', t2', k2, k3⟩ | ⟨k, k2, k3⟩
    · have e := mh_nIe (by omega) (by omega) t2 t2'
      subst e
      rw [h2, h3, k2, k3]
      exact ⟨rfl, rfl⟩
    · exact absurd t2 (k t t1)
    · exact absurd t2' (h t' t1')
    · rw [h2, h3, k2, k3]
      exact ⟨rfl, rfl⟩
  · rw [h.1, h.2, k.1, k.2]
    exact ⟨rfl, rfl⟩
theorem mh_Sbest_u {σ σ1 σ2 : mh_Sg} {x1 x2 x3 : Int32} {r r' : Nat ⊕ Int32} (h : mh_Sbest σ x1 x2 x3 r σ1) (k : mh_Sbest σ x1 x2 x3 r' σ2) : r = r' ∧ σ1 = σ2 := by
  rcases h with ⟨h, h2, h3⟩ | ⟨p, a1, a2, h⟩ <;> rcases k with ⟨k, k2, k3⟩ | ⟨p', a1', a2', k⟩
  · rw [h2, h3, k2, k3]
    exact ⟨rfl, rfl⟩
  · exact absurd a2' (h p' a1')
  · exact absurd a2 (k p a1)
  · have e1 := mh_nIe (by omega) (by omega) a2 a2'
    subst e1
    rcases h with ⟨K, H, b1, b2, b3, b4, b5, b6, h⟩ | ⟨h, h2, h3⟩ <;> rcases k with ⟨K', H', b1', b2', b3', b4', b5', b6', k⟩ | ⟨k, k2, k3⟩
    · have e2 := mh_nIe (by omega) (by omega) b5 b5'
      have e3 := mh_nIe (by omega) (by omega) b6 b6'
      subst e2 e3
      rcases h with ⟨h, h2, h3⟩ | ⟨h, h2, h3⟩ <;> rcases k with ⟨k, k2, k3⟩ | ⟨k, k2, k3⟩
      · rw [h2, h3, k2, k3]
        exact ⟨rfl, rfl⟩
      · omega
      · omega
      · rw [h2, h3, k2, k3]
        exact ⟨rfl, rfl⟩
    · exact absurd ⟨b5, b6⟩ (k K H b1 b2 b3 b4)
    · exact absurd ⟨b5', b6'⟩ (h K' H' b1' b2' b3' b4')
    · rw [h2, h3, k2, k3]
      exact ⟨rfl, rfl⟩
theorem mh_Sopen_u {σ σ1 σ2 : mh_Sg} {x1 x2 : Int32} {r r' : Nat ⊕ Unit} (h : mh_Sopen σ x1 x2 r σ1) (k : mh_Sopen σ x1 x2 r' σ2) : r = r' ∧ σ1 = σ2 := by
  rcases h with ⟨a, b, a1, a2, a4, a5, h2, h3⟩ | ⟨h, h2, h3⟩ <;> rcases k with ⟨a', b', a1', a2', a4', a5', k2, k3⟩ | ⟨k, k2, k3⟩
  · have e1 := mh_nIe (by omega) (by omega) a4 a4'
    have e2 := mh_nIe (by omega) (by omega) a5 a5'
    subst e1 e2
    rw [h2, h3, k2, k3]
    exact ⟨rfl, rfl⟩
  · exact absurd ⟨a4, a5⟩ (k a b a1 a2)
  · exact absurd ⟨a4', a5'⟩ (h a' b' a1' a2')
  · rw [h2, h3, k2, k3]
    exact ⟨rfl, rfl⟩
theorem mh_Sfill_u {σ σ1 σ2 : mh_Sg} {x1 x2 x3 : Int32} {r r' : Nat ⊕ Int32} (hG : mh_Gd σ) (h : mh_Sfill σ x1 x2 x3 r σ1) (k : mh_Sfill σ x1 x2 x3 r' σ2) : r = r' ∧ σ1 = σ2 := by
  rcases h with ⟨p, a1, a2, h⟩ | ⟨h, h2, h3⟩ <;> rcases k with ⟨p', a1', a2', k⟩ | ⟨k, k2, k3⟩
  · have e1 := mh_nIe (by omega) (by omega) a2 a2'
    subst e1
    have hz := (hG.1 p a1).2
    rcases h with ⟨i, t, h, h2, h3⟩ | ⟨h, h2, h3⟩ <;> rcases k with ⟨i', t', k, k2, k3⟩ | ⟨k, k2, k3⟩
    · have e2 := mh_nIe (by have := hz.1.1.le i; omega) (by have := hz.1.1.le i'; omega) h.2.2.1 k.2.2.1
      have e3 := mh_ms_inj hz.1 h.1 k.1 e2
      have e4 := mh_nIe (by have := h.2.1; omega) (by have := k.2.1; omega) h.2.2.2.1 k.2.2.2.1
      subst e3 e4
      rw [h2, h3, k2, k3]
      exact ⟨rfl, rfl⟩
    · exact absurd h (k i t)
    · exact absurd k (h i' t')
    · rw [h2, h3, k2, k3]
      exact ⟨rfl, rfl⟩
  · exact absurd a2 (k p a1)
  · exact absurd a2' (h p' a1')
  · rw [h2, h3, k2, k3]
    exact ⟨rfl, rfl⟩
theorem mh_Bchg_u {σ : mh_Sg} {x1 x2 x3 : Int32} {Y Z : Nat → Nat → Nat → List Nat → List Nat → Prop} {no no' X : Prop} {bad bad' : Nat → Prop} (hG : mh_Gd σ) (hY : ∀ p q s ks ms, Y p q s ks ms → Z p q s ks ms → X) (hn : no → no' → X) (hb : ∀ e, bad e → bad' e → X) (h : mh_Bchg σ x1 x2 x3 Y no bad) (k : mh_Bchg σ x1 x2 x3 Z no' bad') : X := by
  rcases h with ⟨p, q, a1, a2, a3, a4, h⟩ | ⟨h, h2⟩ <;> rcases k with ⟨p', q', a1', a2', a3', a4', k⟩ | ⟨k, k2⟩
  · have e1 := mh_nIe (by omega) (by omega) a3 a3'
    have e2 := mh_nIe (by omega) (by omega) a4 a4'
    subst e1 e2
    have z1 := (hG.1 p a1).2
    have z2 := (hG.1 q a2).2
    rcases h with ⟨s, b1, b2, b3, h⟩ | ⟨h, h2⟩ <;> rcases k with ⟨s', b1', b2', b3', k⟩ | ⟨k, k2⟩
    · have e3 := mh_nIe b1 b1' b2 b2'
      subst e3
      rcases h with ⟨ks, ms, c1, c2⟩ | ⟨c1, c2⟩ <;> rcases k with ⟨ks', ms', d1, d2⟩ | ⟨d1, d2⟩
      · obtain ⟨e4, e5⟩ := mh_cg_u z1 z2 c1 d1
        subst e4 e5
        exact hY _ _ _ _ _ c2 d2
      · exact absurd c1.2.1 (d1 ks ms c1.1)
      · exact absurd d1.2.1 (c1 ks' ms' d1.1)
      · exact hn c2 d2
    · rcases k with k | k
      · exact absurd k b3
      · exact absurd b2 (k s b1)
    · rcases h with h | h
      · exact absurd h b3'
      · exact absurd b2' (h s' b1')
    · exact hb 2 h2 k2
  · exact absurd ⟨a3, a4⟩ (k p q a1 a2)
  · exact absurd ⟨a3', a4'⟩ (h p' q' a1' a2')
  · exact hb 1 h2 k2
theorem mh_Sdeal_u {σ σ1 σ2 : mh_Sg} {x1 x2 x3 : Int32} {r r' : Nat ⊕ Int32} (hG : mh_Gd σ) (h : mh_Sdeal σ x1 x2 x3 r σ1) (k : mh_Sdeal σ x1 x2 x3 r' σ2) : r = r' ∧ σ1 = σ2 := by
  refine mh_Bchg_u hG (fun p q s ks ms h k => ?_) (fun h k => ?_) (fun e h k => ?_) h k
  · rcases h with ⟨c1, n1, c2, n2, h, h2, h3⟩ | ⟨h, h2, h3⟩ <;> rcases k with ⟨d1, m1, d2, m2, k, k2, k3⟩ | ⟨k, k2, k3⟩
    · rw [h] at k
      injection k with k
      injection k with e1 e2
      injection e1 with e1 e3
      injection e2 with e2 e4
      subst e1 e2 e3 e4
      rw [h2, h3, k2, k3]
      exact ⟨rfl, rfl⟩
    · rw [h] at k; cases k
    · rw [h] at k; cases k
    · rw [h2, h3, k2, k3]
      exact ⟨rfl, rfl⟩
  · rw [h.1, h.2, k.1, k.2]
    exact ⟨rfl, rfl⟩
  · rw [h.1, h.2, k.1, k.2]
    exact ⟨rfl, rfl⟩
