/-! sums that the wheel tells just so -/
def mh_Lf (g : Nat) (w : Nat → Nat) (s : Nat) : Prop := w (s % g) ≠ mh_INF ∧ s = mh_fm g w (s % g)
section MhLf
variable {g : Nat} {D : List Nat} {w : Nat → Nat}
theorem mh_Lf_sum (hE : mh_Ex g D (mh_wf g) w) (hg : 0 < g) (hg2 : g ≤ 300) (hD : ∀ x, x ∈ D → 1 ≤ x ∧ x < g) {r : Nat} {l : List Nat} (h1 : ∀ x, x ∈ l → x ∈ D) (h2 : l.sum % g = r) (h3 : (l.map (mh_wf g)).sum = w r) : l.sum = mh_fm g w r ∧ l.length = w r % 1000 ∧ l.length < g := by
  have a := mh_wl_short hE hg h1 h2 h3
  have b := mh_wf_sum g l
  have c := mh_lk_sum l (fun x hx => Nat.le_of_lt (hD x (h1 x hx)).2)
  have d1 : w r % 1000 = l.length := by omega
  have d2 : w r / 1000 = mh_lk g l := by omega
  unfold mh_fm
  rw [d1, d2]
  exact ⟨by omega, rfl, a⟩
theorem mh_Lf_op (hE : mh_Ex g D (mh_wf g) w) (hg : 0 < g) (hg2 : g ≤ 300) (hD : ∀ x, x ∈ D → 1 ≤ x ∧ x < g) {s : Nat} (hs : mh_Lf g w s) : mh_mn D s = some (w (s % g) % 1000) ∧ w (s % g) % 1000 < g ∧ ∀ l, mh_Op D s l ↔ (∀ x, x ∈ l → x ∈ D) ∧ l.sum % g = s % g ∧ (l.map (mh_wf g)).sum = w (s % g) := by
  have hr := Nat.mod_lt s hg
  obtain ⟨l, h1, h2, h3⟩ := hE.1 _ hr hs.1
  obtain ⟨q1, q2, q3⟩ := mh_Lf_sum hE hg hg2 hD h1 h2 h3
  rw [← hs.2] at q1
  have b := mh_wf_sum g l
  have hm : mh_mn D s = some (w (s % g) % 1000) := by
    refine mh_mn_some.mpr ⟨⟨l, h1, q1, q2⟩, fun m ⟨l', p1, p2, p3⟩ => ?_⟩
    have k := hE.2 l' p1
    rw [p2, ← h3, mh_wf_sum, mh_wf_sum] at k
    have c := mh_lk_sum l (fun x hx => Nat.le_of_lt (hD x (h1 x hx)).2)
    have c' := mh_lk_sum l' (fun x hx => Nat.le_of_lt (hD x (p1 x hx)).2)
    rw [← q2, ← p3]
    refine Nat.le_of_not_lt (fun q => ?_)
    have := Nat.mul_le_mul_right g (show l'.length ≤ l.length by omega)
    have k1 := k.1
    omega
  refine ⟨hm, by omega, fun l' => ⟨fun ⟨p1, p2, p3⟩ => ⟨p1, by rw [p2], ?_⟩, fun ⟨p1, p2, p3⟩ => ?_⟩⟩
  · rw [hm] at p3
    have p3 := Option.some.inj p3
    have c := mh_lk_sum l (fun x hx => Nat.le_of_lt (hD x (h1 x hx)).2)
    have c' := mh_lk_sum l' (fun x hx => Nat.le_of_lt (hD x (p1 x hx)).2)
    rw [mh_wf_sum, ← h3, mh_wf_sum]
    have e : l'.length = l.length := by omega
    rw [e] at c' ⊢
    omega
  · obtain ⟨r1, r2, r3⟩ := mh_Lf_sum hE hg hg2 hD p1 p2 p3
    rw [← hs.2] at r1
    exact ⟨p1, r1, by rw [hm, r2]⟩
/-- a coin is taken: the rest ahead -/
theorem mh_Lf_peel (hE : mh_Ex g D (mh_wf g) w) (hg : 0 < g) (hg2 : g ≤ 300) (hD : ∀ x, x ∈ D → 1 ≤ x ∧ x < g) {s c v : Nat} (hc : c ∈ D) (hs : mh_Lf g w s) (hv : mh_mn D s = some v) :
    (w ((s % g + g - c) % g) ≠ mh_INF ∧ w ((s % g + g - c) % g) + mh_wf g c = w (s % g)) ↔ (c ≤ s ∧ 1 ≤ v ∧ mh_mn D (s - c) = some (v - 1)) := by
  obtain ⟨o1, o2, o3⟩ := mh_Lf_op hE hg hg2 hD hs
  have hcb := hD c hc
  have hb : ((s % g + g - c) % g + c) % g = s % g := by
    rw [Nat.mod_add_mod, Nat.sub_add_cancel (by omega), Nat.add_mod_right, Nat.mod_mod]
  have hb2 : ∀ x, x % g = (s % g + g - c) % g → (c + x) % g = s % g := fun x hx => by
    rw [Nat.add_comm, ← Nat.mod_add_mod, hx]
    exact hb
  constructor
  · intro ⟨a1, a2⟩
    obtain ⟨l, h1, h2, h3⟩ := hE.1 _ (Nat.mod_lt _ hg) a1
    have hop : mh_Op D s (c :: l) := (o3 (c :: l)).mpr ⟨fun x hx => (List.mem_cons.mp hx).elim (fun q => q ▸ hc) (h1 x), by rw [List.sum_cons]; exact hb2 _ h2, by rw [List.map_cons, List.sum_cons, h3]; omega⟩
    have hk := mh_Ak_of (k := 1) hv hc hop (by rw [List.count_cons_self]; omega)
    have k1 := hk.1
    have k3 := hk.2.2
    rw [Nat.one_mul] at k1 k3
    exact ⟨k1, hk.2.1, k3⟩
  · intro ⟨a1, a2, a3⟩
    obtain ⟨l, hl⟩ := mh_Op_ex a3
    have hop : mh_Op D s (l ++ List.replicate 1 c) := mh_Ak_op hv hc ⟨by omega, a2, by rw [Nat.one_mul]; exact a3⟩ (by rw [Nat.one_mul]; exact hl)
    obtain ⟨p1, p2, p3⟩ := (o3 _).mp hop
    rw [List.map_append, List.sum_append_nat] at p3
    have p3 : (l.map (mh_wf g)).sum + (mh_wf g c + 0) = w (s % g) := p3
    have e : l.sum % g = (s % g + g - c) % g := by
      have e1 : l.sum = s - c := hl.2.1
      rw [e1]
      have hd := Nat.div_add_mod s g
      by_cases hle : c ≤ s % g
      · rw [show s - c = (s % g - c) + g * (s / g) by omega, Nat.add_mul_mod_self_left, show s % g + g - c = s % g - c + g by omega, Nat.add_mod_right]
      · have hq : 1 ≤ s / g := by
          refine Nat.one_le_iff_ne_zero.mpr (fun q => ?_)
          rw [q] at hd
          omega
        have hq2 : g * (s / g) = g * (s / g - 1) + g := by rw [← Nat.mul_succ]; congr 1; omega
        rw [show s - c = (s % g + g - c) + g * (s / g - 1) by omega, Nat.add_mul_mod_self_left]
    have k1 := hE.2 l hl.1
    rw [e] at k1
    refine ⟨k1.2, ?_⟩
    have k2 := k1.1
    refine Nat.le_antisymm (by omega) ?_
    obtain ⟨r, h1, h2, h3⟩ := hE.1 _ (Nat.mod_lt _ hg) k1.2
    have k4 := (hE.2 (c :: r) (fun x hx => (List.mem_cons.mp hx).elim (fun q => q ▸ hc) (h1 x))).1
    rw [List.sum_cons, List.map_cons, List.sum_cons, h3] at k4
    have e5 : (c + r.sum) % g = s % g := hb2 _ h2
    rw [e5] at k4
    omega
theorem mh_Lf_next (hE : mh_Ex g D (mh_wf g) w) (hg : 0 < g) (hg2 : g ≤ 300) (hD : ∀ x, x ∈ D → 1 ≤ x ∧ x < g) {s c v : Nat} (hc : c ∈ D) (hs : mh_Lf g w s) (hv : mh_mn D s = some v) (h : c ≤ s ∧ 1 ≤ v ∧ mh_mn D (s - c) = some (v - 1)) : mh_Lf g w (s - c) ∧ (s - c) % g = (s % g + g - c) % g := by
  have hcb := hD c hc
  have hp := (mh_Lf_peel hE hg hg2 hD hc hs hv).mpr h
  obtain ⟨a1, a2, a3⟩ := h
  have e : (s - c) % g = (s % g + g - c) % g := by
    have hd := Nat.div_add_mod s g
    by_cases hle : c ≤ s % g
    · rw [show s - c = (s % g - c) + g * (s / g) by omega, Nat.add_mul_mod_self_left, show s % g + g - c = s % g - c + g by omega, Nat.add_mod_right]
    · have hq : 1 ≤ s / g := by
        refine Nat.one_le_iff_ne_zero.mpr (fun q => ?_)
        rw [q] at hd
        omega
      have hq2 : g * (s / g) = g * (s / g - 1) + g := by rw [← Nat.mul_succ]; congr 1; omega
      rw [show s - c = (s % g + g - c) + g * (s / g - 1) by omega, Nat.add_mul_mod_self_left]
  obtain ⟨o1, o2, o3⟩ := mh_Lf_op hE hg hg2 hD hs
  obtain ⟨l, hl⟩ := mh_Op_ex a3
  have hop : mh_Op D s (l ++ List.replicate 1 c) := mh_Ak_op hv hc ⟨by omega, a2, by rw [Nat.one_mul]; exact a3⟩ (by rw [Nat.one_mul]; exact hl)
  obtain ⟨p1, p2, p3⟩ := (o3 _).mp hop
  rw [List.map_append, List.sum_append_nat] at p3
  have p3 : (l.map (mh_wf g)).sum + (mh_wf g c + 0) = w (s % g) := p3
  have hl1 : l.sum % g = (s % g + g - c) % g := by rw [hl.2.1, e]
  have hl2 := (mh_Lf_sum hE hg hg2 hD hl.1 hl1 (by have := hp.2; omega)).1
  refine ⟨⟨by rw [e]; exact hp.1, ?_⟩, e⟩
  rw [e, ← hl2, hl.2.1]
end MhLf
