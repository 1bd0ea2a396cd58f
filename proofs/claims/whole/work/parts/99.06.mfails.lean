/-- the number of coins of the greatest first, or never -/
def mh_gn (cs : List Nat) (s : Nat) : Nat := if (mh_gf cs cs.length s 0).1 = 0 then (mh_gf cs cs.length s 0).2 else 536870912
theorem mh_gf_skip {cs : List Nat} {k s m : Nat} : ∀ (j : Nat), (∀ i, k ≤ i → i < k + j → s < cs.getD i 0) → mh_gf cs (k + j) s m = mh_gf cs k s m := by
  intro j
  induction j with
  | zero => intro _; rfl
  | succ j ih =>
    intro hs
    have h1 := hs (k + j) (by omega) (by omega)
    show mh_gf cs (k + j) (s % cs.getD (k + j) 0) (m + s / cs.getD (k + j) 0) = _
    rw [Nat.mod_eq_of_lt h1, Nat.div_eq_of_lt h1, Nat.add_zero]
    exact ih (fun i h1 h2 => hs i h1 (by omega))
theorem mh_gn_0 {cs : List Nat} {s : Nat} (hs : 0 < s) (hn : ∀ i, i < cs.length → s < cs.getD i 0) : mh_gn cs s = 536870912 := by
  have e := mh_gf_skip (cs := cs) (k := 0) (s := s) (m := 0) cs.length (fun i _ h2 => hn i (by omega))
  rw [Nat.zero_add] at e
  unfold mh_gn
  rw [e]
  exact if_neg (show ¬ s = 0 by omega)
theorem mh_gn_s {cs : List Nat} {k s : Nat} (hp : ∀ i, i < cs.length → 1 ≤ cs.getD i 0) (hk : k < cs.length) (hc : cs.getD k 0 ≤ s) (hn : ∀ i, k < i → i < cs.length → s < cs.getD i 0) (hs : s ≤ 100300) : mh_gn cs s = if mh_gn cs (s - cs.getD k 0) + 1 < 536870912 then mh_gn cs (s - cs.getD k 0) + 1 else 536870912 := by
  have h1 := hp k hk
  obtain ⟨c, ec⟩ : ∃ c, c = cs.getD k 0 := ⟨_, rfl⟩
  have st : ∀ t, t ≤ s → mh_gf cs cs.length t 0 = mh_gf cs k (t % c) (t / c) := fun t ht => by
    have e := mh_gf_skip (cs := cs) (k := k + 1) (s := t) (m := 0) (cs.length - (k + 1)) (fun i q1 q2 => by have := hn i (by omega) (by omega); omega)
    rw [show k + 1 + (cs.length - (k + 1)) = cs.length by omega] at e
    rw [e]
    show mh_gf cs k (t % cs.getD k 0) (0 + t / cs.getD k 0) = _
    rw [Nat.zero_add, ← ec]
  have e1 := st s (Nat.le_refl _)
  have e2 := st (s - cs.getD k 0) (by omega)
  rw [← ec] at e2 hc h1 ⊢
  have m1 : s % c = (s - c) % c := Nat.mod_eq_sub_mod hc
  have m2 : s / c = (s - c) / c + 1 := by rw [Nat.div_eq_sub_div (by omega) hc]
  have l2 := mh_gf_le cs hp cs.length (s - c) 0 (Nat.le_refl _)
  have e3 : mh_gf cs cs.length s 0 = ((mh_gf cs cs.length (s - c) 0).1, (mh_gf cs cs.length (s - c) 0).2 + 1) := by
    rw [e1, e2, m1, m2]
    exact mh_gf_add cs k _ _ 1
  have g1 : mh_gn cs s = if (mh_gf cs cs.length (s - c) 0).1 = 0 then (mh_gf cs cs.length (s - c) 0).2 + 1 else 536870912 := by
    unfold mh_gn
    rw [e3]
  have g2 : mh_gn cs (s - c) = if (mh_gf cs cs.length (s - c) 0).1 = 0 then (mh_gf cs cs.length (s - c) 0).2 else 536870912 := rfl
  rw [g1, g2]
  by_cases q : (mh_gf cs cs.length (s - c) 0).1 = 0
  · rw [if_pos q, if_pos q, if_pos (by omega)]
  · rw [if_neg q, if_neg q, if_neg (by omega)]
theorem mh_gn_le {cs : List Nat} (hp : ∀ i, i < cs.length → 1 ≤ cs.getD i 0) {s : Nat} (hs : s ≤ 100300) : mh_gn cs s ≤ 536870912 := by
  have l2 := mh_gf_le cs hp cs.length s 0 (Nat.le_refl _)
  unfold mh_gn
  by_cases q : (mh_gf cs cs.length s 0).1 = 0
  · rw [if_pos q]; omega
  · rw [if_neg q]; exact Nat.le_refl _
theorem mh_fl_gn {cs : List Nat} {s n : Nat} (hv : mh_mn cs s = some n) (hn : n < 536870912) : mh_fl cs s ↔ n ≠ mh_gn cs s := by
  have a : mh_gp2 cs s n ↔ n = mh_gn cs s := by
    unfold mh_gp2 mh_gn
    by_cases q : (mh_gf cs cs.length s 0).1 = 0
    · rw [if_pos q]
      exact ⟨fun e => by rw [e], fun e => by rw [e]; exact Prod.ext q rfl⟩
    · rw [if_neg q]
      exact ⟨fun e => by rw [e] at q; exact absurd rfl q, fun e => by omega⟩
  constructor
  · rintro ⟨m, m1, m2⟩ e
    rw [hv] at m1
    have := Option.some.inj m1
    subst this
    exact m2 (a.mpr e)
  · intro e
    exact ⟨n, hv, fun q => e (a.mp q)⟩
theorem mh_fl_0 {cs : List Nat} (hms : mh_ms cs) : ¬ mh_fl cs 0 := by
  have l2 := mh_gf_le cs (fun i hi => (hms.1.get hi).1) cs.length 0 0 (Nat.le_refl _)
  rw [mh_fl_gn (mh_mn0 cs) (by omega)]
  unfold mh_gn
  rw [if_pos (by omega)]
  omega
theorem mh_fl_b {cs : List Nat} (hms : mh_ms cs) {s : Nat} (hs : mh_fl cs s) (hl : ∀ t, t < s → ¬ mh_fl cs t) : s < 1000 := by
  by_cases hne : cs = []
  · subst hne
    obtain ⟨n, n1, n2⟩ := hs
    have := mh_py_nil.mp (mh_mn_py n1)
    omega
  · have b := mh_fl_bound hms hne hs hl
    obtain ⟨_, g3, _⟩ := mh_tp_ok hms hne
    have := (mh_ms_sub hms (List.dropLast_sublist cs)).1.le (cs.dropLast.length - 1)
    omega
theorem mh_fl_no {cs : List Nat} (hms : mh_ms cs) (h : ∀ s, s ≤ 1000 → ¬ mh_fl cs s) : ∀ s, ¬ mh_fl cs s := by
  intro s
  induction s using Nat.strongRecOn with
  | ind s ih =>
    intro q
    have := mh_fl_b hms q ih
    exact h s (by omega) q
section MhModelL
variable {h : mh_H} {bd : Nat → Nat} {σ : mh_Sg} {F : Nat → Int32}
theorem mh_RI.one (hR : mh_RI h bd σ F) {h' : mh_H} (i : Nat) (hi : i < 11) (hf : ∀ b, (∀ k, mh_rr i ≤ k → k < mh_rr (i + 1) → b ≠ bd k) → h' b = h b) (hc : mh_rc bd σ F i h') : mh_RI h' bd σ F ∧ mh_frR bd h h' := by
  refine hR.mul [i] (fun j hj => ?_) (fun b hb => hf b (hb i List.mem_cons_self)) (fun j hj => ?_) (fun j hj hn hc => hc)
  · rw [List.mem_singleton.mp hj]; exact hi
  · rw [List.mem_singleton.mp hj]; exact hc
theorem mh_r_failure (hR : mh_RI h bd σ F) {p : Nat} (hp : p < 8) : ∃ z h' F', f_X12_failure_e (bd 0) (nI p) h = some (z, h') ∧ mh_Blf (mh_mi σ p) z ∧ mh_RI h' bd σ F' ∧ F' 0 = F 0 ∧ mh_frR bd h h' := by
  obtain ⟨h1, F1, y1, R1, z1, T1, f1⟩ := mh_r_table hR hp
  obtain ⟨g, hg, hw⟩ := R1.2 1 (by omega)
  have hm := (hw p hp).1
  obtain ⟨cs, ecs⟩ : ∃ cs, cs = mh_mi σ p := ⟨_, rfl⟩
  rw [← ecs] at T1 hm ⊢
  obtain ⟨h7, fb, G, t1, t2, t3, t4, t5⟩ := T1
  obtain ⟨f1', f2', f3', f4', f5', f6', c1, c0, c2, c3, c4, c5, c6⟩ := R1.2 10 (by omega)
  have hl := hm.1.1
  have hI := R1.1
  have ho := R1.ob
  have hpos : ∀ i, i < cs.length → 1 ≤ cs.getD i 0 := fun i hi => (hm.1.get hi).1
  have hposm : ∀ x, x ∈ cs → 1 ≤ x := fun x hx => (hm.1.2 x hx).1
  -- the step of k
  have inner : ∀ (k9 : Nat → Int32 → Int32 → mh_H → Option (Int32 × mh_H)) (hh : mh_H) (k s : Nat), mh_fr [bd 93] h1 hh → k ≤ cs.length → (∀ i, i < k → cs.getD i 0 ≤ s) → s ≤ 100300 → ∃ k', k' ≤ cs.length ∧ (∀ i, i < k' → cs.getD i 0 ≤ s) ∧ (∀ i, k' ≤ i → i < cs.length → s < cs.getD i 0) ∧ f_X12_failure_b15 k9 mh_fu (bd 0) (nI k) (nI s) hh = f_X12_failure_b39 k9 (bd 0) (nI k') (nI s) hh := fun k9 hh k s hfr hk hks hs => by
    have ho' : hh (bd 0) = _ := (hfr _ (by simp [hI.ne (show 0 < 99 by omega) (show 93 < 99 by omega) (by omega)])).trans ho
    have hb' : hh (bd 24) = _ := (hfr _ (by simp [hI.ne (show 24 < 99 by omega) (show 93 < 99 by omega) (by omega)])).trans t1
    have key := mh_wh (fun m (k : Nat) => f_X12_failure_b15 k9 m (bd 0) (nI k) (nI s) hh) (fun (k' : Nat) => f_X12_failure_b39 k9 (bd 0) (nI k') (nI s) hh) (fun k => k ≤ cs.length ∧ ∀ i, i < k → cs.getD i 0 ≤ s) (fun k => cs.length - k) (fun k' => k' ≤ cs.length ∧ (∀ i, i < k' → cs.getD i 0 ≤ s) ∧ (∀ i, k' ≤ i → i < cs.length → s < cs.getD i 0))
      (fun m k hk => by
        obtain ⟨q1, q2⟩ := hk
        show (∃ s', _ ∧ _ ∧ f_X12_failure_b15 k9 (m + 1) (bd 0) (nI k) (nI s) hh = _) ∨ ∃ r, _ ∧ f_X12_failure_b15 k9 (m + 1) (bd 0) (nI k) (nI s) hh = _
        rw [f_X12_failure_b15, mh_gI_eq (k := 7) ho' rfl, Option.bind_some, h7]
        by_cases c : k < cs.length
        · have cb := hm.1.get c
          rw [if_neg (fun q => absurd ((nI_leI (by omega) (by omega)).mp q) (by omega)), mh_gR_eq (k := 6) ho' rfl, Option.bind_some, mh_aI_eq hb' (show k < 12 by omega) (by omega), Option.bind_some, t4 k c]
          by_cases c2 : s < cs.getD k 0
          · right
            refine ⟨k, ⟨q1, q2, fun i i1 i2 => ?_⟩, by rw [if_pos ((nI_ltI (by omega) (by omega)).mpr c2)]⟩
            by_cases e : i = k
            · rw [e]; exact c2
            · have := mh_pw_ne hm.2 (show k < i by omega) i2
              omega
          · left
            refine ⟨k + 1, ⟨c, fun i hi => ?_⟩, by omega, by rw [if_neg (fun q => c2 ((nI_ltI (by omega) (by omega)).mp q)), mh_nm_eq, mh_inc]⟩
            by_cases e : i = k
            · rw [e]; omega
            · exact q2 i (by omega)
        · right
          exact ⟨k, ⟨q1, q2, fun i i1 i2 => by omega⟩, by rw [if_pos ((nI_leI (by omega) (by omega)).mpr (by omega))]⟩)
      12 mh_fu k (by omega) ⟨hk, hks⟩ (mh_fuel _ (by omega))
    obtain ⟨k', ⟨a1, a2, a3⟩, a4⟩ := key
    exact ⟨k', a1, a2, a3, a4⟩
  have key := mh_wh (fun m (q : (Nat × Nat) × mh_H) => f_X12_failure_b9 m (bd 0) (nI q.1.1) (nI q.1.2) q.2) (fun (r : Int32 × mh_H) => some r) (fun q => q.1.1 ≤ cs.length ∧ 1 ≤ q.1.2 ∧ q.1.2 ≤ 100301 ∧ (∀ i, i < q.1.1 → cs.getD i 0 ≤ q.1.2) ∧ (∀ t, t < q.1.2 → ¬ mh_fl cs t) ∧ mh_fr [bd 93] h1 q.2 ∧ ∃ f, q.2 (bd 93) = some (.inl (0, 100301, .inl f)) ∧ ∀ t, t < q.1.2 → f t = nI (mh_gn cs t)) (fun q => 100301 - q.1.2) (fun r => mh_Blf cs r.1 ∧ mh_fr [bd 93] h1 r.2 ∧ ∃ f, r.2 (bd 93) = some (.inl (0, 100301, .inl f)) ∧ f 0 = 0)
    (fun m q hq => by
      obtain ⟨⟨k, s⟩, hh⟩ := q
      obtain ⟨q1, q2, q3, q4, q5, q6, f, q7, q8⟩ := hq
      have q1 : k ≤ cs.length := q1
      have q2 : 1 ≤ s := q2
      have q3 : s ≤ 100301 := q3
      have q4 : ∀ i, i < k → cs.getD i 0 ≤ s := q4
      have q5 : ∀ t, t < s → ¬ mh_fl cs t := q5
      have q6 : mh_fr [bd 93] h1 hh := q6
      have q7 : hh (bd 93) = some (.inl (0, 100301, .inl f)) := q7
      have q8 : ∀ t, t < s → f t = nI (mh_gn cs t) := q8
      have f0 : f 0 = 0 := by
        rw [q8 0 (by omega)]
        have l2 := mh_gf_le cs hpos cs.length 0 0 (Nat.le_refl _)
        have : mh_gn cs 0 = 0 := by
          unfold mh_gn
          rw [if_pos (by omega)]
          omega
        rw [this]
        rfl
      show (∃ s', _ ∧ _ ∧ f_X12_failure_b9 (m + 1) (bd 0) (nI k) (nI s) hh = _) ∨ ∃ r, _ ∧ f_X12_failure_b9 (m + 1) (bd 0) (nI k) (nI s) hh = _
      rw [f_X12_failure_b9]
      by_cases hlt : s ≤ 100300
      · rw [if_neg (fun q => absurd ((mh_ltl (a := 100300) 100300 rfl (by omega) (by omega)).mp q) (by omega))]
        obtain ⟨k', k1, k2, k3, k4⟩ := inner (f_X12_failure_b9 m) hh k s q6 q1 q4 hlt
        rw [k4]
        have kp : ∀ y, y < 93 → hh (bd y) = h1 (bd y) := fun y hy => q6 _ (by simp [hI.ne (show y < 99 by omega) (show 93 < 99 by omega) (by omega)])
        have ho' := (kp 0 (by omega)).trans ho
        have hb' := (kp 24 (by omega)).trans t1
        -- after the row has its number
        have fin : ∀ v, v = nI (mh_gn cs s) → ((∃ s' : (Nat × Nat) × mh_H, (s'.1.1 ≤ cs.length ∧ 1 ≤ s'.1.2 ∧ s'.1.2 ≤ 100301 ∧ (∀ i, i < s'.1.1 → cs.getD i 0 ≤ s'.1.2) ∧ (∀ t, t < s'.1.2 → ¬ mh_fl cs t) ∧ mh_fr [bd 93] h1 s'.2 ∧ ∃ f, s'.2 (bd 93) = some (.inl (0, 100301, .inl f)) ∧ ∀ t, t < s'.1.2 → f t = nI (mh_gn cs t)) ∧ 100301 - s'.1.2 < 100301 - s ∧ f_X12_failure_b75 (f_X12_failure_b9 m) (bd 0) (nI k') (nI s) (bd 93) (nI s) v hh = f_X12_failure_b9 m (bd 0) (nI s'.1.1) (nI s'.1.2) s'.2) ∨ ∃ r : Int32 × mh_H, (mh_Blf cs r.1 ∧ mh_fr [bd 93] h1 r.2 ∧ ∃ f, r.2 (bd 93) = some (.inl (0, 100301, .inl f)) ∧ f 0 = 0) ∧ f_X12_failure_b75 (f_X12_failure_b9 m) (bd 0) (nI k') (nI s) (bd 93) (nI s) v hh = some r) := fun v hv => by
          obtain ⟨H, eH⟩ : ∃ H, H = mh_up hh (bd 93) (.inl (0, 100301, .inl (upd f s v))) := ⟨_, rfl⟩
          have H93 : H (bd 93) = some (.inl (0, 100301, .inl (upd f s v))) := by rw [eH]; exact mh_up_eq _ _ _
          have Hfr : mh_fr [bd 93] h1 H := by rw [eH]; exact q6.trans (mh_fr.up List.mem_cons_self)
          have kH : ∀ y, y < 93 → H (bd y) = h1 (bd y) := fun y hy => Hfr _ (by simp [hI.ne (show y < 99 by omega) (show 93 < 99 by omega) (by omega)])
          have hoH := (kH 0 (by omega)).trans ho
          have OH : mh_Oi H (bd 25) (fun j => bd (26 + j)) 13 := (kH 25 (by omega)).trans t2
          have rH := (kH (26 + cs.length) (by omega)).trans (t3 cs.length (by omega))
          have eG : G cs.length s = nI (mh_nv (mh_mn cs s)) := by rw [t5 _ (Nat.le_refl _) s hlt, List.take_length]
          have rows : ∀ t, t < s + 1 → upd f s v t = nI (mh_gn cs t) := fun t ht => by
            by_cases e : t = s
            · rw [e, pk_us]; exact hv
            · rw [pk_un e]; exact q8 t (by omega)
          have u0 : upd f s v 0 = 0 := by rw [pk_un (by omega)]; exact f0
          have go : ¬ mh_fl cs s → ∃ s' : (Nat × Nat) × mh_H, (s'.1.1 ≤ cs.length ∧ 1 ≤ s'.1.2 ∧ s'.1.2 ≤ 100301 ∧ (∀ i, i < s'.1.1 → cs.getD i 0 ≤ s'.1.2) ∧ (∀ t, t < s'.1.2 → ¬ mh_fl cs t) ∧ mh_fr [bd 93] h1 s'.2 ∧ ∃ f, s'.2 (bd 93) = some (.inl (0, 100301, .inl f)) ∧ ∀ t, t < s'.1.2 → f t = nI (mh_gn cs t)) ∧ 100301 - s'.1.2 < 100301 - s ∧ f_X12_failure_b114 (f_X12_failure_b9 m) (bd 0) (nI k') (nI s) H = f_X12_failure_b9 m (bd 0) (nI s'.1.1) (nI s'.1.2) s'.2 := fun nf => by
            refine ⟨((k', s + 1), H), ⟨k1, by show 1 ≤ s + 1; omega, by show s + 1 ≤ 100301; omega, fun i hi => by have := k2 i hi; show _ ≤ s + 1; omega, fun t ht => ?_, Hfr, _, H93, rows⟩, by show 100301 - (s + 1) < 100301 - s; omega, ?_⟩
            · have ht : t < s + 1 := ht
              by_cases e : t = s
              · rw [e]; exact nf
              · exact q5 t (by omega)
            · unfold f_X12_failure_b114
              rw [mh_nm_eq, mh_inc]
          have sI : mh_sI hh (bd 93) (nI s) v = some H := by rw [eH]; exact mh_sI_eq q7 (by omega) (by omega)
          unfold f_X12_failure_b75
          rw [sI, Option.bind_some, mh_gR_eq (k := 8) hoH rfl, Option.bind_some, mh_gI_eq (k := 7) hoH rfl, Option.bind_some, h7, mh_aR_eq OH (show cs.length < 13 by omega) (by omega) rfl, Option.bind_some, mh_aI_eq rH (show s < 100301 by omega) (by omega), Option.bind_some, eG]
          cases hv2 : mh_mn cs s with
          | none =>
            left
            obtain ⟨s', g1, g2, g3⟩ := go (fun q => by obtain ⟨n, n1, _⟩ := q; rw [hv2] at n1; cases n1)
            exact ⟨s', g1, g2, by rw [if_pos (by decide)]; exact g3⟩
          | some n =>
            have nb := mh_mn_b hposm hv2
            have en : mh_nv (some n) = n := rfl
            have gl := mh_gn_le hpos hlt
            rw [en, if_neg (fun q => absurd ((mh_lel (a := 536870912) 536870912 rfl (by omega) (by omega)).mp q) (by omega)), mh_gR_eq (k := 32) hoH rfl, Option.bind_some, Option.bind_some, mh_aR_eq OH (show cs.length < 13 by omega) (by omega) rfl, Option.bind_some, mh_aI_eq rH (show s < 100301 by omega) (by omega), Option.bind_some, eG, hv2, en, Option.bind_some, mh_aI_eq H93 (show s < 100301 by omega) (by omega), Option.bind_some, pk_us, hv]
            by_cases c : n = mh_gn cs s
            · left
              obtain ⟨s', g1, g2, g3⟩ := go (fun q => (mh_fl_gn hv2 (by omega)).mp q c)
              exact ⟨s', g1, g2, by rw [if_pos (by rw [← c])]; exact g3⟩
            · right
              have hfl := (mh_fl_gn hv2 (by omega)).mpr c
              refine ⟨(nI s, H), ⟨Or.inl ⟨s, mh_fl_b hm hfl q5, hfl, q5, rfl⟩, Hfr, _, H93, u0⟩, ?_⟩
              rw [if_neg (fun q => c ((nI_eq (by omega) (by omega)).mp q))]
              rfl
        unfold f_X12_failure_b39
        rw [mh_gR_eq (k := 32) ho' rfl, Option.bind_some]
        by_cases ck : k' = 0
        · rw [ck, if_pos (by rfl)]
          rw [ck] at fin
          exact fin _ (by rw [mh_gn_0 (by omega) (fun i hi => k3 i (by omega) hi)]; rfl)
        · obtain ⟨j, ej⟩ : ∃ j, k' = j + 1 := ⟨k' - 1, by omega⟩
          subst ej
          have cb := hm.1.get (show j < cs.length by omega)
          have cj := k2 j (by omega)
          have e1 : nI (j + 1) - (1 : Int32) = nI j := pk_sub (b := 1) (by omega)
          have gl := mh_gn_le hpos (show s - cs.getD j 0 ≤ 100300 by omega)
          have e2 : nI (mh_gn cs (s - cs.getD j 0)) + (1 : Int32) = nI (mh_gn cs (s - cs.getD j 0) + 1) := nI_1 _
          rw [if_neg (fun q => ck ((mh_eqr (b := 0) 0 rfl (by omega) (by omega)).mp q)), Option.bind_some, mh_gR_eq (k := 6) ho' rfl, Option.bind_some, e1, mh_aI_eq hb' (show j < 12 by omega) (by omega), Option.bind_some, t4 j (by omega), pk_sub cj, mh_aI_eq q7 (show s - cs.getD j 0 < 100301 by omega) (by omega), Option.bind_some, q8 (s - cs.getD j 0) (by omega), e2]
          refine fin _ ?_
          rw [mh_gn_s hpos (by omega) cj (fun i i1 i2 => k3 i (by omega) i2) hlt]
          by_cases c3 : mh_gn cs (s - cs.getD j 0) + 1 < 536870912
          · rw [if_pos c3, if_pos ((mh_ltr (b := 536870912) 536870912 rfl (by omega) (by omega)).mpr c3)]
          · rw [if_neg c3, if_neg (fun q => c3 ((mh_ltr (b := 536870912) 536870912 rfl (by omega) (by omega)).mp q))]
            rfl
      · right
        have e : s = 100301 := by omega
        subst e
        exact ⟨(-1, hh), ⟨Or.inr ⟨mh_fl_no hm (fun t ht => q5 t (by omega)), rfl⟩, q6, f, q7, f0⟩, by rw [if_pos ((mh_ltl (a := 100300) 100300 rfl (by omega) (by omega)).mpr (by omega))]; rfl⟩)
    100300 mh_fu ((0, 1), h1) (by show 100301 - 1 ≤ 100300; omega) ⟨Nat.zero_le _, Nat.le_refl _, by show 1 ≤ 100301; omega, fun i hi => absurd hi (Nat.not_lt_zero i), fun t ht => by have ht : t < 1 := ht; rw [show t = 0 by omega]; exact mh_fl_0 hm, mh_fr.rfl, f1', c1, fun t ht => by
      have ht : t < 1 := ht
      have et : t = 0 := by omega
      subst et
      have l2 := mh_gf_le cs hpos cs.length 0 0 (Nat.le_refl _)
      have : mh_gn cs 0 = 0 := by
        unfold mh_gn
        rw [if_pos (by omega)]
        omega
      rw [this, c0]
      rfl⟩ (mh_fuel _ (by omega))
  obtain ⟨⟨z, h2⟩, ⟨v1, v2, f, v3, v4⟩, v5⟩ := key
  have v2 : mh_fr [bd 93] h1 h2 := v2
  have v3 : h2 (bd 93) = some (.inl (0, 100301, .inl f)) := v3
  have v5 : f_X12_failure_b9 mh_fu (bd 0) 0 1 h1 = some (z, h2) := v5
  have kH : ∀ y, y < 99 → y ≠ 93 → h2 (bd y) = h1 (bd y) := fun y hy e => v2 _ (by simp [hI.ne hy (show 93 < 99 by omega) e])
  obtain ⟨R2, f2⟩ := R1.one (h' := h2) 10 (by omega) (fun b hb => v2 b (by simp [hb 93 (by decide) (by decide)])) ⟨f, f2', f3', f4', f5', f6', v3, v4, (kH 94 (by omega) (by omega)).trans c2, (kH 95 (by omega) (by omega)).trans c3, (kH 96 (by omega) (by omega)).trans c4, (kH 97 (by omega) (by omega)).trans c5, (kH 98 (by omega) (by omega)).trans c6⟩
  refine ⟨z, h2, F1, ?_, v1, R2, z1, f1.trans f2⟩
  unfold f_X12_failure_e
  rw [mh_cal_eq hR.ob, y1, Option.bind_some, mh_nm_eq, mh_nm_eq]
  exact v5
theorem mh_M_fails (hR : mh_RI h bd σ F) (x1 : Int32) : ∃ r v h' F', f_X12_fails_e (bd 0) x1 h = some (v, h') ∧ mh_Qm σ x1 (fun cs r => ∃ z, mh_Blf cs z ∧ r = .inr z) r ∧ mh_an r v F' ∧ mh_RI h' bd σ F' ∧ mh_frR bd h h' := by
  obtain ⟨h1, F1, p1, R1, z1, f1⟩ := mh_r_code hR
  unfold f_X12_fails_e
  rw [p1, Option.bind_some]
  rcases mh_r_isMint (h := h1) x1 with ⟨p, a1, a2, a3⟩ | ⟨a1, a3⟩
  · subst a2
    obtain ⟨z, h2, F2, y1, y2, R2, z2, f2⟩ := mh_r_failure R1 a1
    rw [mh_b2_eq a3, if_neg (by decide), mh_cal_eq R1.ob, mh_b2_eq y1]
    exact ⟨.inr z, _, h2, F2, rfl, Or.inr ⟨p, a1, rfl, z, y2, rfl⟩, Or.inl ⟨rfl, z2.trans z1⟩, R2, f1.trans f2⟩
  · obtain ⟨h2, F2, y1, R2, z2, f2⟩ := mh_r_fl R1 1 (fun v12 h11 => some (v12, h11))
    have y1 : mh_b2 (mh_cal h1 (bd 0) 12 (f_X12_fail_e (bd 0) (1 : Int32) h1)) _ = _ := y1
    rw [mh_b2_eq a3, if_pos rfl, y1]
    exact ⟨.inl 1, _, h2, F2, rfl, Or.inl ⟨a1, rfl⟩, Or.inr ⟨1, rfl, z2⟩, R2, f1.trans f2⟩
theorem mh_M_always (hR : mh_RI h bd σ F) (x1 : Int32) : ∃ r v h' F', f_X12_always_e (bd 0) x1 h = some (v, h') ∧ mh_Qm σ x1 (fun cs r => ∃ z, mh_Blf cs z ∧ r = .inr (if z = -1 then 1 else 0)) r ∧ mh_an r v F' ∧ mh_RI h' bd σ F' ∧ mh_frR bd h h' := by
  obtain ⟨h1, F1, p1, R1, z1, f1⟩ := mh_r_code hR
  unfold f_X12_always_e
  rw [p1, Option.bind_some]
  rcases mh_r_isMint (h := h1) x1 with ⟨p, a1, a2, a3⟩ | ⟨a1, a3⟩
  · subst a2
    obtain ⟨z, h2, F2, y1, y2, R2, z2, f2⟩ := mh_r_failure R1 a1
    rw [mh_b2_eq a3, if_neg (by decide), mh_cal_eq R1.ob, mh_b2_eq y1]
    refine ⟨.inr (if z = -1 then 1 else 0), (if z = -1 then 1 else 0), h2, F2, ?_, Or.inr ⟨p, a1, rfl, z, y2, rfl⟩, Or.inl ⟨rfl, z2.trans z1⟩, R2, f1.trans f2⟩
    by_cases c : z = -1
    · rw [if_pos c, if_pos c]
      rfl
    · rw [if_neg c, if_neg c]
      rfl
  · obtain ⟨h2, F2, y1, R2, z2, f2⟩ := mh_r_fl R1 1 (fun _ h11 => mh_rz (0 : Int32) h11)
    have y1 : mh_b2 (mh_cal h1 (bd 0) 12 (f_X12_fail_e (bd 0) (1 : Int32) h1)) _ = _ := y1
    rw [mh_b2_eq a3, if_pos rfl, y1]
    exact ⟨.inl 1, 0, h2, F2, rfl, Or.inl ⟨a1, rfl⟩, Or.inr ⟨1, rfl, z2⟩, R2, f1.trans f2⟩
end MhModelL
