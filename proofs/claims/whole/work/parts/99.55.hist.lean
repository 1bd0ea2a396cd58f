/-! the constructor of History -/
abbrev mh_Nq (kd : Nat) (f : Nat → Option Nat) : mh_E := .inl (kd, 168, .inr (.inr (.inr (.inr f))))
/-- i places are made -/
def mh_J (h0 : mh_H) (o am ap i : Nat) (bf : Nat → Nat) (h : mh_H) : Prop :=
  mh_Inj bf (6 * i) ∧ (∀ k, k < 6 * i → h0 (bf k) = none ∧ h (bf k) ≠ none ∧ bf k ≠ o ∧ bf k ≠ am ∧ bf k ≠ ap) ∧ (∀ b, b ≠ o → h0 b ≠ none → h b = h0 b) ∧ (h0 am = none ∧ h0 ap = none ∧ am ≠ ap ∧ am ≠ o ∧ ap ≠ o) ∧ h o = some (.inr (3, [.ref am, .ref ap, .int 0, .int 0, .int 0])) ∧ (∃ f, h am = some (mh_Nq 3 f) ∧ ∀ j, j < i → f j = some (bf (6 * j))) ∧ (∃ g, h ap = some (mh_Nq 4 g) ∧ ∀ j, j < i → g j = some (bf (6 * j + 2))) ∧ ∀ j, j < i → mh_Sl h bf j [] [] []
theorem mh_Sl.fn {h : mh_H} {ad ad' : Nat → Nat} {j : Nat} {m c n : List Nat} (hs : mh_Sl h ad j m c n) (e : ∀ k, k < 6 → ad' (6 * j + k) = ad (6 * j + k)) : mh_Sl h ad' j m c n := by
  have e0 : ad' (6 * j) = ad (6 * j) := e 0 (by omega)
  unfold mh_Sl
  rw [e0, e 1 (by omega), e 2 (by omega), e 3 (by omega), e 4 (by omega), e 5 (by omega)]
  exact hs
theorem mh_J.turn {h0 h h3 h6 : mh_H} {o am ap i : Nat} {bf : Nat → Nat} {f g : Nat → Option Nat} {q1 a1 q2 b0 b1 b2 : Nat} (J : mh_J h0 o am ap i bf h) (f0 : h am = some (mh_Nq 3 f)) (g0 : h ap = some (mh_Nq 4 g))
    (R1 : mh_Rg h am h3 [q1, a1]) (x1 : h3 am = some (mh_Nq 3 (va_up f i (some q1)))) (x2 : h3 q1 = some (.inr (1, [.ref a1, .int 0]))) (x3 : h3 a1 = some (mh_Ni 12))
    (R2 : mh_Rg h3 ap h6 [q2, b0, b1, b2]) (y1 : h6 ap = some (mh_Nq 4 (va_up g i (some q2)))) (y2 : h6 q2 = some (.inr (7, [.ref b0, .ref b2]))) (y3 : h6 b0 = some (.inr (1, [.ref b1, .int 0]))) (y4 : h6 b1 = some (mh_Ni 12)) (y5 : h6 b2 = some (mh_Ni 12)) : ∃ bf', mh_J h0 o am ap (i + 1) bf' h6 := by
  obtain ⟨j1, j2, j3, ⟨m1, m2, m3, m4, m5⟩, j5, ⟨f', jf0, jf⟩, ⟨g', jg0, jg⟩, j8⟩ := J
  rw [f0] at jf0
  rw [g0] at jg0
  cases jf0
  cases jg0
  have kp3 : ∀ x, h x ≠ none → x ≠ am → h3 x = h x := fun x hx hz => R1.kept hz hx
  have kp6 : ∀ x, h3 x ≠ none → x ≠ ap → h6 x = h3 x := fun x hx hz => R2.kept hz hx
  have kp : ∀ x, h x ≠ none → x ≠ am → x ≠ ap → h6 x = h x := fun x hx z1 z2 => (kp6 x (by rw [kp3 x hx z1]; exact hx) z2).trans (kp3 x hx z1)
  have no : h o ≠ none := by rw [j5]; exact fun z => by cases z
  have nam : h am ≠ none := by rw [f0]; exact fun z => by cases z
  have nap : h ap ≠ none := by rw [g0]; exact fun z => by cases z
  have fr0 : ∀ x, h x = none → h0 x = none ∧ x ≠ o ∧ x ≠ am ∧ x ≠ ap := fun x hx => by
    have xo : x ≠ o := fun z => no (z ▸ hx)
    refine ⟨?_, xo, fun z => nam (z ▸ hx), fun z => nap (z ▸ hx)⟩
    by_cases w : h0 x = none
    · exact w
    · exact absurd (by rw [← j3 x xo w]; exact hx) w
  obtain ⟨bl, ebl⟩ : ∃ bl : List Nat, bl = [q1, a1] ++ [q2, b0, b1, b2] := ⟨_, rfl⟩
  have fr : ∀ x, x ∈ bl → h x = none ∧ h6 x ≠ none := fun x hx => by
    rw [ebl] at hx
    rcases List.mem_append.mp hx with w | w
    · exact ⟨(R1.2.1 x w).1, R2.nn (R1.2.1 x w).2⟩
    · exact ⟨(R1.out (R2.2.1 x w).1).2.2, (R2.2.1 x w).2⟩
  have nd : bl.Nodup := by
    rw [ebl, List.nodup_append]
    exact ⟨R1.1, R2.1, fun a ha b hb z => (R1.2.1 a ha).2 (by rw [z]; exact (R2.2.1 b hb).1)⟩
  have ln : bl.length = 6 := by rw [ebl]; rfl
  have nj := mh_gd_inj nd
  rw [ln] at nj
  have hin : ∀ k, k < 6 → bl.getD k 0 ∈ bl := fun k hk => mh_get_mem (by rw [ln]; exact hk)
  obtain ⟨bf', e1, e2⟩ : ∃ bf' : Nat → Nat, (∀ k, k < 6 * i → bf' k = bf k) ∧ ∀ k, bf' (6 * i + k) = bl.getD k 0 := ⟨fun k => if k < 6 * i then bf k else bl.getD (k - 6 * i) 0, fun k hk => if_pos hk, fun k => by
    show (if 6 * i + k < 6 * i then _ else _) = _
    rw [if_neg (by omega), Nat.add_sub_cancel_left]⟩
  have c0 : bf' (6 * i) = q1 := (e2 0).trans (by rw [ebl]; rfl)
  have c1 : bf' (6 * i + 1) = a1 := (e2 1).trans (by rw [ebl]; rfl)
  have c2 : bf' (6 * i + 2) = q2 := (e2 2).trans (by rw [ebl]; rfl)
  have c3 : bf' (6 * i + 3) = b0 := (e2 3).trans (by rw [ebl]; rfl)
  have c4 : bf' (6 * i + 4) = b1 := (e2 4).trans (by rw [ebl]; rfl)
  have c5 : bf' (6 * i + 5) = b2 := (e2 5).trans (by rw [ebl]; rfl)
  refine ⟨bf', fun x y hx hy e => ?_, fun k hk => ?_, fun b hb1 hb2 => ?_, ⟨m1, m2, m3, m4, m5⟩, (kp o no (fun z => m4 z.symm) (fun z => m5 z.symm)).trans j5, ⟨va_up f i (some q1), (kp6 am (by rw [x1]; exact fun z => by cases z) m3).trans x1, fun j hj => ?_⟩, ⟨va_up g i (some q2), y1, fun j hj => ?_⟩, fun j hj => ?_⟩
  · by_cases h1 : x < 6 * i
    · by_cases h2 : y < 6 * i
      · rw [e1 x h1, e1 y h2] at e
        exact j1 x y h1 h2 e
      · obtain ⟨y', rfl⟩ : ∃ y', y = 6 * i + y' := ⟨y - 6 * i, by omega⟩
        rw [e1 x h1, e2] at e
        exact absurd (fr _ (hin y' (by omega))).1 (by rw [← e]; exact (j2 x h1).2.1)
    · obtain ⟨x', rfl⟩ : ∃ x', x = 6 * i + x' := ⟨x - 6 * i, by omega⟩
      by_cases h2 : y < 6 * i
      · rw [e1 y h2, e2] at e
        exact absurd (fr _ (hin x' (by omega))).1 (by rw [e]; exact (j2 y h2).2.1)
      · obtain ⟨y', rfl⟩ : ∃ y', y = 6 * i + y' := ⟨y - 6 * i, by omega⟩
        rw [e2, e2] at e
        rw [nj x' y' (by omega) (by omega) e]
  · by_cases h1 : k < 6 * i
    · rw [e1 k h1]
      obtain ⟨w1, w2, w3, w4, w5⟩ := j2 k h1
      exact ⟨w1, by rw [kp _ w2 w4 w5]; exact w2, w3, w4, w5⟩
    · obtain ⟨k', rfl⟩ : ∃ k', k = 6 * i + k' := ⟨k - 6 * i, by omega⟩
      rw [e2]
      have t := fr _ (hin k' (by omega))
      have u := fr0 _ t.1
      exact ⟨u.1, t.2, u.2⟩
  · have t := j3 b hb1 hb2
    exact (kp b (by rw [t]; exact hb2) (fun z => hb2 (z ▸ m1)) (fun z => hb2 (z ▸ m2))).trans t
  · by_cases z : j = i
    · rw [z, va_up_self, c0]
    · rw [va_up_ne _ _ z, jf j (by omega), e1 _ (by omega)]
  · by_cases z : j = i
    · rw [z, va_up_self, c2]
    · rw [va_up_ne _ _ z, jg j (by omega), e1 _ (by omega)]
  · by_cases z : j = i
    · rw [z]
      unfold mh_Sl
      rw [c0, c1, c2, c3, c4, c5]
      have x1n : q1 ≠ ap := (fr0 q1 (fr q1 (by rw [ebl]; simp)).1).2.2.2
      have x2n : a1 ≠ ap := (fr0 a1 (fr a1 (by rw [ebl]; simp)).1).2.2.2
      exact ⟨⟨_, mh_co0 ((kp6 q1 (by rw [x2]; exact fun z => by cases z) x1n).trans x2) ((kp6 a1 (by rw [x3]; exact fun z => by cases z) x2n).trans x3)⟩, ⟨_, _, mh_pu0 y2 y3 y4 y5⟩⟩
    · refine ((j8 j (by omega)).fn (ad' := bf') (fun k hk => e1 _ (by omega))).keep (fun k hk => ?_)
      rw [e1 _ (by omega)]
      obtain ⟨w1, w2, w3, w4, w5⟩ := j2 (6 * j + k) (by omega)
      exact kp _ w2 w4 w5
theorem mh_J.fin {h0 h : mh_H} {o am ap : Nat} {bf : Nat → Nat} (J : mh_J h0 o am ap 168 bf h) : mh_Bk h0 o h 0 1008 := by
  obtain ⟨j1, j2, j3, ⟨m1, m2, m3, m4, m5⟩, j5, ⟨f, f0, jf⟩, ⟨g, g0, jg⟩, j8⟩ := J
  have no : h o ≠ none := by rw [j5]; exact fun z => by cases z
  obtain ⟨bf2, c1, c2, c3, c4⟩ : ∃ bf2 : Nat → Nat, (∀ k, k < 1008 → bf2 k = bf k) ∧ bf2 1008 = o ∧ bf2 1009 = am ∧ bf2 1010 = ap := ⟨fun k => if k < 1008 then bf k else if k = 1008 then o else if k = 1009 then am else ap, fun k hk => if_pos hk, rfl, rfl, rfl⟩
  have j1 : mh_Inj bf 1008 := j1
  have j2 : ∀ k, k < 1008 → h0 (bf k) = none ∧ h (bf k) ≠ none ∧ bf k ≠ o ∧ bf k ≠ am ∧ bf k ≠ ap := j2
  refine ⟨bf2, ?_, c2, ?_, j3, ?_⟩
  · show mh_Inj bf2 1011
    intro x y hx hy e
    rcases (show x < 1008 ∨ x = 1008 ∨ x = 1009 ∨ x = 1010 by omega) with q | q | q | q <;> rcases (show y < 1008 ∨ y = 1008 ∨ y = 1009 ∨ y = 1010 by omega) with r | r | r | r
    · rw [c1 x q, c1 y r] at e; exact j1 x y q r e
    · rw [c1 x q, r, c2] at e; exact absurd e (j2 x q).2.2.1
    · rw [c1 x q, r, c3] at e; exact absurd e (j2 x q).2.2.2.1
    · rw [c1 x q, r, c4] at e; exact absurd e (j2 x q).2.2.2.2
    · rw [c1 y r, q, c2] at e; exact absurd e.symm (j2 y r).2.2.1
    · rw [q, r]
    · rw [q, r, c2, c3] at e; exact absurd e.symm m4
    · rw [q, r, c2, c4] at e; exact absurd e.symm m5
    · rw [c1 y r, q, c3] at e; exact absurd e.symm (j2 y r).2.2.2.1
    · rw [q, r, c2, c3] at e; exact absurd e m4
    · rw [q, r]
    · rw [q, r, c3, c4] at e; exact absurd e m3
    · rw [c1 y r, q, c4] at e; exact absurd e.symm (j2 y r).2.2.2.2
    · rw [q, r, c2, c4] at e; exact absurd e m5
    · rw [q, r, c3, c4] at e; exact absurd e.symm m3
    · rw [q, r]
  · intro i hi
    have hi : i < 1011 := hi
    rcases (show i < 1008 ∨ i = 1008 ∨ i = 1009 ∨ i = 1010 by omega) with q | q | q | q
    · rw [c1 i q]; exact ⟨Or.inr (j2 i q).1, (j2 i q).2.1⟩
    · rw [q, c2]; exact ⟨Or.inl rfl, no⟩
    · rw [q, c3]; exact ⟨Or.inr m1, by rw [f0]; exact fun z => by cases z⟩
    · rw [q, c4]; exact ⟨Or.inr m2, by rw [g0]; exact fun z => by cases z⟩
  · intro ad H
    have H : ∀ i, i < 1011 → ad i = bf2 i := fun i hi => by
      have t : ad (0 + i) = bf2 i := H i hi
      rwa [Nat.zero_add] at t
    have d1 : ad 1008 = o := (H 1008 (by omega)).trans c2
    have d2 : ad 1009 = am := (H 1009 (by omega)).trans c3
    have d3 : ad 1010 = ap := (H 1010 (by omega)).trans c4
    have d0 : ∀ k, k < 1008 → ad k = bf k := fun k hk => (H k (by omega)).trans (c1 k hk)
    refine ⟨_, (mh_Kin.rfl.up (g := fun j => some (ad (6 * j))) f0 (fun j hj => by rw [jf j hj, d0 _ (by omega)])).up (g := fun j => some (ad (6 * j + 2))) g0 (fun j hj => by rw [jg j hj, d0 _ (by omega)]), ⟨⟨?_, ?_, ?_, by decide, by decide, by decide⟩, fun j hj => ⟨?_, mh_ms_nil, mh_pz0⟩⟩⟩
    · rw [d1, d2, d3, mh_up_ne (fun z => m5 z.symm), mh_up_ne (fun z => m4 z.symm)]
      exact j5
    · rw [d2, mh_up_ne m3]
      exact mh_up_eq _ _ _
    · rw [d3]
      exact mh_up_eq _ _ _
    · refine Eq.mp ?_ (((j8 j hj).fn (ad' := ad) (fun k hk => d0 _ (by omega))).keep (h' := mh_up (mh_up h am (.inl (3, 168, .inr (.inr (.inr (.inr (fun j => some (ad (6 * j))))))))) ap (.inl (4, 168, .inr (.inr (.inr (.inr (fun j => some (ad (6 * j + 2))))))))) (fun k hk => ?_))
      · rfl
      · obtain ⟨w1, w2, w3, w4, w5⟩ := j2 (6 * j + k) (by omega)
        rw [d0 _ (by omega), mh_up_ne w5, mh_up_ne w4]
section MhHl
variable {p : Program} {l : Launch} {e : Env} {s : State} {m : MethodId} {args : Array Value} {below : List Frame} {meth : Method} {c : Code} {D : va_G} {ks : Nat → ClassId}
set_option maxRecDepth 100000 in
set_option maxHeartbeats 4000000 in
theorem mh_x3loop {L0 : List Nat} (ao : mh_AO s) (cx : mh_C p m c cX3_init 2 s args RX3 meth D ks (mh_A L0 s.heap.size)) (hr : meth.sig.returnType = none) {h0 : mh_H} {o am ap : Nat} : ∀ (n i : Nat) {bf : Nat → Nat} {h : mh_H} {L : List Nat} {H : Heap} {locs : List Loc} {ls : Array Slot} {cells slots : Nat}, i + n = 168 → cells + 6 * n ≤ 1010 → slots + 42 * n ≤ 7392 → mh_J h0 o am ap i bf h → mh_W D ks L (mh_A L0 s.heap.size) s.heap h H locs → lv_has ls 2 [(0, .ref o), (1, .int (nI i))] → W p l e (mh_rn 3 1010 7392) s m args below meth c H locs cells slots (MQ below (mh_Qn D ks L0 s.heap.size (fun h' => mh_Bk h0 o h' 0 1008)) args s 1010 7392 (mh_A L0 s.heap.size)) (F0 m 41 ls []) := by
  have hx := cx.1.1
  have hb := cx.1.2.1
  intro n
  induction n with
  | zero =>
    intro i bf h L H locs ls cells slots h1 h2 h3 J wd hl
    obtain rfl : i = 168 := by omega
    refine lv_iload_n hx hb dX3_init_41 rfl (lv_at hl 1 rfl) ?_
    refine lv_sipush (v := 168) hx hb dX3_init_42 (by decide) ?_
    refine lv_icmp_ge (tgt := 80) hx hb dX3_init_45 rfl (fun _ => ?_) (fun hc => absurd (by decide) hc)
    exact mh_cret cx wd hr J.fin dX3_init_80 ⟨by omega, by omega⟩
  | succ n ih =>
    intro i bf h L H locs ls cells slots h1 h2 h3 J wd hl
    have hi : i < 168 := by omega
    have J' := J
    obtain ⟨-, -, -, ⟨-, -, m3, m4, m5⟩, j5, ⟨f, f0, -⟩, ⟨g, g0, -⟩, -⟩ := J'
    have nam : h am ≠ none := by rw [f0]; exact fun z => by cases z
    refine lv_iload_n hx hb dX3_init_41 rfl (lv_at hl 1 rfl) ?_
    refine lv_sipush (v := 168) hx hb dX3_init_42 (by decide) ?_
    refine lv_icmp_ge (tgt := 80) hx hb dX3_init_45 rfl (fun hc => absurd ((mh_lel (a := 168) 168 rfl (by omega) (by omega)).mp hc) (by omega)) (fun _ => ?_)
    refine lv_aload_n hx hb dX3_init_48 rfl (lv_at hl 0 rfl) ?_
    refine mh_getR (f := some) (Rz := am) cx wd fl_X3_13 dX3_init_49 (by rw [mh_gR_eq (k := 0) j5 rfl]; rfl) (fun v hv => ?_)
    cases hv
    refine lv_iload_n hx hb dX3_init_52 rfl (lv_at hl 1 rfl) ?_
    refine mh_new cx wd (C := RX1) (T := TX1) (N := 2) (ci := 1) tyX1 [.null, .int 0] rfl uw_X1 tyX1_ok (mh_in 95 (by decide +kernel) (by decide +kernel)) (mh_in 99 (by decide +kernel) (by decide +kernel)) (mh_in 63 (by decide +kernel) (by decide +kernel)) (fun j hj => by rcases (show j = 0 ∨ j = 1 by omega) with rfl | rfl <;> rfl) (show cells + 1 ≤ 1010 by omega) (show slots + 2 ≤ 7392 by omega) dX3_init_53 (fun q1 L H e2 wd => ?_)
    obtain ⟨h1', eh1⟩ : ∃ x, x = mh_up h q1 (.inr (1, [.null, .int 0])) := ⟨_, rfl⟩
    rw [← eh1] at wd
    have R1 : mh_Rg h am h1' [q1] := by rw [eh1]; exact (mh_Rg.nil nam).add e2
    have n1 : q1 ≠ am := fun z => nam (z ▸ e2)
    have am1 : h1' am = some (mh_Nq 3 f) := by rw [eh1, mh_up_ne (fun z => n1 z.symm)]; exact f0
    have x1 : h1' q1 = some (.inr (1, [.null, .int 0])) := by rw [eh1]; exact mh_up_eq _ _ _
    refine lv_dup hx hb dX3_init_56 rfl ?_
    refine mh_callC (host := "MintHouse") cx ao wd yw_X1_init rfl (mh_nin 100 (by decide +kernel) (by decide +kernel)) (mh_in 101 (by decide +kernel) (by decide +kernel)) hl.1 (Nat.le_of_ble_eq_true rfl) dX3_init_57 ⟨Nat.le_of_ble_eq_true rfl, Nat.le_of_ble_eq_true rfl⟩ ⟨show cells + 1 + 1 ≤ 1010 by omega, show slots + 2 + 12 ≤ 7392 by omega⟩ (c_X1_inq x1) (fun L h2' H locs hp2 wd => ?_)
    obtain ⟨a1, S2, x2, x3⟩ := hp2
    have R2 : mh_Rg h am h2' [q1, a1] := R1.call (q := q1) (by simp) S2
    have am2 : h2' am = some (mh_Nq 3 f) := (S2.kept (fun z => n1 z.symm) (by rw [am1]; exact fun z => by cases z)).trans am1
    refine mh_aast cx wd 3 (r := (RX1, TX1, 2)) (ci := 1) rfl rfl am2 x2 (nI_in hi (by omega)) dX3_init_60 (fun H locs wd => ?_)
    rw [nI_clamp (by omega)] at wd
    obtain ⟨h3', eh3⟩ : ∃ x, x = mh_up h2' am (mh_Nq 3 (va_up f i (some q1))) := ⟨_, rfl⟩
    rw [← eh3] at wd
    have R3 : mh_Rg h am h3' [q1, a1] := by rw [eh3]; exact R2.set
    have am3 : h3' am = some (mh_Nq 3 (va_up f i (some q1))) := by rw [eh3]; exact mh_up_eq _ _ _
    have x4 : h3' q1 = some (.inr (1, [.ref a1, .int 0])) := by rw [eh3, mh_up_ne n1]; exact x2
    have x5 : h3' a1 = some (mh_Ni 12) := by rw [eh3, mh_up_ne (mh_apt x3 am2 (fun z => by cases z))]; exact x3
    have kp3 : ∀ x, h x ≠ none → x ≠ am → h3' x = h x := fun x hx hz => R3.kept hz hx
    have o3 : h3' o = some (.inr (3, [.ref am, .ref ap, .int 0, .int 0, .int 0])) := (kp3 o (by rw [j5]; exact fun z => by cases z) (fun z => m4 z.symm)).trans j5
    have ap3 : h3' ap = some (mh_Nq 4 g) := (kp3 ap (by rw [g0]; exact fun z => by cases z) (fun z => m3 z.symm)).trans g0
    have nap : h3' ap ≠ none := by rw [ap3]; exact fun z => by cases z
    refine lv_aload_n hx hb dX3_init_61 rfl (lv_at hl 0 rfl) ?_
    refine mh_getR (f := some) (Rz := ap) cx wd fl_X3_19 dX3_init_62 (by rw [mh_gR_eq (k := 1) o3 rfl]; rfl) (fun v hv => ?_)
    cases hv
    refine lv_iload_n hx hb dX3_init_65 rfl (lv_at hl 1 rfl) ?_
    refine mh_new cx wd (C := RX7) (T := TX7) (N := 2) (ci := 7) tyX7 [.null, .null] rfl uw_X7 tyX7_ok (mh_in 97 (by decide +kernel) (by decide +kernel)) (mh_in 112 (by decide +kernel) (by decide +kernel)) (mh_in 64 (by decide +kernel) (by decide +kernel)) (fun j hj => by rcases (show j = 0 ∨ j = 1 by omega) with rfl | rfl <;> rfl) (show cells + 1 + 1 + 1 ≤ 1010 by omega) (show slots + 2 + 12 + 2 ≤ 7392 by omega) dX3_init_66 (fun q2 L H e5 wd => ?_)
    obtain ⟨h4', eh4⟩ : ∃ x, x = mh_up h3' q2 (.inr (7, [.null, .null])) := ⟨_, rfl⟩
    rw [← eh4] at wd
    have R4 : mh_Rg h3' ap h4' [q2] := by rw [eh4]; exact (mh_Rg.nil nap).add e5
    have n2 : q2 ≠ ap := fun z => nap (z ▸ e5)
    have ap4 : h4' ap = some (mh_Nq 4 g) := by rw [eh4, mh_up_ne (fun z => n2 z.symm)]; exact ap3
    have y1 : h4' q2 = some (.inr (7, [.null, .null])) := by rw [eh4]; exact mh_up_eq _ _ _
    refine lv_dup hx hb dX3_init_69 rfl ?_
    refine mh_callC (host := "MintHouse") cx ao wd yw_X7_init rfl (mh_nin 113 (by decide +kernel) (by decide +kernel)) (mh_in 114 (by decide +kernel) (by decide +kernel)) hl.1 (Nat.le_of_ble_eq_true rfl) dX3_init_70 ⟨Nat.le_of_ble_eq_true rfl, Nat.le_of_ble_eq_true rfl⟩ ⟨show cells + 1 + 1 + 1 + 3 ≤ 1010 by omega, show slots + 2 + 12 + 2 + 26 ≤ 7392 by omega⟩ (c_X7_init y1) (fun L h5' H locs hp5 wd => ?_)
    obtain ⟨b0, b1, b2, S5, y2, y3, y4, y5⟩ := hp5
    have R5 : mh_Rg h3' ap h5' [q2, b0, b1, b2] := R4.call (q := q2) (by simp) S5
    have ap5 : h5' ap = some (mh_Nq 4 g) := (S5.kept (fun z => n2 z.symm) (by rw [ap4]; exact fun z => by cases z)).trans ap4
    refine mh_aast cx wd 4 (r := (RX7, TX7, 2)) (ci := 7) rfl rfl ap5 y2 (nI_in hi (by omega)) dX3_init_73 (fun H locs wd => ?_)
    rw [nI_clamp (by omega)] at wd
    obtain ⟨h6', eh6⟩ : ∃ x, x = mh_up h5' ap (mh_Nq 4 (va_up g i (some q2))) := ⟨_, rfl⟩
    rw [← eh6] at wd
    have R6 : mh_Rg h3' ap h6' [q2, b0, b1, b2] := by rw [eh6]; exact R5.set
    have ap6 : h6' ap = some (mh_Nq 4 (va_up g i (some q2))) := by rw [eh6]; exact mh_up_eq _ _ _
    have z2 : h6' q2 = some (.inr (7, [.ref b0, .ref b2])) := by rw [eh6, mh_up_ne n2]; exact y2
    have z3 : h6' b0 = some (.inr (1, [.ref b1, .int 0])) := by rw [eh6, mh_up_ne (mh_apt y3 ap5 (fun z => by cases z))]; exact y3
    have z4 : h6' b1 = some (mh_Ni 12) := by rw [eh6, mh_up_ne (mh_apt y4 ap5 (fun z => by cases z))]; exact y4
    have z5 : h6' b2 = some (mh_Ni 12) := by rw [eh6, mh_up_ne (mh_apt y5 ap5 (fun z => by cases z))]; exact y5
    obtain ⟨bf', J2⟩ := J.turn f0 g0 R3 am3 x4 x5 R6 ap6 z2 z3 z4 z5
    refine lv_iinc (k := 1) (v := nI (i + 1)) (lv' := [(1, .int (nI (i + 1))), (0, .ref o)]) hx hb dX3_init_74 hl rfl (by rw [show Int32.ofInt 1 = nI 1 from rfl, nI_add]) (Nat.le_of_ble_eq_true rfl) rfl (fun ls hl => ?_)
    refine lv_goto (tgt := 41) hx hb dX3_init_77 rfl ?_
    exact ih (i + 1) (by omega) (by omega) (by omega) J2 wd (lv_sub hl [1, 0] rfl)
end MhHl
set_option maxRecDepth 100000 in
set_option maxHeartbeats 4000000 in
theorem c_X3_init {l : Launch} {L0 : List Nat} {h : mh_H} {o : Nat} (ho : h o = some (.inr (3, [.null, .null, .int 0, .int 0, .int 0]))) : mh_Mc l yX3_init (Cond.code yX3_init cX3_init 2 none :: mh_TB) (mh_rn 3 1010 7392) o L0 h (fun h' => mh_Bk h o h' 0 1008) 1010 7392 := by
  refine mh_ofC (by decide) rfl (Nat.le_of_ble_eq_true rfl) (fun p e s m below meth c D ks ls hr hin ao cx wd hl => ?_)
  have hx := cx.1.1
  have hb := cx.1.2.1
  have no : h o ≠ none := by rw [ho]; exact fun z => by cases z
  have R0 : mh_Rg h o h [] := mh_Rg.nil no
  refine lv_aload_n hx hb dX3_init_0 rfl (lv_at hl 0 rfl) ?_
  refine mh_obj cx (mh_in 94 (by decide +kernel) (by decide +kernel)) wo_inst wo_code hl.1 dX3_init_1 ⟨Nat.le_of_ble_eq_true rfl, Nat.le_of_ble_eq_true rfl⟩ ?_
  refine lv_aload_n hx hb dX3_init_4 rfl (lv_at hl 0 rfl) ?_
  refine lv_sipush (v := 168) hx hb dX3_init_5 (by decide) ?_
  refine mh_nwq (C := RX1) (N' := 168) cx wd 3 rfl ao.1 (mh_in 95 (by decide +kernel) (by decide +kernel)) (by decide) rfl (by decide) (Nat.le_of_ble_eq_true rfl) (Nat.le_of_ble_eq_true rfl) dX3_init_8 (fun am L H e1 wd => ?_)
  obtain ⟨h1, eh1⟩ : ∃ x, x = mh_up h am (mh_Nq 3 (fun _ => none)) := ⟨_, rfl⟩
  rw [← eh1] at wd
  have R1 : mh_Rg h o h1 ([am]) := by rw [eh1]; exact R0.add e1
  have n1 : am ≠ o := fun z => no (z ▸ e1)
  have o1 : h1 o = some (.inr (3, [.null, .null, .int 0, .int 0, .int 0])) := by rw [eh1, mh_up_ne (fun z => n1 z.symm)]; exact ho
  have f1 : h1 am = some (mh_Nq 3 (fun _ => none)) := by rw [eh1]; exact mh_up_eq _ _ _
  refine mh_putF cx wd hin (ci := 3) (k := 0) (C := RX3) (T := TX3) (N := 5) (ty0 := tyX3) (ty := (.array (.object RX1))) o1 rfl (by decide) uw_X3 (mh_in 126 (by decide +kernel) (by decide +kernel)) tyX3_ok nmX3 rfl rfl (by decide +kernel) rfl rfl (Nat.le_of_ble_eq_true rfl) dX3_init_11 (fun H locs wd => ?_)
  obtain ⟨h2, eh2⟩ : ∃ x, x = mh_up h1 o (.inr (3, [.ref am, .null, .int 0, .int 0, .int 0])) := ⟨_, rfl⟩
  have wd : mh_W D ks L (mh_A L0 s.heap.size) s.heap h2 H locs := by rw [eh2]; exact wd
  have R2 : mh_Rg h o h2 [am] := by rw [eh2]; exact R1.set
  have o2 : h2 o = some (.inr (3, [.ref am, .null, .int 0, .int 0, .int 0])) := by rw [eh2]; exact mh_up_eq _ _ _
  have f2 : h2 am = some (mh_Nq 3 (fun _ => none)) := by rw [eh2, mh_up_ne n1]; exact f1
  refine lv_aload_n hx hb dX3_init_14 rfl (lv_at hl 0 rfl) ?_
  refine lv_sipush (v := 168) hx hb dX3_init_15 (by decide) ?_
  refine mh_nwq (C := RX7) (N' := 168) cx wd 4 rfl ao.2.1 (mh_in 97 (by decide +kernel) (by decide +kernel)) (by decide) rfl (by decide) (Nat.le_of_ble_eq_true rfl) (Nat.le_of_ble_eq_true rfl) dX3_init_18 (fun ap L H e3 wd => ?_)
  obtain ⟨h3, eh3⟩ : ∃ x, x = mh_up h2 ap (mh_Nq 4 (fun _ => none)) := ⟨_, rfl⟩
  rw [← eh3] at wd
  have R3 : mh_Rg h o h3 ([am, ap]) := by rw [eh3]; exact R2.add e3
  have n3 : ap ≠ o := fun z => by rw [z, o2] at e3; cases e3
  have n4 : am ≠ ap := fun z => by rw [← z, f2] at e3; cases e3
  have o3 : h3 o = some (.inr (3, [.ref am, .null, .int 0, .int 0, .int 0])) := by rw [eh3, mh_up_ne (fun z => n3 z.symm)]; exact o2
  have f3 : h3 am = some (mh_Nq 3 (fun _ => none)) := by rw [eh3, mh_up_ne n4]; exact f2
  have g3 : h3 ap = some (mh_Nq 4 (fun _ => none)) := by rw [eh3]; exact mh_up_eq _ _ _
  refine mh_putF cx wd hin (ci := 3) (k := 1) (C := RX3) (T := TX3) (N := 5) (ty0 := tyX3) (ty := (.array (.object RX7))) o3 rfl (by decide) uw_X3 (mh_in 127 (by decide +kernel) (by decide +kernel)) tyX3_ok nmX3 rfl rfl (by decide +kernel) rfl rfl (Nat.le_of_ble_eq_true rfl) dX3_init_21 (fun H locs wd => ?_)
  obtain ⟨h4, eh4⟩ : ∃ x, x = mh_up h3 o (.inr (3, [.ref am, .ref ap, .int 0, .int 0, .int 0])) := ⟨_, rfl⟩
  have wd : mh_W D ks L (mh_A L0 s.heap.size) s.heap h4 H locs := by rw [eh4]; exact wd
  have R4 : mh_Rg h o h4 [am, ap] := by rw [eh4]; exact R3.set
  have o4 : h4 o = some (.inr (3, [.ref am, .ref ap, .int 0, .int 0, .int 0])) := by rw [eh4]; exact mh_up_eq _ _ _
  have f4 : h4 am = some (mh_Nq 3 (fun _ => none)) := by rw [eh4, mh_up_ne n1]; exact f3
  have g4 : h4 ap = some (mh_Nq 4 (fun _ => none)) := by rw [eh4, mh_up_ne n3]; exact g3
  have same : mh_up h4 o (.inr (3, [.ref am, .ref ap, .int 0, .int 0, .int 0])) = h4 := by
    funext b
    by_cases z : b = o
    · rw [z, mh_up_eq, o4]
    · rw [mh_up_ne z]
  refine lv_aload_n hx hb dX3_init_24 rfl (lv_at hl 0 rfl) ?_
  refine lv_iconst (v := 0) hx hb dX3_init_25 (by decide) ?_
  refine mh_putN (k := 2) cx wd o4 (Nat.le_of_ble_eq_true rfl) fp_X3_23 dX3_init_26 (fun H locs wd => ?_)
  have wd : mh_W D ks L (mh_A L0 s.heap.size) s.heap (mh_up h4 o (.inr (3, [.ref am, .ref ap, .int 0, .int 0, .int 0]))) H locs := wd
  rw [same] at wd
  refine lv_aload_n hx hb dX3_init_29 rfl (lv_at hl 0 rfl) ?_
  refine lv_iconst (v := 0) hx hb dX3_init_30 (by decide) ?_
  refine mh_putN (k := 3) cx wd o4 (Nat.le_of_ble_eq_true rfl) fp_X3_27 dX3_init_31 (fun H locs wd => ?_)
  have wd : mh_W D ks L (mh_A L0 s.heap.size) s.heap (mh_up h4 o (.inr (3, [.ref am, .ref ap, .int 0, .int 0, .int 0]))) H locs := wd
  rw [same] at wd
  refine lv_aload_n hx hb dX3_init_34 rfl (lv_at hl 0 rfl) ?_
  refine lv_iconst (v := 0) hx hb dX3_init_35 (by decide) ?_
  refine mh_putN (k := 4) cx wd o4 (Nat.le_of_ble_eq_true rfl) fp_X3_30 dX3_init_36 (fun H locs wd => ?_)
  have wd : mh_W D ks L (mh_A L0 s.heap.size) s.heap (mh_up h4 o (.inr (3, [.ref am, .ref ap, .int 0, .int 0, .int 0]))) H locs := wd
  rw [same] at wd
  refine lv_iconst (v := 0) hx hb dX3_init_39 (by decide) ?_
  refine lv_istore_n hx hb dX3_init_40 rfl hl (Nat.le_of_ble_eq_true rfl) rfl (fun ls hl => ?_)
  have J : mh_J h o am ap 0 (fun _ => 0) h4 := ⟨fun i j hi => absurd hi (Nat.not_lt_zero _), fun k hk => absurd hk (Nat.not_lt_zero _), fun b b1 b2 => R4.kept b1 b2, ⟨(R4.2.1 am (by simp)).1, (R4.2.1 ap (by simp)).1, n4, n1, n3⟩, o4, ⟨_, f4, fun j hj => absurd hj (Nat.not_lt_zero _)⟩, ⟨_, g4, fun j hj => absurd hj (Nat.not_lt_zero _)⟩, fun j hj => absurd hj (Nat.not_lt_zero _)⟩
  exact mh_x3loop ao cx hr 168 0 rfl (Nat.le_of_ble_eq_true rfl) (Nat.le_of_ble_eq_true rfl) J wd (lv_sub hl [1, 0] rfl)
