/-! the object whole: its cells are ad 0 .. ad 1289 -/
/-- (now, behind, ahead), (mints, purses' coins, how often) by place, cases, hand -/
abbrev mh_Sg : Type := (Nat × Nat × Nat) × ((Nat → List Nat) × (Nat → List Nat) × (Nat → List Nat)) × Nat × Option (List Nat × List Nat)
def mh_lx (h : mh_H) (o k v : Nat) : Prop := ∃ x f, h o = some (.inr (4, [.ref k])) ∧ h k = some (.inr (0, [.ref v, .int x])) ∧ h v = some (.inl (0, 300, .inl f))
def mh_nd (h : mh_H) (o a b k u : Nat) : Prop := ∃ fo fb fk ck, h o = some (mh_Ns a b k) ∧ h a = some (.inl (2, 301, .inl fo)) ∧ h b = some (.inl (2, 301, .inl fb)) ∧ mh_Co h k u fk ck
def mh_pg (h : mh_H) (ad : Nat → Nat) : Prop := ∃ x g fn fl f1 g1 c n, h (ad 1050) = some (.inr (6, [.ref (ad 1051), .ref (ad 1052), .ref (ad 1053), .ref (ad 1054), .int x])) ∧ mh_Oi h (ad 1051) (fun j => ad (1058 + j)) 200 ∧ mh_Ri h (fun j => ad (1058 + j)) 200 12 g ∧ h (ad 1052) = some (.inl (0, 200, .inl fn)) ∧ h (ad 1053) = some (.inl (2, 200, .inl fl)) ∧ mh_Pu h (ad 1054) (ad 1055) (ad 1056) (ad 1057) f1 g1 c n
def mh_hh (hd : Option (List Nat × List Nat)) (c n : List Nat) : Prop := match hd with
  | none => True
  | some (hc, hn) => c = hc ∧ n = hn ∧ mh_ms hc ∧ ∀ i, hn.getD i 0 ≤ 3000
def mh_cA (ad : Nat → Nat) (σ : mh_Sg) (h : mh_H) : Prop := mh_Hi h (ad 1008) (ad 1009) (ad 1010) (fun j => ad (6 * j)) (fun j => ad (6 * j + 2)) σ.1.1 σ.1.2.1 σ.1.2.2 ∧ ∀ j, j < 168 → mh_Sl h ad j (σ.2.1.1 j) (σ.2.1.2.1 j) (σ.2.1.2.2 j) ∧ mh_ms (σ.2.1.1 j) ∧ mh_pz (σ.2.1.2.1 j) (σ.2.1.2.2 j)
def mh_cc (ad : Nat → Nat) (σ : mh_Sg) (i : Nat) (h : mh_H) : Prop := match i with
  | 0 => mh_cA ad σ h
  | 1 => ∃ c, mh_Fe h (ad 1011) (ad 1012) (ad 1013) (ad 1014) (ad 1015) (ad 1016) c
  | 2 => mh_lx h (ad 1017) (ad 1018) (ad 1019)
  | 3 => mh_lx h (ad 1020) (ad 1021) (ad 1022)
  | 4 => mh_lx h (ad 1023) (ad 1024) (ad 1025)
  | 5 => mh_nd h (ad 1026) (ad 1027) (ad 1028) (ad 1029) (ad 1030)
  | 6 => ∃ f c, mh_Co h (ad 1031) (ad 1032) f c
  | 7 => ∃ c, mh_Wy h (ad 1033) (ad 1034) (ad 1035) (ad 1036) (fun j => ad (1037 + j)) c
  | 8 => mh_pg h ad
  | 9 => ∃ b fnd N L rch, mh_Ss h (ad 1258) (ad 1259) (ad 1260) (ad 1261) (ad 1262) (ad 1263) (ad 1264) b fnd N L rch σ.2.2.1 ∧ σ.2.2.1 ≤ 2000
  | 10 => ∃ c n, mh_PT h (ad 1265) (ad 1266) (ad 1267) (ad 1268) (ad 1269) (ad 1270) c n
  | 11 => ∃ c n, mh_PT h (ad 1271) (ad 1272) (ad 1273) (ad 1274) (ad 1275) (ad 1276) c n
  | 12 => ∃ f g c n, mh_Pu h (ad 1277) (ad 1278) (ad 1279) (ad 1280) f g c n
  | 13 => ∃ f g c n, mh_Pu h (ad 1281) (ad 1282) (ad 1283) (ad 1284) f g c n
  | 14 => ∃ f g c n, mh_Pu h (ad 1285) (ad 1286) (ad 1287) (ad 1288) f g c n ∧ mh_hh σ.2.2.2 c n
  | 15 => h (ad 1289) = some (.inr (11, [.ref (ad 1008), .ref (ad 1011), .ref (ad 1017), .ref (ad 1020), .ref (ad 1023), .ref (ad 1026), .ref (ad 1031), .ref (ad 1033), .ref (ad 1050), .ref (ad 1258), .ref (ad 1265), .ref (ad 1271), .ref (ad 1277), .ref (ad 1281), .ref (ad 1285), .int (mh_bz σ.2.2.2.isSome)]))
  | _ => True
def mh_rg (i : Nat) : Nat := match i with
  | 0 => 0
  | 1 => 1011
  | 2 => 1017
  | 3 => 1020
  | 4 => 1023
  | 5 => 1026
  | 6 => 1031
  | 7 => 1033
  | 8 => 1050
  | 9 => 1258
  | 10 => 1265
  | 11 => 1271
  | 12 => 1277
  | 13 => 1281
  | 14 => 1285
  | 15 => 1289
  | _ => 1290
theorem mh_Fe.keep {h h' : mh_H} {o a u t k v : Nat} {cs : List Nat} (hF : mh_Fe h o a u t k v cs) (e0 : h' o = h o) (e1 : h' a = h a) (e2 : h' u = h u) (e3 : h' t = h t) (e4 : h' k = h k) (e5 : h' v = h v) : mh_Fe h' o a u t k v cs := by
  obtain ⟨fc, ft, fv, x, tn, kn, r1, r2, r3, r4, r5, r6, r7, r8, r9⟩ := hF
  refine ⟨fc, ft, fv, x, tn, kn, e0.trans r1, r2.keep e1 e2, e3.trans r3, e4.trans r4, e5.trans r5, r6, r7, r8, ?_⟩
  rcases r9 with r9 | ⟨r9, r10⟩
  · exact Or.inl r9
  · refine Or.inr ⟨r9, fun hne => ?_⟩
    obtain ⟨w, w1, w2⟩ := r10 hne
    exact ⟨w, w1.keep e4 e5, w2⟩
theorem mh_Ss.keep {h h' : mh_H} {o bo bu fo fu nv lv : Nat} {b fnd : List Nat} {N L : Nat → Nat} {rch lk : Nat} (hS : mh_Ss h o bo bu fo fu nv lv b fnd N L rch lk) (e0 : h' o = h o) (e1 : h' bo = h bo) (e2 : h' bu = h bu) (e3 : h' fo = h fo) (e4 : h' fu = h fu) (e5 : h' nv = h nv) (e6 : h' lv = h lv) : mh_Ss h' o bo bu fo fu nv lv b fnd N L rch lk := by
  obtain ⟨s1, ⟨fb, s2⟩, ⟨ff, s3⟩, fn, fl, s4, s5, s6⟩ := hS
  exact ⟨e0.trans s1, ⟨fb, s2.keep e1 e2⟩, ⟨ff, s3.keep e3 e4⟩, fn, fl, e5.trans s4, e6.trans s5, s6⟩
theorem mh_cc_keep {h h' : mh_H} {ad : Nat → Nat} {σ : mh_Sg} {i : Nat} (hi : i < 16) (hk : ∀ k, mh_rg i ≤ k → k < mh_rg (i + 1) → h' (ad k) = h (ad k)) (hc : mh_cc ad σ i h) : mh_cc ad σ i h' := by
  obtain rfl | rfl | rfl | rfl | rfl | rfl | rfl | rfl | rfl | rfl | rfl | rfl | rfl | rfl | rfl | rfl : i = 0 ∨ i = 1 ∨ i = 2 ∨ i = 3 ∨ i = 4 ∨ i = 5 ∨ i = 6 ∨ i = 7 ∨ i = 8 ∨ i = 9 ∨ i = 10 ∨ i = 11 ∨ i = 12 ∨ i = 13 ∨ i = 14 ∨ i = 15 := by omega
  · have hk : ∀ k, 0 ≤ k → k < 1011 → h' (ad k) = h (ad k) := hk
    obtain ⟨h1, h2⟩ := hc
    exact ⟨h1.keep (hk 1008 (by omega) (by omega)) (hk 1009 (by omega) (by omega)) (hk 1010 (by omega) (by omega)), fun j hj => ⟨(h2 j hj).1.keep (fun q hq => hk _ (by omega) (by omega)), (h2 j hj).2⟩⟩
  · have hk : ∀ k, 1011 ≤ k → k < 1017 → h' (ad k) = h (ad k) := hk
    obtain ⟨c, h1⟩ := hc
    exact ⟨c, h1.keep (hk _ (by omega) (by omega)) (hk _ (by omega) (by omega)) (hk _ (by omega) (by omega)) (hk _ (by omega) (by omega)) (hk _ (by omega) (by omega)) (hk _ (by omega) (by omega))⟩
  · have hk : ∀ k, 1017 ≤ k → k < 1020 → h' (ad k) = h (ad k) := hk
    obtain ⟨x, f, h1, h2, h3⟩ := hc
    exact ⟨x, f, (hk _ (by omega) (by omega)).trans h1, (hk _ (by omega) (by omega)).trans h2, (hk _ (by omega) (by omega)).trans h3⟩
  · have hk : ∀ k, 1020 ≤ k → k < 1023 → h' (ad k) = h (ad k) := hk
    obtain ⟨x, f, h1, h2, h3⟩ := hc
    exact ⟨x, f, (hk _ (by omega) (by omega)).trans h1, (hk _ (by omega) (by omega)).trans h2, (hk _ (by omega) (by omega)).trans h3⟩
  · have hk : ∀ k, 1023 ≤ k → k < 1026 → h' (ad k) = h (ad k) := hk
    obtain ⟨x, f, h1, h2, h3⟩ := hc
    exact ⟨x, f, (hk _ (by omega) (by omega)).trans h1, (hk _ (by omega) (by omega)).trans h2, (hk _ (by omega) (by omega)).trans h3⟩
  · have hk : ∀ k, 1026 ≤ k → k < 1031 → h' (ad k) = h (ad k) := hk
    obtain ⟨fo, fb, fk, ck, h1, h2, h3, h4⟩ := hc
    exact ⟨fo, fb, fk, ck, (hk _ (by omega) (by omega)).trans h1, (hk _ (by omega) (by omega)).trans h2, (hk _ (by omega) (by omega)).trans h3, h4.keep (hk _ (by omega) (by omega)) (hk _ (by omega) (by omega))⟩
  · have hk : ∀ k, 1031 ≤ k → k < 1033 → h' (ad k) = h (ad k) := hk
    obtain ⟨f, c, h1⟩ := hc
    exact ⟨f, c, h1.keep (hk _ (by omega) (by omega)) (hk _ (by omega) (by omega))⟩
  · have hk : ∀ k, 1033 ≤ k → k < 1050 → h' (ad k) = h (ad k) := hk
    obtain ⟨c, h1⟩ := hc
    exact ⟨c, h1.keep (hk _ (by omega) (by omega)) (hk _ (by omega) (by omega)) (hk _ (by omega) (by omega)) (hk _ (by omega) (by omega)) (fun j hj => hk _ (by omega) (by omega))⟩
  · have hk : ∀ k, 1050 ≤ k → k < 1258 → h' (ad k) = h (ad k) := hk
    obtain ⟨x, g, fn, fl, f1, g1, c, n, h1, h2, h3, h4, h5, h6⟩ := hc
    exact ⟨x, g, fn, fl, f1, g1, c, n, (hk _ (by omega) (by omega)).trans h1, (hk _ (by omega) (by omega)).trans h2, fun j hj => (hk _ (by omega) (by omega)).trans (h3 j hj), (hk _ (by omega) (by omega)).trans h4, (hk _ (by omega) (by omega)).trans h5, h6.keep (hk _ (by omega) (by omega)) (hk _ (by omega) (by omega)) (hk _ (by omega) (by omega)) (hk _ (by omega) (by omega))⟩
  · have hk : ∀ k, 1258 ≤ k → k < 1265 → h' (ad k) = h (ad k) := hk
    obtain ⟨b, fnd, N, L, rch, h1, h2⟩ := hc
    exact ⟨b, fnd, N, L, rch, h1.keep (hk _ (by omega) (by omega)) (hk _ (by omega) (by omega)) (hk _ (by omega) (by omega)) (hk _ (by omega) (by omega)) (hk _ (by omega) (by omega)) (hk _ (by omega) (by omega)) (hk _ (by omega) (by omega)), h2⟩
  · have hk : ∀ k, 1265 ≤ k → k < 1271 → h' (ad k) = h (ad k) := hk
    obtain ⟨c, n, h1⟩ := hc
    exact ⟨c, n, h1.keep (hk _ (by omega) (by omega)) (hk _ (by omega) (by omega)) (hk _ (by omega) (by omega)) (hk _ (by omega) (by omega)) (hk _ (by omega) (by omega)) (hk _ (by omega) (by omega))⟩
  · have hk : ∀ k, 1271 ≤ k → k < 1277 → h' (ad k) = h (ad k) := hk
    obtain ⟨c, n, h1⟩ := hc
    exact ⟨c, n, h1.keep (hk _ (by omega) (by omega)) (hk _ (by omega) (by omega)) (hk _ (by omega) (by omega)) (hk _ (by omega) (by omega)) (hk _ (by omega) (by omega)) (hk _ (by omega) (by omega))⟩
  · have hk : ∀ k, 1277 ≤ k → k < 1281 → h' (ad k) = h (ad k) := hk
    obtain ⟨f, g, c, n, h1⟩ := hc
    exact ⟨f, g, c, n, h1.keep (hk _ (by omega) (by omega)) (hk _ (by omega) (by omega)) (hk _ (by omega) (by omega)) (hk _ (by omega) (by omega))⟩
  · have hk : ∀ k, 1281 ≤ k → k < 1285 → h' (ad k) = h (ad k) := hk
    obtain ⟨f, g, c, n, h1⟩ := hc
    exact ⟨f, g, c, n, h1.keep (hk _ (by omega) (by omega)) (hk _ (by omega) (by omega)) (hk _ (by omega) (by omega)) (hk _ (by omega) (by omega))⟩
  · have hk : ∀ k, 1285 ≤ k → k < 1289 → h' (ad k) = h (ad k) := hk
    obtain ⟨f, g, c, n, h1, h2⟩ := hc
    exact ⟨f, g, c, n, h1.keep (hk _ (by omega) (by omega)) (hk _ (by omega) (by omega)) (hk _ (by omega) (by omega)) (hk _ (by omega) (by omega)), h2⟩
  · have hk : ∀ k, 1289 ≤ k → k < 1290 → h' (ad k) = h (ad k) := hk
    exact (hk _ (by omega) (by omega)).trans hc
def mh_CI (h : mh_H) (ad : Nat → Nat) (σ : mh_Sg) : Prop := mh_Inj ad 1290 ∧ ∀ i, i < 16 → mh_cc ad σ i h
/-- nothing but the object's cells has changed -/
def mh_frC (ad : Nat → Nat) (h h' : mh_H) : Prop := ∀ b, (∀ k, k < 1290 → b ≠ ad k) → h' b = h b
theorem mh_frC.rfl {ad : Nat → Nat} {h : mh_H} : mh_frC ad h h := fun _ _ => Eq.refl _
theorem mh_frC.trans {ad : Nat → Nat} {h h' h'' : mh_H} (a : mh_frC ad h h') (b : mh_frC ad h' h'') : mh_frC ad h h'' := fun x hx => (b x hx).trans (a x hx)
def mh_fR (ad : Nat → Nat) (lo hi : Nat) (h h' : mh_H) : Prop := ∀ b, (∀ k, lo ≤ k → k < hi → b ≠ ad k) → h' b = h b
theorem mh_fr.rg {ad : Nat → Nat} {lo hi : Nat} {S : List Nat} {h h' : mh_H} (hf : mh_fr S h h') (hS : ∀ x, x ∈ S → ∃ k, lo ≤ k ∧ k < hi ∧ x = ad k) : mh_fR ad lo hi h h' := fun b hb => hf b (fun q => by
  obtain ⟨k, k1, k2, k3⟩ := hS b q
  exact hb k k1 k2 k3)
theorem mh_fR.C {ad : Nat → Nat} {lo hi : Nat} {h h' : mh_H} (hf : mh_fR ad lo hi h h') (hh : hi ≤ 1290) : mh_frC ad h h' := fun b hb => hf b (fun k _ k2 => hb k (by omega))
theorem mh_rg_le {i : Nat} (hi : i < 16) : mh_rg i < mh_rg (i + 1) ∧ mh_rg (i + 1) ≤ 1290 := by
  obtain rfl | rfl | rfl | rfl | rfl | rfl | rfl | rfl | rfl | rfl | rfl | rfl | rfl | rfl | rfl | rfl : i = 0 ∨ i = 1 ∨ i = 2 ∨ i = 3 ∨ i = 4 ∨ i = 5 ∨ i = 6 ∨ i = 7 ∨ i = 8 ∨ i = 9 ∨ i = 10 ∨ i = 11 ∨ i = 12 ∨ i = 13 ∨ i = 14 ∨ i = 15 := by omega
  all_goals exact ⟨by decide, by decide⟩
theorem mh_rg_mono : ∀ (d i : Nat), i + d ≤ 16 → mh_rg i ≤ mh_rg (i + d) := by
  intro d
  induction d with
  | zero => intro i _; exact Nat.le_refl _
  | succ d ih =>
    intro i h
    have := ih i (by omega)
    have := (mh_rg_le (show i + d < 16 by omega)).1
    rw [← Nat.add_assoc]
    omega
theorem mh_CI.upd {h h' : mh_H} {ad : Nat → Nat} {σ σ' : mh_Sg} (hC : mh_CI h ad σ) (i : Nat) (hi : i < 16) (hf : mh_fR ad (mh_rg i) (mh_rg (i + 1)) h h') (hn : mh_cc ad σ' i h') (hs : ∀ j, j < 16 → j ≠ i → mh_cc ad σ j h → mh_cc ad σ' j h) : mh_CI h' ad σ' ∧ mh_frC ad h h' := by
  refine ⟨⟨hC.1, fun j hj => ?_⟩, hf.C (mh_rg_le hi).2⟩
  by_cases e : j = i
  · rw [e]; exact hn
  · refine mh_cc_keep hj (fun k k1 k2 => hf _ (fun m m1 m2 => hC.1.ne ?_ ?_ ?_)) (hs j hj e (hC.2 j hj))
    · have := (mh_rg_le hj).2; omega
    · have := (mh_rg_le hi).2; omega
    · intro q
      subst q
      rcases Nat.lt_or_gt_of_ne e with q | q
      · have := mh_rg_mono (i - (j + 1)) (j + 1) (by omega)
        rw [show j + 1 + (i - (j + 1)) = i by omega] at this
        omega
      · have := mh_rg_mono (j - (i + 1)) (i + 1) (by omega)
        rw [show i + 1 + (j - (i + 1)) = j by omega] at this
        omega
theorem mh_CI.same {h h' : mh_H} {ad : Nat → Nat} {σ : mh_Sg} (hC : mh_CI h ad σ) (i : Nat) (hi : i < 16) (hf : mh_fR ad (mh_rg i) (mh_rg (i + 1)) h h') (hn : mh_cc ad σ i h') : mh_CI h' ad σ ∧ mh_frC ad h h' := hC.upd i hi hf hn (fun _ _ _ q => q)
theorem mh_bx_r {α β : Type} {o : Option ((Nat ⊕ α) × mh_H)} {f : α → mh_H → Option ((Nat ⊕ β) × mh_H)} {x : α} {h : mh_H} (ho : o = some (.inr x, h)) : mh_bx o f = f x h := by rw [ho]; rfl
theorem mh_bx_l {α β : Type} {o : Option ((Nat ⊕ α) × mh_H)} {f : α → mh_H → Option ((Nat ⊕ β) × mh_H)} {k : Nat} {h : mh_H} (ho : o = some (.inl k, h)) : mh_bx o f = some (.inl k, h) := by rw [ho]; rfl
/-! what several methods share -/
section MhShare
variable {h : mh_H} {ad : Nat → Nat} {σ : mh_Sg}
theorem mh_CI.ob (hC : mh_CI h ad σ) : h (ad 1289) = some (.inr (11, [.ref (ad 1008), .ref (ad 1011), .ref (ad 1017), .ref (ad 1020), .ref (ad 1023), .ref (ad 1026), .ref (ad 1031), .ref (ad 1033), .ref (ad 1050), .ref (ad 1258), .ref (ad 1265), .ref (ad 1271), .ref (ad 1277), .ref (ad 1281), .ref (ad 1285), .int (mh_bz σ.2.2.2.isSome)])) := hC.2 15 (by omega)
theorem mh_CI.A (hC : mh_CI h ad σ) : mh_cA ad σ h := hC.2 0 (by omega)
theorem mh_CI.now (hC : mh_CI h ad σ) : σ.1.1 < 21 := hC.A.1.2.2.2.1
theorem mh_x_isPlace (x : Int32) : (∃ p, p < 8 ∧ x = nI p ∧ f_X11_isPlace_e x h = some (1, h)) ∨ ((∀ p, p < 8 → x ≠ nI p) ∧ f_X11_isPlace_e x h = some (0, h)) := by
  rcases pk_ix x (n := 8) (by omega) with q | q | ⟨p, p1, p2⟩
  · right
    refine ⟨fun p hp e => ?_, ?_⟩
    · rw [e] at q
      exact nI_pos (by omega) q
    · unfold f_X11_isPlace_e
      rw [if_pos q]
      rfl
  · right
    refine ⟨fun p hp e => ?_, ?_⟩
    · rw [e] at q
      have := (nI_leI (by omega) (by omega)).mp q
      omega
    · have n0 : ¬ x < 0 := fun c => by
        have := Int32.lt_of_le_of_lt q c
        exact absurd this (by decide)
      unfold f_X11_isPlace_e
      rw [if_neg n0, if_pos (show (8 : Int32) ≤ x from q)]
      rfl
  · left
    refine ⟨p, p1, p2, ?_⟩
    unfold f_X11_isPlace_e
    rw [p2, if_neg (nI_pos (by omega)), if_neg (fun q => absurd ((mh_lel (a := 8) 8 rfl (by omega) (by omega)).mp q) (by omega))]
    rfl
theorem mh_x_mint (hC : mh_CI h ad σ) {p : Nat} (hp : p < 8) : ∃ f, mh_Co h (ad (6 * (σ.1.1 * 8 + p))) (ad (6 * (σ.1.1 * 8 + p) + 1)) f (σ.2.1.1 (σ.1.1 * 8 + p)) := by
  have hn := hC.now
  exact (hC.A.2 (σ.1.1 * 8 + p) (by omega)).1.1
theorem mh_x_ms (hC : mh_CI h ad σ) {p : Nat} (hp : p < 8) : mh_ms (σ.2.1.1 (σ.1.1 * 8 + p)) := by
  have hn := hC.now
  exact (hC.A.2 (σ.1.1 * 8 + p) (by omega)).2.1
theorem mh_x_mintAt (hC : mh_CI h ad σ) {p : Nat} (hp : p < 8) : f_X11_mintAt_e (ad 1289) (nI p) h = some (.inr (ad (6 * (σ.1.1 * 8 + p))), h) := by
  unfold f_X11_mintAt_e
  rcases mh_x_isPlace (h := h) (nI p) with ⟨q, q1, q2, q3⟩ | ⟨q1, _⟩
  · rw [mh_b2_eq q3, if_neg (by decide), mh_gR_eq (k := 0) hC.ob rfl, Option.bind_some, mh_cal_eq hC.A.1.1, mh_b2_eq (mh_fx3_mint hC.A.1 hp)]
  · exact absurd rfl (q1 p hp)
theorem mh_x_mintNo {x : Int32} (hx : ∀ p, p < 8 → x ≠ nI p) : f_X11_mintAt_e (ad 1289) x h = some (.inl 1, h) := by
  unfold f_X11_mintAt_e
  rcases mh_x_isPlace (h := h) x with ⟨q, q1, q2, q3⟩ | ⟨_, q3⟩
  · exact absurd q2 (hx q q1)
  · rw [mh_b2_eq q3, if_pos rfl]
theorem mh_x_purseAt (hC : mh_CI h ad σ) {p : Nat} (hp : p < 8) : f_X11_purseAt_e (ad 1289) (nI p) h = some (.inr (ad (6 * (σ.1.1 * 8 + p) + 2)), h) := by
  unfold f_X11_purseAt_e
  rcases mh_x_isPlace (h := h) (nI p) with ⟨q, q1, q2, q3⟩ | ⟨q1, _⟩
  · rw [mh_b2_eq q3, if_neg (by decide), mh_gR_eq (k := 0) hC.ob rfl, Option.bind_some, mh_cal_eq hC.A.1.1, mh_b2_eq (mh_fx3_purse hC.A.1 hp)]
  · exact absurd rfl (q1 p hp)
theorem mh_x_purseNo {x : Int32} (hx : ∀ p, p < 8 → x ≠ nI p) : f_X11_purseAt_e (ad 1289) x h = some (.inl 1, h) := by
  unfold f_X11_purseAt_e
  rcases mh_x_isPlace (h := h) x with ⟨q, q1, q2, q3⟩ | ⟨_, q3⟩
  · exact absurd q2 (hx q q1)
  · rw [mh_b2_eq q3, if_pos rfl]
theorem mh_x_purse (hC : mh_CI h ad σ) {p : Nat} (hp : p < 8) : ∃ f g, mh_Pu h (ad (6 * (σ.1.1 * 8 + p) + 2)) (ad (6 * (σ.1.1 * 8 + p) + 3)) (ad (6 * (σ.1.1 * 8 + p) + 4)) (ad (6 * (σ.1.1 * 8 + p) + 5)) f g (σ.2.1.2.1 (σ.1.1 * 8 + p)) (σ.2.1.2.2 (σ.1.1 * 8 + p)) := by
  have hn := hC.now
  exact (hC.A.2 (σ.1.1 * 8 + p) (by omega)).1.2
theorem mh_x_pz (hC : mh_CI h ad σ) {p : Nat} (hp : p < 8) : mh_pz (σ.2.1.2.1 (σ.1.1 * 8 + p)) (σ.2.1.2.2 (σ.1.1 * 8 + p)) := by
  have hn := hC.now
  exact (hC.A.2 (σ.1.1 * 8 + p) (by omega)).2.2
theorem mh_x_checkCoin {a v : Nat} {f : Nat → Int32} {cs : List Nat} (hc : mh_Co h a v f cs) (x : Int32) : (∃ i, i < cs.length ∧ x = nI i ∧ f_X11_checkCoin_e a x h = some (.inr (), h)) ∨ ((∀ i, i < cs.length → x ≠ nI i) ∧ f_X11_checkCoin_e a x h = some (.inl 1, h)) := by
  have hl := hc.2.2.1
  unfold f_X11_checkCoin_e
  rcases pk_ix x (n := cs.length) (by omega) with q | q | ⟨p, p1, p2⟩
  · right
    refine ⟨fun p hp e => by rw [e] at q; exact nI_pos (by omega) q, ?_⟩
    rw [if_pos q]
    rfl
  · right
    refine ⟨fun p hp e => ?_, ?_⟩
    · rw [e] at q
      have := (nI_leI (by omega) (by omega)).mp q
      omega
    · have n0 : ¬ x < 0 := fun c => by
        have := Int32.lt_of_le_of_lt q c
        exact nI_pos (by omega) this
      rw [if_neg n0, mh_cal_eq hc.1, mh_b2_eq (mh_fx1_count hc), if_neg (fun c => Int32.lt_irrefl (Int32.lt_of_le_of_lt q c))]
      rfl
  · left
    refine ⟨p, p1, p2, ?_⟩
    rw [p2, if_neg (nI_pos (by omega)), mh_cal_eq hc.1, mh_b2_eq (mh_fx1_count hc), if_pos ((nI_ltI (by omega) (by omega)).mpr p1)]
end MhShare
