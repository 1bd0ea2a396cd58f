def mh_Bmany (cs : List Nat) (r : Nat ⊕ Int64) : Prop := (mh_gd cs 0 = 1 ∧ r = .inr (lN (mh_cn (fun s => ¬ mh_py cs s) 100301))) ∨ (mh_gd cs 0 ≠ 1 ∧ r = .inr (-1))
def mh_Blast (cs : List Nat) (z : Int32) : Prop := (mh_gd cs 0 = 1 ∧ mh_lg cs z) ∨ (mh_gd cs 0 ≠ 1 ∧ z = -2)
def mh_Bgap (x : Int32) (cs : List Nat) (r : Nat ⊕ Int32) : Prop := (∃ i, i ≤ 1000000 ∧ x = nI i ∧ ((∃ s, s < 2 ^ 30 ∧ ¬ mh_py cs s ∧ mh_cn (fun s => ¬ mh_py cs s) s = i ∧ r = .inr (nI s)) ∨ ((∀ s, ¬ mh_py cs s → mh_cn (fun s => ¬ mh_py cs s) s ≠ i) ∧ r = .inr (-1)))) ∨ ((∀ i, i ≤ 1000000 → x ≠ nI i) ∧ r = .inl 2)
def mh_Brest (x : Int32) (cs : List Nat) (r : Nat ⊕ Int32) : Prop := (∃ q, q < cs.getD 0 0 ∧ x = nI q ∧ ((∃ s, s < 100000 ∧ mh_py cs s ∧ s % cs.getD 0 0 = q ∧ (∀ t, mh_py cs t → t % cs.getD 0 0 = q → s ≤ t) ∧ r = .inr (nI s)) ∨ ((∀ t, mh_py cs t → t % cs.getD 0 0 ≠ q) ∧ r = .inr (-1)))) ∨ ((∀ q, q < cs.getD 0 0 → x ≠ nI q) ∧ r = .inl 2)
def mh_Pmir (cs : List Nat) : Prop := mh_gd cs 0 = 1 ∧ ∃ L, ¬ mh_py cs L ∧ (∀ t, L < t → mh_py cs t) ∧ ∀ s, s ≤ L → (mh_py cs s ↔ ¬ mh_py cs (L - s))
def mh_Bmir (cs : List Nat) (r : Nat ⊕ Int32) : Prop := (mh_Pmir cs ∧ r = .inr 1) ∨ (¬ mh_Pmir cs ∧ r = .inr 0)
theorem mh_gd_ne {cs : List Nat} (h : mh_gd cs 0 = 1) : cs ≠ [] := fun q => by rw [q] at h; exact absurd h (by decide)
theorem mh_gd_b {cs : List Nat} (hms : mh_ms cs) : mh_gd cs 0 ≤ 300 := by
  cases cs with
  | nil => exact Nat.zero_le _
  | cons c cs =>
    have a := (mh_gd_dvd (c :: cs) 0).2 c List.mem_cons_self
    have b := hms.1.2 c List.mem_cons_self
    have := Nat.le_of_dvd (by omega) a
    omega
section MhGapA
variable {h : mh_H} {ad : Nat → Nat} {σ : mh_Sg}
def mh_lsB (i B : Nat) : Prop := (i = 2 ∧ B = 1017) ∨ (i = 3 ∧ B = 1020) ∨ (i = 4 ∧ B = 1023)
theorem mh_CI.ls (hC : mh_CI h ad σ) {i B : Nat} (hB : mh_lsB i B) : mh_lx h (ad B) (ad (B + 1)) (ad (B + 2)) := by
  rcases hB with ⟨e1, e2⟩ | ⟨e1, e2⟩ | ⟨e1, e2⟩
  · subst e1 e2; exact hC.2 2 (by omega)
  · subst e1 e2; exact hC.2 3 (by omega)
  · subst e1 e2; exact hC.2 4 (by omega)
theorem mh_x_lsT (hC : mh_CI h ad σ) {i B : Nat} (hB : mh_lsB i B) {a u m : Nat} {f : Nat → Int32} {cs : List Nat} (hc : mh_Co h a u f cs) (hmt : mh_mt cs) (m1 : 1 ≤ m) (m2 : m ≤ 300) :
    ∃ h' f' w, f_X4_take_e (ad B) a (nI m) h = some h' ∧ mh_LS h' (ad B) (ad (B + 1)) (ad (B + 2)) m f' w ∧ mh_Ex m cs (fun x => x) w ∧ mh_CI h' ad σ ∧ mh_frC ad h h' ∧ mh_fr [ad (B + 1), ad (B + 2)] h h' := by
  obtain ⟨x, fx, l1, l2, l3⟩ := hC.ls hB
  obtain ⟨f', w, e1, e2, e3⟩ := mh_fx4_take l1 l2 l3 hc hmt m1 m2
  have hf : mh_fr [ad (B + 1), ad (B + 2)] h (mh_up (mh_up h (ad (B + 1)) (.inr (0, [.ref (ad (B + 2)), .int (nI m)]))) (ad (B + 2)) (.inl (0, 300, .inl f'))) := (mh_fr.up (by simp)).trans (mh_fr.up (by simp))
  refine ⟨_, f', w, e1, e2, e3, ?_⟩
  have hlx : mh_lx (mh_up (mh_up h (ad (B + 1)) (.inr (0, [.ref (ad (B + 2)), .int (nI m)]))) (ad (B + 2)) (.inl (0, 300, .inl f'))) (ad B) (ad (B + 1)) (ad (B + 2)) := ⟨_, _, e2.1, e2.2.1, e2.2.2.1⟩
  have cov : ∀ lo hi, lo ≤ B → B + 2 < hi → mh_fR ad lo hi h (mh_up (mh_up h (ad (B + 1)) (.inr (0, [.ref (ad (B + 2)), .int (nI m)]))) (ad (B + 2)) (.inl (0, 300, .inl f'))) := fun lo hi q1 q2 => hf.rg (fun y hy => by
    simp only [List.mem_cons, List.not_mem_nil, or_false] at hy
    rcases hy with q | q
    · exact ⟨B + 1, by omega, by omega, q⟩
    · exact ⟨B + 2, by omega, by omega, q⟩)
  rcases hB with ⟨e4, e5⟩ | ⟨e4, e5⟩ | ⟨e4, e5⟩
  · subst e4 e5
    obtain ⟨z1, z2⟩ := hC.same 2 (by omega) (cov 1017 1020 (by omega) (by omega)) hlx
    exact ⟨z1, z2, hf⟩
  · subst e4 e5
    obtain ⟨z1, z2⟩ := hC.same 3 (by omega) (cov 1020 1023 (by omega) (by omega)) hlx
    exact ⟨z1, z2, hf⟩
  · subst e4 e5
    obtain ⟨z1, z2⟩ := hC.same 4 (by omega) (cov 1023 1026 (by omega) (by omega)) hlx
    exact ⟨z1, z2, hf⟩
theorem mh_lsB2 : mh_lsB 2 1017 := Or.inl ⟨rfl, rfl⟩
/-- leastSums takes a mint by its least coin -/
theorem mh_x_ls (hC : mh_CI h ad σ) {p : Nat} (hp : p < 8) (hne : σ.2.1.1 (σ.1.1 * 8 + p) ≠ []) : ∃ h' f' w, f_X4_take_e (ad 1017) (ad (6 * (σ.1.1 * 8 + p))) (nI ((σ.2.1.1 (σ.1.1 * 8 + p)).getD 0 0)) h = some h' ∧ mh_LS h' (ad 1017) (ad 1018) (ad 1019) ((σ.2.1.1 (σ.1.1 * 8 + p)).getD 0 0) f' w ∧ mh_Ex ((σ.2.1.1 (σ.1.1 * 8 + p)).getD 0 0) (σ.2.1.1 (σ.1.1 * 8 + p)) (fun x => x) w ∧ mh_CI h' ad σ ∧ mh_frC ad h h' := by
  obtain ⟨f, hc⟩ := mh_x_mint hC hp
  have hms := mh_x_ms hC hp
  have h0 := hms.1.get (List.length_pos_iff.mpr hne)
  obtain ⟨h', f', w, e1, e2, e3, e4, e5, _⟩ := mh_x_lsT hC mh_lsB2 hc hms.1 h0.1 h0.2
  exact ⟨h', f', w, e1, e2, e3, e4, e5⟩
theorem mh_K_many (hC : mh_CI h ad σ) (x1 : Int32) : ∃ r h', f_X11_many_e (ad 1289) x1 h = some (r, h') ∧ mh_Qm σ x1 mh_Bmany r ∧ mh_CI h' ad σ ∧ mh_frC ad h h' := by
  unfold f_X11_many_e
  rw [mh_cal_eq hC.ob]
  rcases mh_place x1 with ⟨p, p1, p2⟩ | hx
  · subst p2
    obtain ⟨f, hc⟩ := mh_x_mint hC p1
    have hms := mh_x_ms hC p1
    have hgb := mh_gd_b hms
    rw [mh_bx_r (mh_x_mintAt hC p1), mh_cal_eq hc.1, mh_b2_eq (mh_fx1_commonDivisor hc (fun i => hms.1.le i))]
    by_cases hg : mh_gd (σ.2.1.1 (σ.1.1 * 8 + p)) 0 = 1
    · have hne := mh_gd_ne hg
      have hl := List.length_pos_iff.mpr hne
      obtain ⟨h1, f1, w, t1, t2, t3, t4, t5⟩ := mh_x_ls hC p1 hne
      have h0 := hms.1.get hl
      have hm := mh_py_c (mh_get_mem hl)
      have hb : ∀ x, x ∈ σ.2.1.1 (σ.1.1 * 8 + p) → x ≤ 300 := fun x hx => (hms.1.2 x hx).2
      have em := mh_fx4_missing t2 (fun r hr => mh_ls_b t3 h0.1 h0.2 hb hr (mh_ls_all t3 hm h0.1 hb hg hr))
      rw [mh_ls_sum t3 hm h0.1 h0.2 hb hg] at em
      obtain ⟨x0, fx0, l1, l2, l3⟩ := hC.ls mh_lsB2
      have hcn := mh_cn_le (fun s => ¬ mh_py (σ.2.1.1 (σ.1.1 * 8 + p)) s) 100301
      rw [if_pos (show nI (mh_gd (σ.2.1.1 (σ.1.1 * 8 + p)) 0) = 1 by rw [hg]; rfl), mh_gR_eq (k := 2) hC.ob rfl, Option.bind_some, mh_cal_eq hc.1, mh_b2_eq (mh_fx1_least hc), mh_cal_eq l1, t1, Option.bind_some, mh_gR_eq (k := 2) t4.ob rfl, Option.bind_some, mh_cal_eq t2.1, mh_b2_eq em, nI_l (by omega)]
      exact ⟨_, h1, rfl, Or.inr ⟨p, p1, rfl, Or.inl ⟨hg, rfl⟩⟩, t4, t5⟩
    · rw [if_neg (fun q => hg ((mh_eqr (b := 1) 1 rfl (by omega) (by omega)).mp q))]
      exact ⟨_, h, rfl, Or.inr ⟨p, p1, rfl, Or.inr ⟨hg, rfl⟩⟩, hC, mh_frC.rfl⟩
  · rw [mh_bx_l (mh_x_mintNo hx)]
    exact ⟨_, h, rfl, Or.inl ⟨hx, rfl⟩, hC, mh_frC.rfl⟩
theorem mh_x_lastGap (hC : mh_CI h ad σ) {p : Nat} (p1 : p < 8) : ∃ z h', f_X11_lastGap_e (ad 1289) (ad (6 * (σ.1.1 * 8 + p))) h = some (z, h') ∧ mh_Blast (σ.2.1.1 (σ.1.1 * 8 + p)) z ∧ mh_CI h' ad σ ∧ mh_frC ad h h' ∧ (mh_gd (σ.2.1.1 (σ.1.1 * 8 + p)) 0 = 1 → ∃ f' w, mh_LS h' (ad 1017) (ad 1018) (ad 1019) ((σ.2.1.1 (σ.1.1 * 8 + p)).getD 0 0) f' w ∧ mh_Ex ((σ.2.1.1 (σ.1.1 * 8 + p)).getD 0 0) (σ.2.1.1 (σ.1.1 * 8 + p)) (fun x => x) w) := by
  obtain ⟨f, hc⟩ := mh_x_mint hC p1
  have hms := mh_x_ms hC p1
  have hgb := mh_gd_b hms
  unfold f_X11_lastGap_e
  rw [mh_cal_eq hc.1, mh_b2_eq (mh_fx1_commonDivisor hc (fun i => hms.1.le i))]
  by_cases hg : mh_gd (σ.2.1.1 (σ.1.1 * 8 + p)) 0 = 1
  · have hne := mh_gd_ne hg
    obtain ⟨h1, f1, w, t1, t2, t3, t4, t5⟩ := mh_x_ls hC p1 hne
    obtain ⟨x0, fx0, l1, l2, l3⟩ := hC.ls mh_lsB2
    rw [if_pos (show nI (mh_gd (σ.2.1.1 (σ.1.1 * 8 + p)) 0) = 1 by rw [hg]; rfl), mh_gR_eq (k := 2) hC.ob rfl, Option.bind_some, mh_cal_eq hc.1, mh_b2_eq (mh_fx1_least hc), mh_cal_eq l1, t1, Option.bind_some, mh_gR_eq (k := 2) t4.ob rfl, Option.bind_some, mh_cal_eq t2.1, mh_b2_eq (mh_fx4_lastMissing t2)]
    exact ⟨_, h1, rfl, Or.inl ⟨hg, (mh_ls_last hms hne t3 hg).1⟩, t4, t5, fun _ => ⟨f1, w, t2, t3⟩⟩
  · rw [if_neg (fun q => hg ((mh_eqr (b := 1) 1 rfl (by omega) (by omega)).mp q))]
    exact ⟨_, h, rfl, Or.inr ⟨hg, rfl⟩, hC, mh_frC.rfl, fun q => absurd q hg⟩
theorem mh_K_last (hC : mh_CI h ad σ) (x1 : Int32) : ∃ r h', f_X11_last_e (ad 1289) x1 h = some (r, h') ∧ mh_Qm σ x1 (fun cs r => ∃ z, mh_Blast cs z ∧ r = .inr z) r ∧ mh_CI h' ad σ ∧ mh_frC ad h h' := by
  unfold f_X11_last_e
  rw [mh_cal_eq hC.ob]
  rcases mh_place x1 with ⟨p, p1, p2⟩ | hx
  · subst p2
    obtain ⟨z, h1, e1, e2, e3, e4, _⟩ := mh_x_lastGap hC p1
    rw [mh_bx_r (mh_x_mintAt hC p1), mh_cal_eq hC.ob, mh_b2_eq e1]
    exact ⟨_, h1, rfl, Or.inr ⟨p, p1, rfl, z, e2, rfl⟩, e3, e4⟩
  · rw [mh_bx_l (mh_x_mintNo hx)]
    exact ⟨_, h, rfl, Or.inl ⟨hx, rfl⟩, hC, mh_frC.rfl⟩
theorem mh_K_mirror (hC : mh_CI h ad σ) (x1 : Int32) : ∃ r h', f_X11_mirror_e (ad 1289) x1 h = some (r, h') ∧ mh_Qm σ x1 mh_Bmir r ∧ mh_CI h' ad σ ∧ mh_frC ad h h' := by
  unfold f_X11_mirror_e
  rw [mh_cal_eq hC.ob]
  rcases mh_place x1 with ⟨p, p1, p2⟩ | hx
  · subst p2
    obtain ⟨z, h1, e1, e2, e3, e4, e5⟩ := mh_x_lastGap hC p1
    have hms := mh_x_ms hC p1
    rw [mh_bx_r (mh_x_mintAt hC p1), mh_cal_eq hC.ob, mh_b2_eq e1]
    generalize hcs : σ.2.1.1 (σ.1.1 * 8 + p) = cs at *
    have fin : ∀ r, mh_Bmir cs r → mh_Qm σ (nI p) mh_Bmir r := fun r hr => Or.inr ⟨p, p1, rfl, by rw [hcs]; exact hr⟩
    rcases e2 with ⟨hg, hlg⟩ | ⟨hg, e2⟩
    · rcases hlg with ⟨g1, g2⟩ | ⟨L, L1, L2, L3, L4⟩
      · rw [g2, if_pos (by decide)]
        exact ⟨.inr 0, h1, rfl, fin _ (Or.inr ⟨fun ⟨_, L, q, _⟩ => q (g1 L), rfl⟩), e3, e4⟩
      · obtain ⟨f', w, t2, t3⟩ := e5 hg
        have hne := mh_gd_ne hg
        have hl := List.length_pos_iff.mpr hne
        have h0 := hms.1.get hl
        have hm := mh_py_c (mh_get_mem hl)
        have hb : ∀ x, x ∈ cs → x ≤ 300 := fun x hx => (hms.1.2 x hx).2
        have em := mh_fx4_missing t2 (fun r hr => mh_ls_b t3 h0.1 h0.2 hb hr (mh_ls_all t3 hm h0.1 hb hg hr))
        have fl := mh_cn_flat (P := fun s => ¬ mh_py cs s) (a := L + 1) (fun t ht c => c (L3 t (by omega))) (100301 - (L + 1))
        rw [show L + 1 + (100301 - (L + 1)) = 100301 by omega] at fl
        rw [mh_ls_sum t3 hm h0.1 h0.2 hb hg, fl] at em
        have hcn := mh_cn_le (fun s => ¬ mh_py cs s) (L + 1)
        have hmir := mh_mirror L2
        have e6 : (2 : Int32) * nI (mh_cn (fun s => ¬ mh_py cs s) (L + 1)) = nI (2 * mh_cn (fun s => ¬ mh_py cs s) (L + 1)) := mh_nI_mul 2 _
        have Lu : ∀ L', ¬ mh_py cs L' → (∀ t, L' < t → mh_py cs t) → L' = L := fun L' q1 q2 => by
          rcases Nat.lt_trichotomy L' L with q | q | q
          · exact absurd (q2 L q) L2
          · exact q
          · exact absurd (L3 L' q) q1
        rw [L4, if_neg (nI_pos (by omega)), mh_gR_eq (k := 2) e3.ob rfl, Option.bind_some, mh_cal_eq t2.1, mh_b2_eq em, e6, nI_1]
        by_cases hq : 2 * mh_cn (fun s => ¬ mh_py cs s) (L + 1) = L + 1
        · rw [if_pos (by rw [hq])]
          exact ⟨.inr 1, h1, rfl, fin _ (Or.inl ⟨⟨hg, L, L2, L3, hmir.mp hq⟩, rfl⟩), e3, e4⟩
        · rw [if_neg (fun q => hq ((nI_eq (by omega) (by omega)).mp q))]
          refine ⟨.inr 0, h1, rfl, fin _ (Or.inr ⟨fun ⟨_, L', q1, q2, q3⟩ => ?_, rfl⟩), e3, e4⟩
          rw [Lu L' q1 q2] at q3
          exact hq (hmir.mpr q3)
    · rw [e2, if_pos (by decide)]
      exact ⟨.inr 0, h1, rfl, fin _ (Or.inr ⟨fun q => hg q.1, rfl⟩), e3, e4⟩
  · rw [mh_bx_l (mh_x_mintNo hx)]
    exact ⟨_, h, rfl, Or.inl ⟨hx, rfl⟩, hC, mh_frC.rfl⟩
theorem mh_K_rest (hC : mh_CI h ad σ) (x1 x2 : Int32) : ∃ r h', f_X11_rest_e (ad 1289) x1 x2 h = some (r, h') ∧ mh_Qm σ x1 (mh_Brest x2) r ∧ mh_CI h' ad σ ∧ mh_frC ad h h' := by
  unfold f_X11_rest_e
  rw [mh_cal_eq hC.ob]
  rcases mh_place x1 with ⟨p, p1, p2⟩ | hx
  · subst p2
    obtain ⟨f, hc⟩ := mh_x_mint hC p1
    have hms := mh_x_ms hC p1
    have hle := hms.1.le 0
    rw [mh_bx_r (mh_x_mintAt hC p1)]
    by_cases c1 : x2 < 0
    · rw [if_pos c1]
      refine ⟨_, h, rfl, Or.inr ⟨p, p1, rfl, Or.inr ⟨fun q hq e => ?_, rfl⟩⟩, hC, mh_frC.rfl⟩
      rw [e] at c1
      exact nI_pos (by omega) c1
    · obtain ⟨q, q1, q2⟩ := nI_of c1
      subst q2
      rw [if_neg c1, mh_cal_eq hc.1, mh_b2_eq (mh_fx1_least hc)]
      by_cases c2 : q < (σ.2.1.1 (σ.1.1 * 8 + p)).getD 0 0
      · have hne : σ.2.1.1 (σ.1.1 * 8 + p) ≠ [] := fun e => by rw [e] at c2; exact absurd c2 (Nat.not_lt_zero q)
        have hl := List.length_pos_iff.mpr hne
        have h0 := hms.1.get hl
        have hm := mh_py_c (mh_get_mem hl)
        have hb : ∀ x, x ∈ σ.2.1.1 (σ.1.1 * 8 + p) → x ≤ 300 := fun x hx => (hms.1.2 x hx).2
        have hI : mh_INF = 2147483647 := rfl
        obtain ⟨h1, f1, w, t1, t2, t3, t4, t5⟩ := mh_x_ls hC p1 hne
        obtain ⟨x0, fx0, l1, l2, l3⟩ := hC.ls mh_lsB2
        have wb := (t2.2.2.2.2.2 q c2).2
        rw [if_pos ((nI_ltI q1 (by omega)).mpr c2), mh_gR_eq (k := 2) hC.ob rfl, Option.bind_some, mh_cal_eq hc.1, mh_b2_eq (mh_fx1_least hc), mh_cal_eq l1, t1, Option.bind_some, mh_gR_eq (k := 2) t4.ob rfl, Option.bind_some, mh_cal_eq t2.1, mh_b2_eq (mh_fx4_least t2 c2)]
        by_cases hw : w q = mh_INF
        · rw [if_pos (by rw [hw]; rfl)]
          refine ⟨_, h1, rfl, Or.inr ⟨p, p1, rfl, Or.inl ⟨q, c2, rfl, Or.inr ⟨fun t ⟨n, l, m1, m2, m3⟩ e => ?_, rfl⟩⟩⟩, t4, t5⟩
          have := (t3.2 l m1).2
          rw [m2, e] at this
          exact this hw
        · rw [if_neg (by rw [mh_nI_inf, nI_eq (by omega) (by omega)]; exact hw)]
          have hwb := mh_ls_b t3 h0.1 h0.2 hb c2 hw
          have hwm := (mh_ls_w t3 c2).resolve_left hw
          refine ⟨_, h1, rfl, Or.inr ⟨p, p1, rfl, Or.inl ⟨q, c2, rfl, Or.inl ⟨w q, by omega, ?_, hwm, fun t ⟨n, l, m1, m2, m3⟩ e => ?_, rfl⟩⟩⟩, t4, t5⟩
          · refine (mh_ls_py t3 hm h0.1 (s := w q) (by omega)).mp ?_
            rw [hwm]
            exact Nat.le_refl _
          · have := (t3.2 l m1).1
            rw [mh_idm, m2, e] at this
            exact this
      · rw [if_neg (fun c => c2 ((nI_ltI q1 (by omega)).mp c))]
        refine ⟨_, h, rfl, Or.inr ⟨p, p1, rfl, Or.inr ⟨fun q' hq' e => ?_, rfl⟩⟩, hC, mh_frC.rfl⟩
        have := (nI_eq q1 (by omega)).mp e
        omega
  · rw [mh_bx_l (mh_x_mintNo hx)]
    exact ⟨_, h, rfl, Or.inl ⟨hx, rfl⟩, hC, mh_frC.rfl⟩
theorem mh_half_gaps {m : Nat} {w : Nat → Nat} {cs : List Nat} (hE : mh_Ex m cs (fun x => x) w) (hm : mh_py cs m) (h0 : 0 < m) (hg : mh_gd cs 0 ≠ 1) : ∀ n, n < 2 ^ 29 → n ≤ mh_cnt (mh_gp m w) (2 * n + 1) := by
  intro n
  induction n with
  | zero => intro _; exact Nat.zero_le _
  | succ n ih =>
    intro hn
    have := ih (by omega)
    have hI : mh_INF = 2147483647 := rfl
    have one : mh_gp m w (2 * n + 1) = true ∨ mh_gp m w (2 * n + 2) = true := by
      refine Classical.byContradiction (fun q => ?_)
      have a : mh_py cs (2 * n + 1) := Classical.byContradiction (fun c => q (Or.inl ((mh_ls_gp hE hm h0 (by omega)).mpr c)))
      have b : mh_py cs (2 * n + 2) := Classical.byContradiction (fun c => q (Or.inr ((mh_ls_gp hE hm h0 (by omega)).mpr c)))
      have da := mh_py_dvd (mh_gd_dvd cs 0).2 a
      have db := mh_py_dvd (mh_gd_dvd cs 0).2 b
      have := (Nat.dvd_add_right da).mp (show mh_gd cs 0 ∣ (2 * n + 1) + 1 from db)
      exact hg (Nat.dvd_one.mp this)
    rw [show 2 * (n + 1) + 1 = 2 * n + 1 + 1 + 1 by omega, mh_cnt, mh_cnt]
    rcases one with q | q
    · rw [if_pos q]; omega
    · rw [if_pos (show mh_gp m w (2 * n + 1 + 1) = true from q)]; omega
theorem mh_K_gap (hC : mh_CI h ad σ) (x1 x2 : Int32) : ∃ r h', f_X11_gap_e (ad 1289) x1 x2 h = some (r, h') ∧ mh_Qm σ x1 (mh_Bgap x2) r ∧ mh_CI h' ad σ ∧ mh_frC ad h h' := by
  unfold f_X11_gap_e
  rw [mh_cal_eq hC.ob]
  rcases mh_place x1 with ⟨p, p1, p2⟩ | hx
  · subst p2
    obtain ⟨f, hc⟩ := mh_x_mint hC p1
    have hms := mh_x_ms hC p1
    have hgb := mh_gd_b hms
    rw [mh_bx_r (mh_x_mintAt hC p1)]
    rcases mh_range (x := x2) (lo := 0) (hi := 1000000) (a := 0) (b := 1000000) rfl rfl (by omega) (by omega) with ⟨c1, c2⟩ | ⟨c1, c2, c3⟩ | ⟨c1, c2, i, i1, i2, i3⟩
    · rw [if_pos c1]
      exact ⟨_, h, rfl, Or.inr ⟨p, p1, rfl, Or.inr ⟨fun i hi => c2 i (Nat.zero_le _) hi, rfl⟩⟩, hC, mh_frC.rfl⟩
    · rw [if_neg c1, if_neg c2]
      exact ⟨_, h, rfl, Or.inr ⟨p, p1, rfl, Or.inr ⟨fun i hi => c3 i (Nat.zero_le _) hi, rfl⟩⟩, hC, mh_frC.rfl⟩
    · subst i3
      rw [if_neg c1, if_pos c2, mh_cal_eq hc.1, mh_b2_eq (mh_fx1_count hc)]
      have hI : mh_INF = 2147483647 := rfl
      by_cases hne : σ.2.1.1 (σ.1.1 * 8 + p) = []
      · rw [if_pos (by rw [hne]; rfl), nI_1]
        refine ⟨_, h, rfl, Or.inr ⟨p, p1, rfl, Or.inl ⟨i, i2, rfl, Or.inl ⟨i + 1, by omega, ?_, ?_, rfl⟩⟩⟩, hC, mh_frC.rfl⟩
        · rw [hne]
          exact fun q => by have := mh_py_nil.mp q; omega
        · rw [hne]
          have : ∀ n, mh_cn (fun s => ¬ mh_py [] s) (n + 1) = n := fun n => by
            induction n with
            | zero => exact mh_cn_n (fun q => q (mh_py0 []))
            | succ n ih => rw [mh_cn_y (fun q => by have := mh_py_nil.mp q; omega), ih]
          exact this i
      · have hl := List.length_pos_iff.mpr hne
        have h0 := hms.1.get hl
        have hm := mh_py_c (mh_get_mem hl)
        have hb : ∀ x, x ∈ σ.2.1.1 (σ.1.1 * 8 + p) → x ≤ 300 := fun x hx => (hms.1.2 x hx).2
        obtain ⟨h1, f1, w, t1, t2, t3, t4, t5⟩ := mh_x_ls hC p1 hne
        obtain ⟨x0, fx0, l1, l2, l3⟩ := hC.ls mh_lsB2
        obtain ⟨f2, hc2⟩ := mh_x_mint t4 p1
        have hl12 := hms.1.1
        rw [if_neg (nI_ne0 hl (by omega)), mh_gR_eq (k := 2) hC.ob rfl, Option.bind_some, mh_cal_eq hc.1, mh_b2_eq (mh_fx1_least hc), mh_cal_eq l1, t1, Option.bind_some, mh_cal_eq hc2.1, mh_b2_eq (mh_fx1_commonDivisor hc2 (fun i => hms.1.le i))]
        generalize hcs : σ.2.1.1 (σ.1.1 * 8 + p) = cs at *
        have fin : ∀ r, mh_Bgap (nI i) cs r → mh_Qm σ (nI p) (mh_Bgap (nI i)) r := fun r hr => Or.inr ⟨p, p1, rfl, by rw [hcs]; exact hr⟩
        -- from the search to the gap
        have got : ∀ x, x < 2 ^ 30 → i < mh_cnt (mh_gp (cs.getD 0 0) w) (x + 1) → (∀ y, y < x → mh_cnt (mh_gp (cs.getD 0 0) w) (y + 1) ≤ i) → mh_Bgap (nI i) cs (.inr (nI x)) := fun x hx g1 g2 => by
          have hlow : mh_cnt (mh_gp (cs.getD 0 0) w) x ≤ i := by
            cases x with
            | zero => exact Nat.zero_le _
            | succ x => exact g2 x (Nat.lt_succ_self x)
          rw [mh_cnt] at g1
          have hgx : mh_gp (cs.getD 0 0) w x = true := by
            cases hq : mh_gp (cs.getD 0 0) w x with
            | true => rfl
            | false => rw [hq, if_neg Bool.false_ne_true] at g1; omega
          rw [if_pos hgx] at g1
          refine Or.inl ⟨i, i2, rfl, Or.inl ⟨x, hx, (mh_ls_gp t3 hm h0.1 (by omega)).mp hgx, ?_, rfl⟩⟩
          rw [← mh_ls_cn t3 hm h0.1 (by omega)]
          omega
        by_cases hg : mh_gd cs 0 = 1
        · have em := mh_fx4_missing t2 (fun r hr => mh_ls_b t3 h0.1 h0.2 hb hr (mh_ls_all t3 hm h0.1 hb hg hr))
          rw [mh_ls_sum t3 hm h0.1 h0.2 hb hg] at em
          have hcn := mh_cn_le (fun s => ¬ mh_py cs s) 100301
          have tot : ∀ s, mh_cn (fun s => ¬ mh_py cs s) s ≤ mh_cn (fun s => ¬ mh_py cs s) 100301 := fun s => by
            by_cases hs : s ≤ 100301
            · exact mh_cn_mono hs
            · have := mh_cn_flat (P := fun s => ¬ mh_py cs s) (a := 100301) (fun t ht c => c (mh_frob hm h0.1 hb (by rw [hg]; exact Nat.one_dvd _) (by have := Nat.mul_le_mul_right 300 (show cs.getD 0 0 - 1 ≤ 299 by omega); omega))) (s - 100301)
              rw [show 100301 + (s - 100301) = s by omega] at this
              omega
          rw [if_pos (show nI (mh_gd cs 0) = 1 by rw [hg]; rfl), mh_gR_eq (k := 2) t4.ob rfl, Option.bind_some, mh_cal_eq t2.1, mh_b2_eq em]
          by_cases hmi : mh_cn (fun s => ¬ mh_py cs s) 100301 ≤ i
          · rw [if_pos ((nI_leI (by omega) (by omega)).mpr hmi)]
            refine ⟨_, h1, rfl, fin _ (Or.inl ⟨i, i2, rfl, Or.inr ⟨fun s hs e => ?_, rfl⟩⟩), t4, t5⟩
            have a := tot (s + 1)
            rw [mh_cn_y hs, e] at a
            omega
          · have hm1 : cs.getD 0 0 ≠ 1 := fun e => by
              have := (mh_ls_last hms hne t3 hg).2.2 e
              have z : ∀ n, mh_cn (fun s => ¬ mh_py cs s) n = 0 := fun n => by
                induction n with
                | zero => rfl
                | succ n ih => rw [mh_cn_n (fun q => q (this n)), ih]
              rw [z] at hmi
              omega
            obtain ⟨L, L1, L2, L3, L4⟩ := (mh_ls_last hms hne t3 hg).2.1 hm1
            have fl := mh_cn_flat (P := fun s => ¬ mh_py cs s) (a := L + 1) (fun t ht c => c (L3 t (by omega))) (100301 - (L + 1))
            rw [show L + 1 + (100301 - (L + 1)) = 100301 by omega] at fl
            have el := mh_fx4_lastMissing t2
            rw [L1, pk_sub (by omega), Nat.add_sub_cancel] at el
            obtain ⟨x, g1, g2, g3, g4⟩ := mh_fx4_missingAt t2 (fun r hr => mh_ls_w t3 hr) (i := i) (b := L) (by omega) (by omega) (by rw [mh_ls_cn t3 hm h0.1 (by omega)]; omega)
            rw [if_neg (fun q => hmi ((nI_leI (by omega) (by omega)).mp q)), mh_gR_eq (k := 2) t4.ob rfl, Option.bind_some, Option.bind_some, mh_cal_eq t2.1, mh_b2_eq el, mh_cal_eq t2.1, mh_b2_eq g1]
            exact ⟨_, h1, rfl, fin _ (got x (by omega) g3 g4), t4, t5⟩
        · have e2 : (2 : Int32) * (nI i + (1 : Int32)) = nI (2 * (i + 1)) := by
            rw [nI_1]
            exact mh_nI_mul 2 _
          have hh := mh_half_gaps t3 hm h0.1 hg (i + 1) (by omega)
          obtain ⟨x, g1, g2, g3, g4⟩ := mh_fx4_missingAt t2 (fun r hr => mh_ls_w t3 hr) (i := i) (b := 2 * (i + 1)) (by omega) (by omega) (by omega)
          rw [if_neg (fun q => hg ((mh_eqr (b := 1) 1 rfl (by omega) (by omega)).mp q)), mh_gR_eq (k := 2) t4.ob rfl, Option.bind_some, e2, mh_cal_eq t2.1, mh_b2_eq g1]
          exact ⟨_, h1, rfl, fin _ (got x (by omega) g3 g4), t4, t5⟩
  · rw [mh_bx_l (mh_x_mintNo hx)]
    exact ⟨_, h, rfl, Or.inl ⟨hx, rfl⟩, hC, mh_frC.rfl⟩
end MhGapA
