/-! a turn of the law: class and reference answer alike -/
theorem mh_CI.hold {h h' : mh_H} {ad : Nat → Nat} {σ : mh_Sg} (hC : mh_CI h ad σ) (e : ∀ k, k < 1290 → h' (ad k) = h (ad k)) : mh_CI h' ad σ := ⟨hC.1, fun i hi => mh_cc_keep hi (fun k k1 k2 => e k (by
  have : mh_rg (i + 1) ≤ 1290 := by
    obtain rfl | rfl | rfl | rfl | rfl | rfl | rfl | rfl | rfl | rfl | rfl | rfl | rfl | rfl | rfl | rfl : i = 0 ∨ i = 1 ∨ i = 2 ∨ i = 3 ∨ i = 4 ∨ i = 5 ∨ i = 6 ∨ i = 7 ∨ i = 8 ∨ i = 9 ∨ i = 10 ∨ i = 11 ∨ i = 12 ∨ i = 13 ∨ i = 14 ∨ i = 15 := by omega
    all_goals decide
  omega)) (hC.2 i hi)⟩
theorem mh_RI.hold {h h' : mh_H} {bd : Nat → Nat} {σ : mh_Sg} {F : Nat → Int32} (hR : mh_RI h bd σ F) (e : ∀ k, k < 99 → h' (bd k) = h (bd k)) : mh_RI h' bd σ F := ⟨hR.1, fun i hi => mh_rc_keep hi (fun k k1 k2 => e k (by have := (mh_rr_le hi).2; omega)) (hR.2 i hi)⟩
def mh_LI (h : mh_H) (ad bd : Nat → Nat) (o : Nat) (σ : mh_Sg) (F : Nat → Int32) : Prop := mh_CI h ad σ ∧ mh_RI h bd σ F ∧ (∀ i j, i < 1290 → j < 99 → ad i ≠ bd j) ∧ (∃ f, h o = some (.inl (1, 1, .inr (.inl f)))) ∧ (∀ i, i < 1290 → ad i ≠ o) ∧ (∀ j, j < 99 → bd j ≠ o) ∧ mh_St20 σ
theorem mh_RI.gd {h : mh_H} {bd : Nat → Nat} {σ : mh_Sg} {F : Nat → Int32} (hR : mh_RI h bd σ F) : mh_Gd σ := by
  obtain ⟨g, _, hw⟩ := hR.2 1 (by omega)
  refine ⟨fun p hp => ⟨(hw p hp).1, (hw p hp).2.1⟩, fun c n e => ?_⟩
  obtain ⟨f1, f2, _, _, h3⟩ := hR.2 7 (by omega)
  rw [e] at h3
  exact h3.2.1.1.1
def mh_cd {α : Type} (r : Nat ⊕ α) : Int32 := match r with
  | .inl e => nI e
  | .inr _ => 0
theorem mh_cmps (w : Int64) : lg_cmp w w = 0 := by
  unfold lg_cmp
  simp
section MhStep
variable {h : mh_H} {ad bd : Nat → Nat} {o : Nat} {σ : mh_Sg} {F : Nat → Int32}
/-- a call that may throw, through its wrapper, then the reference's -/
theorem mh_step {α : Type} (hL : mh_LI h ad bd o σ F) {X : Option ((Nat ⊕ α) × mh_H)} {S : Nat ⊕ α → mh_Sg → Prop} {P : Nat → Prop} {Y : mh_H → Option (α × mh_H)} {fx : Nat → mh_H → Option (Int32 × mh_H)} {f : α → mh_H → Option (Int32 × mh_H)} {g : α → Int64}
    (hK : ∃ r h1 σ1, X = some (r, h1) ∧ S r σ1 ∧ mh_CI h1 ad σ1 ∧ mh_frC ad h h1)
    (hM : ∀ h F, mh_RI h bd σ F → ∃ r v h' σ' F', Y h = some (v, h') ∧ S r σ' ∧ mh_an r v F' ∧ mh_RI h' bd σ' F' ∧ mh_frR bd h h')
    (hu : ∀ r r' σ1 σ2, S r σ1 → S r' σ2 → r = r' ∧ σ1 = σ2) (hc : ∀ e σ1, S (.inl e) σ1 → P e) (hP : ∀ e, P e → e = 1 ∨ e = 2) (h20 : ∀ r σ1, S r σ1 → mh_St20 σ1)
    (hfx : ∀ e h', P e → fx e h' = some (nI e, h')) (hf : ∀ v h' fl, h' o = some (.inl (1, 1, .inr (.inl fl))) → f v h' = some (0, mh_up h' o (.inl (1, 1, .inr (.inl (vp_updL fl 0 (g v))))))) :
    ∃ k h2 v h3 σ1 F1 fs2 fs3, mh_bc (mh_cal h (ad 1289) 11 X) fx f = some (k, h2) ∧ h2 (bd 0) = some (.inr (12, fs2)) ∧ Y h2 = some (v, h3) ∧ h3 (bd 0) = some (.inr (12, fs3)) ∧ f_X12_thrown_e (bd 0) h3 = some (k, h3) ∧ (k = 0 → mh_aJ h3 o (0 : Int32) = some (g v)) ∧ mh_LI h3 ad bd o σ1 F1 := by
  obtain ⟨hC, hR, dj, ⟨fl, ho⟩, d1, d2, _⟩ := hL
  obtain ⟨r, h1, σ1, e1, s1, C1, f1⟩ := hK
  have hR1 : mh_RI h1 bd σ F := hR.hold (fun k hk => f1 _ (fun i hi => (dj i k hi hk).symm))
  have ho1 : h1 o = some (.inl (1, 1, .inr (.inl fl))) := (f1 _ (fun i hi => (d1 i hi).symm)).trans ho
  have key : ∀ (h2 : mh_H) (fl2 : Nat → Int64), mh_bc (mh_cal h (ad 1289) 11 X) fx f = some (mh_cd r, h2) → (∀ b, b ≠ o → h2 b = h1 b) → h2 o = some (.inl (1, 1, .inr (.inl fl2))) → (∀ v, r = .inr v → fl2 0 = g v) → ∃ k h2 v h3 σ1 F1 fs2 fs3, mh_bc (mh_cal h (ad 1289) 11 X) fx f = some (k, h2) ∧ h2 (bd 0) = some (.inr (12, fs2)) ∧ Y h2 = some (v, h3) ∧ h3 (bd 0) = some (.inr (12, fs3)) ∧ f_X12_thrown_e (bd 0) h3 = some (k, h3) ∧ (k = 0 → mh_aJ h3 o (0 : Int32) = some (g v)) ∧ mh_LI h3 ad bd o σ1 F1 := by
    intro h2 fl2 a1 a2 a3 a4
    have hR2 : mh_RI h2 bd σ F := hR1.hold (fun k hk => a2 _ (d2 k hk))
    have C2 : mh_CI h2 ad σ1 := C1.hold (fun k hk => a2 _ (d1 k hk))
    obtain ⟨r', v, h3, σ2, F3, b1, b2, b3, b4, b5⟩ := hM h2 F hR2
    obtain ⟨u1, u2⟩ := hu _ _ _ _ s1 b2
    subst u1 u2
    have C3 : mh_CI h3 ad σ1 := C2.hold (fun k hk => b5 _ (fun j hj => dj k j hk hj))
    have ho3 : h3 o = some (.inl (1, 1, .inr (.inl fl2))) := (b5 _ (fun j hj => (d2 j hj).symm)).trans a3
    refine ⟨mh_cd r, h2, v, h3, σ1, F3, _, _, a1, hR2.ob, b1, b4.ob, ?_, fun k0 => ?_, C3, b4, dj, ⟨fl2, ho3⟩, d1, d2, h20 _ _ b2⟩
    · unfold f_X12_thrown_e
      rw [mh_gI_eq (k := 0) b4.ob rfl, Option.bind_some]
      rcases b3 with ⟨t, t2⟩ | ⟨e, t, t2⟩
      · rw [t, t2]; rfl
      · rw [t, t2]; rfl
    · have e0 : mh_aJ h3 o (0 : Int32) = some (fl2 0) := mh_aJ_eq (j := 0) ho3 (by omega) (by omega)
      rw [e0]
      rcases b3 with ⟨t, t2⟩ | ⟨e, t, t2⟩
      · rw [a4 v t]
      · exfalso
        rw [t] at k0 s1
        have := hP e (hc e _ s1)
        have k0 : nI e = 0 := k0
        rcases this with rfl | rfl
        · exact absurd k0 (by decide)
        · exact absurd k0 (by decide)
  have e2 : mh_cal h (ad 1289) 11 X = some (r, h1) := by rw [mh_cal_eq hC.ob]; exact e1
  rcases r with e | v
  · refine key h1 fl ?_ (fun _ _ => rfl) ho1 (fun v hv => by cases hv)
    rw [e2]
    show fx e h1 = _
    exact hfx e h1 (hc e _ s1)
  · refine key (mh_up h1 o (.inl (1, 1, .inr (.inl (vp_updL fl 0 (g v)))))) (vp_updL fl 0 (g v)) ?_ (fun b hb => mh_up_ne hb) (mh_up_eq _ _ _) (fun v' hv => ?_)
    · rw [e2]
      show f v h1 = _
      rw [hf v h1 fl ho1]
      rfl
    · injection hv with hv
      rw [← hv]
      unfold vp_updL
      rw [if_pos rfl]
/-- the law's asking after it -/
theorem mh_tail {k : Int32} {h3 : mh_H} {w : Int64} (e : k = 0 → mh_aJ h3 o (0 : Int32) = some w) : (if k = k then (if k = 0 then ((mh_aJ h3 o (0 : Int32)).bind fun w' => if lg_cmp w' w = 0 then some h3 else none) else some h3) else none) = some h3 := by
  rw [if_pos rfl]
  by_cases k0 : k = 0
  · rw [if_pos k0, e k0, Option.bind_some, if_pos (mh_cmps w)]
  · rw [if_neg k0]
theorem mh_tailz {k v : Int32} {h3 : mh_H} (e : k = 0 → mh_aJ h3 o (0 : Int32) = some (if v = 0 then 0 else 1)) : (if k = k then (if k = 0 then ((mh_aJ h3 o (0 : Int32)).bind fun w' => if v = 0 then (if lg_cmp w' (0 : Int64) = 0 then some h3 else none) else if lg_cmp w' (1 : Int64) = 0 then some h3 else none) else some h3) else none) = some h3 := by
  rw [if_pos rfl]
  by_cases k0 : k = 0
  · rw [if_pos k0, e k0, Option.bind_some]
    by_cases v0 : v = 0
    · rw [if_pos v0, if_pos v0, if_pos (mh_cmps 0)]
    · rw [if_neg v0, if_neg v0, if_pos (mh_cmps 1)]
  · rw [if_neg k0]
end MhStep
theorem mh_20m {σ : mh_Sg} {j : Nat} {m : List Nat} : mh_St20 (mh_setm (mh_bg σ) j m) := by
  show min (σ.1.2.1 + 1) 20 + 0 ≤ 20
  omega
theorem mh_20p {σ : mh_Sg} {j : Nat} {c n : List Nat} : mh_St20 (mh_setp (mh_bg σ) j c n) := by
  show min (σ.1.2.1 + 1) 20 + 0 ≤ 20
  omega
theorem mh_20pp {σ : mh_Sg} {j i : Nat} {c n d m : List Nat} : mh_St20 (mh_setp (mh_setp (mh_bg σ) j c n) i d m) := by
  show min (σ.1.2.1 + 1) 20 + 0 ≤ 20
  omega
theorem mh_20_bec {σ σ1 : mh_Sg} {p : Nat} {ok : Prop} {m : List Nat} {r : Nat ⊕ Int32} (h0 : mh_St20 σ) (h : mh_Sbec σ p ok m r σ1) : mh_St20 σ1 := by
  rcases h with ⟨_, _, e⟩ | ⟨_, _, e⟩
  · rw [e]; exact mh_20m
  · rw [e]; exact h0
theorem mh_20_coin {σ σ1 : mh_Sg} {x1 x2 r : Int32} (h0 : mh_St20 σ) (h : mh_Scoin σ x1 x2 r σ1) : mh_St20 σ1 := by
  rcases h with ⟨_, _, _, _, e⟩ | ⟨_, _, e⟩
  · rw [e]; exact mh_20m
  · rw [e]; exact h0
theorem mh_20_melt {σ σ1 : mh_Sg} {x1 x2 r : Int32} (h0 : mh_St20 σ) (h : mh_Smelt σ x1 x2 r σ1) : mh_St20 σ1 := by
  rcases h with ⟨_, _, _, _, _, _, _, e⟩ | ⟨_, _, e⟩
  · rw [e]; exact mh_20m
  · rw [e]; exact h0
theorem mh_20_join {σ σ1 : mh_Sg} {x1 x2 x3 : Int32} {r : Nat ⊕ Int32} (h0 : mh_St20 σ) (h : mh_Sjoin σ x1 x2 x3 r σ1) : mh_St20 σ1 := by
  rcases h with ⟨_, _, _, _, _, _, _, _, _, e⟩ | ⟨_, _, e⟩
  · exact mh_20_bec h0 e
  · rw [e]; exact h0
theorem mh_20_part {σ σ1 : mh_Sg} {x1 x2 x3 : Int32} {r : Nat ⊕ Int32} (h0 : mh_St20 σ) (h : mh_Spart σ x1 x2 x3 r σ1) : mh_St20 σ1 := by
  rcases h with ⟨_, _, _, _, _, _, _, _, _, e⟩ | ⟨_, _, e⟩
  · exact mh_20_bec h0 e
  · rw [e]; exact h0
theorem mh_20_fac {σ σ1 : mh_Sg} {x1 x2 x3 : Int32} {r : Nat ⊕ Int32} (h0 : mh_St20 σ) (h : mh_Sfac σ x1 x2 x3 r σ1) : mh_St20 σ1 := by
  rcases h with ⟨_, _, _, _, _, _, ⟨_, _, _, _, e⟩ | ⟨_, _, e⟩⟩ | ⟨_, _, e⟩
  · exact mh_20_bec h0 e
  · rw [e]; exact h0
  · rw [e]; exact h0
theorem mh_20_of {σ σ1 : mh_Sg} {x1 x2 : Int32} {y : Int64} {r : Nat ⊕ Int32} (h0 : mh_St20 σ) (h : mh_Sof σ x1 x2 y r σ1) : mh_St20 σ1 := by
  rcases h with ⟨_, _, e⟩ | ⟨_, _, _, ⟨_, _, e⟩ | ⟨_, _, _, ⟨_, _, _, e⟩ | ⟨_, _, e⟩⟩⟩ <;> (rw [e]; exact h0)
theorem mh_20_put {σ σ1 : mh_Sg} {x1 x2 : Int32} {r : Nat ⊕ Int32} (h0 : mh_St20 σ) (h : mh_Sput σ x1 x2 r σ1) : mh_St20 σ1 := by
  rcases h with ⟨_, _, _, _, _, _, ⟨_, _, _, _, e⟩ | ⟨_, _, e⟩⟩ | ⟨_, _, e⟩ <;> (rw [e]; exact h0)
theorem mh_20_best {σ σ1 : mh_Sg} {x1 x2 x3 : Int32} {r : Nat ⊕ Int32} (h0 : mh_St20 σ) (h : mh_Sbest σ x1 x2 x3 r σ1) : mh_St20 σ1 := by
  rcases h with ⟨_, _, e⟩ | ⟨_, _, _, ⟨_, _, _, _, _, _, _, _, ⟨_, _, e⟩ | ⟨_, _, e⟩⟩ | ⟨_, _, e⟩⟩
  · rw [e]; exact h0
  · rw [e]; exact mh_20m
  · rw [e]; exact h0
  · rw [e]; exact h0
theorem mh_20_open {σ σ1 : mh_Sg} {x1 x2 : Int32} {r : Nat ⊕ Unit} (h0 : mh_St20 σ) (h : mh_Sopen σ x1 x2 r σ1) : mh_St20 σ1 := by
  rcases h with ⟨_, _, _, _, _, _, _, e⟩ | ⟨_, _, e⟩
  · rw [e]; exact mh_20p
  · rw [e]; exact h0
theorem mh_20_fill {σ σ1 : mh_Sg} {x1 x2 x3 : Int32} {r : Nat ⊕ Int32} (h0 : mh_St20 σ) (h : mh_Sfill σ x1 x2 x3 r σ1) : mh_St20 σ1 := by
  rcases h with ⟨_, _, _, ⟨_, _, _, _, e⟩ | ⟨_, _, e⟩⟩ | ⟨_, _, e⟩
  · rw [e]; exact mh_20p
  · rw [e]; exact h0
  · rw [e]; exact h0
theorem mh_20_deal {σ σ1 : mh_Sg} {x1 x2 x3 : Int32} {r : Nat ⊕ Int32} (h0 : mh_St20 σ) (h : mh_Sdeal σ x1 x2 x3 r σ1) : mh_St20 σ1 := by
  rcases h with ⟨_, _, _, _, _, _, ⟨_, _, _, _, ⟨_, _, _, ⟨_, _, _, _, _, _, e⟩ | ⟨_, _, e⟩⟩ | ⟨_, _, e⟩⟩ | ⟨_, _, e⟩⟩ | ⟨_, _, e⟩
  · rw [e]; exact mh_20pp
  · rw [e]; exact h0
  · rw [e]; exact h0
  · rw [e]; exact h0
  · rw [e]; exact h0
theorem mh_20_undo {σ : mh_Sg} (h0 : mh_St20 σ) : mh_St20 (mh_Sundo σ).2 := by
  unfold mh_Sundo
  unfold mh_St20 at h0 ⊢
  split
  · exact h0
  · show σ.1.2.1 - 1 + (σ.1.2.2 + 1) ≤ 20
    omega
theorem mh_20_redo {σ : mh_Sg} (h0 : mh_St20 σ) : mh_St20 (mh_Sredo σ).2 := by
  unfold mh_Sredo
  unfold mh_St20 at h0 ⊢
  split
  · exact h0
  · show σ.1.2.1 + 1 + (σ.1.2.2 - 1) ≤ 20
    omega
