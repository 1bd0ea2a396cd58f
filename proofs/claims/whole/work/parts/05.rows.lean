/-! the words that every method is given: all good words of the tables -/
def mh_TB : List Cond := lw_tbl.filter goodWord
theorem mh_good {w : Cond} (h : w ∈ mh_TB) : goodWord w = true := (List.mem_filter.mp h).2
theorem mh_in {w : Cond} (k : Nat) (h : lw_tbl[k]? = some w) (g : goodWord w = true) : w ∈ mh_TB := List.mem_filter.mpr ⟨List.mem_of_getElem? h, g⟩
theorem mh_gi : GoodIn mh_TB mh_TB := fun w h => ⟨h, good_of_word (mh_good h)⟩
theorem mh_gc {w : Cond} (h : w ∈ mh_TB) : GoodIn mh_TB (w :: mh_TB) := fun v hv => (List.mem_cons.mp hv).elim (fun e => by rw [e]; exact ⟨h, good_of_word (mh_good h)⟩) (fun h => mh_gi v h)
/-! the heap as the model has it: by address, arrays by the number of their kind -/
abbrev mh_E : Type := (Nat × vp_A) ⊕ (Nat × List Value)
abbrev mh_H : Type := Nat → Option mh_E
def mh_up (h : mh_H) (a : Nat) (e : mh_E) : mh_H := fun b => if b = a then some e else h b
def mh_we (ks : Nat → ClassId) (e : mh_E) : va_E := match e with
  | .inl x => .inl (ks x.1, x.2)
  | .inr x => .inr x
def mh_hw (ks : Nat → ClassId) (h : mh_H) : Nat → va_E := fun a => match h a with
  | some e => mh_we ks e
  | none => .inr (0, [])
theorem mh_hw_at {ks : Nat → ClassId} {h : mh_H} {a : Nat} {e : mh_E} (he : h a = some e) : mh_hw ks h a = mh_we ks e := by
  unfold mh_hw
  rw [he]
theorem mh_hw_up (ks : Nat → ClassId) (h : mh_H) (a : Nat) (e : mh_E) : mh_hw ks (mh_up h a e) = va_up (mh_hw ks h) a (mh_we ks e) := by
  funext b
  unfold mh_hw mh_up va_up
  by_cases hb : b = a
  · simp [hb]
  · simp [hb]
def mh_ty (ks : Nat → ClassId) : List (ClassId × FieldType) := [(ks 0, .int), (ks 1, .long), (ks 2, .boolean), (ks 3, .object RX1), (ks 4, .object RX7), (ks 5, .array .int), (ks 6, .array .long)]
/-- the world: the cells of L hold h; what lies outside of A is as it was in H0 -/
def mh_W (D : va_G) (ks : Nat → ClassId) (L : List Nat) (A : Nat → Prop) (H0 : Heap) (h : mh_H) (H : Heap) (locs : List Loc) : Prop :=
  va_P D vwCl (va_pl L (mh_hw ks h)) H ∧ va_D A (va_pl L (mh_hw ks h)) ∧ va_S A H0 H locs ∧ ∀ a e, h a = some e → a ∈ L
/-- links among nest mates: words that aren't good ones, carried beside -/
def mh_nest (w : Cond) : Bool := match w with
  | .methodLinkNest _ _ _ _ => true
  | .castable _ _ => true
  | .declares _ => true
  | _ => false
def mh_NB : List Cond := lw_tbl.filter mh_nest
def mh_Z (U : State) : Prop := ∀ w ∈ mh_NB, va_Nw w U
theorem mh_Z.warm {s U : State} (hW : s.WarmedH U.vm) (h : mh_Z s) : mh_Z U := fun w hw => by
  have h1 := h w hw
  have h2 := (List.mem_filter.mp hw).2
  cases w <;> first | exact va_Nw.warmM hW h1 | exact va_Nw.warmC hW h1 | exact va_Nw.warmD hW h1 | cases h2
theorem mh_Z.same {s U : State} (hW : s.vm = U.vm) (h : mh_Z s) : mh_Z U := fun w hw => by
  have h1 := h w hw
  have h2 := (List.mem_filter.mp hw).2
  cases w <;> first | exact va_Nw.same rfl hW h1 | cases h2
theorem mh_nin {w : Cond} (k : Nat) (h : lw_tbl[k]? = some w) (g : mh_nest w = true) : w ∈ mh_NB := List.mem_filter.mpr ⟨List.mem_of_getElem? h, g⟩
def mh_C (p : Program) (m : MethodId) (c : Code) (cc : ByteArray) (nL : Nat) (s : State) (args : Array Value) (own : String) (meth : Method) (D : va_G) (ks : Nat → ClassId) (A : Nat → Prop) : Prop :=
  CallFix p m c cc nL s args mh_TB own ∧ va_K D vwCl (mh_ty ks) s ∧ meth.locks = false ∧ (∀ q, s.heap.size ≤ q → A q) ∧ mh_Z s
/-! the model's words -/
def mh_gF (h : mh_H) (a ci k : Nat) : Option Value := match h a with
  | some (.inr x) => if x.1 = ci then x.2[k]? else none
  | _ => none
def mh_gI (h : mh_H) (a ci k : Nat) : Option Int32 := match mh_gF h a ci k with
  | some (.int v) => some v
  | _ => none
def mh_gR (h : mh_H) (a ci k : Nat) : Option Nat := match mh_gF h a ci k with
  | some (.ref v) => some v
  | _ => none
def mh_pI (h : mh_H) (a ci k : Nat) (v : Int32) : Option mh_H := match h a with
  | some (.inr x) => if x.1 = ci ∧ k < x.2.length then some (mh_up h a (.inr (ci, x.2.set k (.int v)))) else none
  | _ => none
def mh_pZ (h : mh_H) (a ci k : Nat) (v : Int32) : Option mh_H := if v = 0 ∨ v = 1 then mh_pI h a ci k v else none
def mh_ix (i : Int32) (n : Nat) : Prop := 0 ≤ i.toInt ∧ i.toInt < n
def mh_aI (h : mh_H) (a kd : Nat) (i : Int32) : Option Int32 := match h a with
  | some (.inl (k, n, .inl f)) => if k = kd ∧ (0 ≤ i.toInt ∧ i.toInt < n) then some (f i.toNatClampNeg) else none
  | _ => none
def mh_aJ (h : mh_H) (a : Nat) (i : Int32) : Option Int64 := match h a with
  | some (.inl (k, n, .inr (.inl f))) => if k = 1 ∧ (0 ≤ i.toInt ∧ i.toInt < n) then some (f i.toNatClampNeg) else none
  | _ => none
def mh_aR (h : mh_H) (a kd : Nat) (i : Int32) : Option Nat := match h a with
  | some (.inl (k, n, .inr (.inr (.inr (.inr f))))) => if k = kd ∧ (0 ≤ i.toInt ∧ i.toInt < n) then f i.toNatClampNeg else none
  | _ => none
def mh_aL (h : mh_H) (a kd : Nat) : Option Int32 := match h a with
  | some (.inl x) => if x.1 = kd then some (Int32.ofNat x.2.1) else none
  | _ => none
def mh_sI (h : mh_H) (a : Nat) (i v : Int32) : Option mh_H := match h a with
  | some (.inl (k, n, .inl f)) => if k = 0 ∧ (0 ≤ i.toInt ∧ i.toInt < n) then some (mh_up h a (.inl (0, n, .inl (upd f i.toNatClampNeg v)))) else none
  | _ => none
def mh_sZ (h : mh_H) (a : Nat) (i v : Int32) : Option mh_H := match h a with
  | some (.inl (k, n, .inl f)) => if k = 2 ∧ (0 ≤ i.toInt ∧ i.toInt < n) ∧ (v = 0 ∨ v = 1) then some (mh_up h a (.inl (2, n, .inl (upd f i.toNatClampNeg v)))) else none
  | _ => none
def mh_sJ (h : mh_H) (a : Nat) (i : Int32) (v : Int64) : Option mh_H := match h a with
  | some (.inl (k, n, .inr (.inl f))) => if k = 1 ∧ (0 ≤ i.toInt ∧ i.toInt < n) then some (mh_up h a (.inl (1, n, .inr (.inl (vp_updL f i.toNatClampNeg v))))) else none
  | _ => none
def mh_nm {α β : Type} (x : α) (f : α → β) : β := f x
def mh_cal {α : Type} (h : mh_H) (b ci : Nat) (o : Option α) : Option α := match h b with
  | some (.inr x) => if x.1 = ci then o else none
  | _ => none
def mh_rz (x : Int32) (h : mh_H) : Option (Int32 × mh_H) := if x = 0 ∨ x = 1 then some (x, h) else none
def mh_nz {α : Type} (c : Prop) [Decidable c] (o : Option α) : Option α := if c then none else o
/-! what they say -/
theorem mh_gF_ok {h : mh_H} {a ci k : Nat} {v : Value} (e : mh_gF h a ci k = some v) : ∃ fs, h a = some (.inr (ci, fs)) ∧ fs[k]? = some v := by
  unfold mh_gF at e
  split at e
  · rename_i x hx
    split at e
    · rename_i hc
      obtain ⟨c, fs⟩ := x
      cases hc
      exact ⟨fs, hx, e⟩
    · cases e
  · cases e
theorem mh_gI_ok {h : mh_H} {a ci k : Nat} {v : Int32} (e : mh_gI h a ci k = some v) : mh_gF h a ci k = some (.int v) := by
  unfold mh_gI at e
  split at e
  · rename_i hx
    cases e
    exact hx
  · cases e
theorem mh_gR_ok {h : mh_H} {a ci k : Nat} {v : Nat} (e : mh_gR h a ci k = some v) : mh_gF h a ci k = some (.ref v) := by
  unfold mh_gR at e
  split at e
  · rename_i hx
    cases e
    exact hx
  · cases e
theorem mh_pI_ok {h h' : mh_H} {a ci k : Nat} {v : Int32} (e : mh_pI h a ci k v = some h') : ∃ fs, h a = some (.inr (ci, fs)) ∧ k < fs.length ∧ h' = mh_up h a (.inr (ci, fs.set k (.int v))) := by
  unfold mh_pI at e
  split at e
  · rename_i x hx
    split at e
    · rename_i hc
      obtain ⟨c, fs⟩ := x
      obtain ⟨h1, h2⟩ := hc
      cases h1
      cases e
      exact ⟨fs, hx, h2, rfl⟩
    · cases e
  · cases e
theorem mh_pZ_ok {h h' : mh_H} {a ci k : Nat} {v : Int32} (e : mh_pZ h a ci k v = some h') : (v = 0 ∨ v = 1) ∧ mh_pI h a ci k v = some h' := by
  unfold mh_pZ at e
  split at e
  · rename_i hc
    exact ⟨hc, e⟩
  · cases e
theorem mh_ix_in {i : Int32} {n : Nat} (h : 0 ≤ i.toInt ∧ i.toInt < n) : vp_in i n := vp_in_iff.mpr h
theorem mh_aI_ok {h : mh_H} {a kd : Nat} {i : Int32} {v : Int32} (e : mh_aI h a kd i = some v) : ∃ n f, h a = some (.inl (kd, n, .inl f)) ∧ vp_in i n ∧ v = f i.toNatClampNeg := by
  unfold mh_aI at e
  split at e
  · rename_i k n f hx
    split at e
    · rename_i hc
      obtain ⟨h1, h2⟩ := hc
      cases h1
      cases e
      exact ⟨n, f, hx, mh_ix_in h2, rfl⟩
    · cases e
  · cases e
theorem mh_aJ_ok {h : mh_H} {a : Nat} {i : Int32} {v : Int64} (e : mh_aJ h a i = some v) : ∃ n f, h a = some (.inl (1, n, .inr (.inl f))) ∧ vp_in i n ∧ v = f i.toNatClampNeg := by
  unfold mh_aJ at e
  split at e
  · rename_i k n f hx
    split at e
    · rename_i hc
      obtain ⟨h1, h2⟩ := hc
      cases h1
      cases e
      exact ⟨n, f, hx, mh_ix_in h2, rfl⟩
    · cases e
  · cases e
theorem mh_aR_ok {h : mh_H} {a kd : Nat} {i : Int32} {v : Nat} (e : mh_aR h a kd i = some v) : ∃ n f, h a = some (.inl (kd, n, .inr (.inr (.inr (.inr f))))) ∧ vp_in i n ∧ f i.toNatClampNeg = some v := by
  unfold mh_aR at e
  split at e
  · rename_i k n f hx
    split at e
    · rename_i hc
      obtain ⟨h1, h2⟩ := hc
      cases h1
      exact ⟨n, f, hx, mh_ix_in h2, e⟩
    · cases e
  · cases e
theorem mh_aL_ok {h : mh_H} {a kd : Nat} {v : Int32} (e : mh_aL h a kd = some v) : ∃ x, h a = some (.inl (kd, x)) ∧ Int32.ofNat x.1 = v := by
  unfold mh_aL at e
  split at e
  · rename_i x hx
    split at e
    · rename_i hc
      obtain ⟨k, x⟩ := x
      cases hc
      cases e
      exact ⟨x, hx, rfl⟩
    · cases e
  · cases e
theorem mh_sI_ok {h h' : mh_H} {a : Nat} {i v : Int32} (e : mh_sI h a i v = some h') : ∃ n f, h a = some (.inl (0, n, .inl f)) ∧ vp_in i n ∧ h' = mh_up h a (.inl (0, n, .inl (upd f i.toNatClampNeg v))) := by
  unfold mh_sI at e
  split at e
  · rename_i k n f hx
    split at e
    · rename_i hc
      obtain ⟨h1, h2⟩ := hc
      cases h1
      cases e
      exact ⟨n, f, hx, mh_ix_in h2, rfl⟩
    · cases e
  · cases e
theorem mh_sZ_ok {h h' : mh_H} {a : Nat} {i v : Int32} (e : mh_sZ h a i v = some h') : ∃ n f, h a = some (.inl (2, n, .inl f)) ∧ vp_in i n ∧ (v = 0 ∨ v = 1) ∧ h' = mh_up h a (.inl (2, n, .inl (upd f i.toNatClampNeg v))) := by
  unfold mh_sZ at e
  split at e
  · rename_i k n f hx
    split at e
    · rename_i hc
      obtain ⟨h1, h2, h3⟩ := hc
      cases h1
      cases e
      exact ⟨n, f, hx, mh_ix_in h2, h3, rfl⟩
    · cases e
  · cases e
theorem mh_sJ_ok {h h' : mh_H} {a : Nat} {i : Int32} {v : Int64} (e : mh_sJ h a i v = some h') : ∃ n f, h a = some (.inl (1, n, .inr (.inl f))) ∧ vp_in i n ∧ h' = mh_up h a (.inl (1, n, .inr (.inl (vp_updL f i.toNatClampNeg v)))) := by
  unfold mh_sJ at e
  split at e
  · rename_i k n f hx
    split at e
    · rename_i hc
      obtain ⟨h1, h2⟩ := hc
      cases h1
      cases e
      exact ⟨n, f, hx, mh_ix_in h2, rfl⟩
    · cases e
  · cases e
theorem mh_cal_ok {α : Type} {h : mh_H} {b ci : Nat} {o : Option α} {r : α} (e : mh_cal h b ci o = some r) : (∃ fs, h b = some (.inr (ci, fs))) ∧ o = some r := by
  unfold mh_cal at e
  split at e
  · rename_i x hx
    split at e
    · rename_i hc
      obtain ⟨c, fs⟩ := x
      cases hc
      exact ⟨⟨fs, hx⟩, e⟩
    · cases e
  · cases e
theorem mh_rz_ok {x r : Int32} {h h' : mh_H} (e : mh_rz x h = some (r, h')) : (x = 0 ∨ x = 1) ∧ some (x, h) = some (r, h') := by
  unfold mh_rz at e
  split at e
  · rename_i hc
    exact ⟨hc, e⟩
  · cases e
theorem mh_ob {α β : Type} {o : Option α} {f : α → Option β} {r : β} (h : o.bind f = some r) : ∃ v, o = some v ∧ f v = some r := by
  cases o with
  | none => cases h
  | some v => exact ⟨v, rfl, h⟩
theorem mh_if {c : Prop} {d : Decidable c} {α : Type} {x y : Option α} {r : α} (h : (if c then x else y) = some r) : (c → x = some r) ∧ (¬ c → y = some r) := by
  constructor
  · intro hc
    rw [if_pos hc] at h
    exact h
  · intro hc
    rw [if_neg hc] at h
    exact h
theorem mh_nzk {c : Prop} {d : Decidable c} {α : Type} {o : Option α} {r : α} (h : mh_nz c o = some r) : ¬ c ∧ o = some r := by
  unfold mh_nz at h
  by_cases hc : c
  · rw [if_pos hc] at h
    cases h
  · rw [if_neg hc] at h
    exact ⟨hc, h⟩
/-- a cell of the world, by its place in the list -/
theorem mh_k {D : va_G} {ks : Nat → ClassId} {L : List Nat} {A : Nat → Prop} {H0 : Heap} {h : mh_H} {H : Heap} {locs : List Loc} (wd : mh_W D ks L A H0 h H locs) {a : Nat} {e : mh_E} (he : h a = some e) : a ∈ L ∧ ∃ k : Nat, (va_pl L (mh_hw ks h))[k]? = some (a, mh_hw ks h a) ∧ (va_pl L (mh_hw ks h))[k]? = some (a, mh_we ks e) := by
  have hm := wd.2.2.2 a e he
  obtain ⟨k, hk⟩ := va_pl_get (X := []) (f := mh_hw ks h) hm
  have hk : (va_pl L (mh_hw ks h))[k]? = some (a, mh_hw ks h a) := hk
  exact ⟨hm, k, hk, by rw [hk, mh_hw_at he]⟩
/-- .. and what stands there anew -/
theorem mh_set {D : va_G} {ks : Nat → ClassId} {L : List Nat} {A : Nat → Prop} {H0 : Heap} {h : mh_H} {a k : Nat} {e : mh_E} {H1 : Heap} {locs1 : List Loc} (hD0 : va_D A (va_pl L (mh_hw ks h))) (hm : a ∈ L) (hk : (va_pl L (mh_hw ks h))[k]? = some (a, mh_hw ks h a)) (hd : ∀ b x, h b = some x → b ∈ L)
    (hP : va_P D vwCl ((va_pl L (mh_hw ks h)).set k (a, mh_we ks e)) H1) (hD : va_D A ((va_pl L (mh_hw ks h)).set k (a, mh_we ks e))) (hS : va_S A H0 H1 locs1) : mh_W D ks L A H0 (mh_up h a e) H1 locs1 := by
  have e1 : (va_pl L (mh_hw ks h)).set k (a, mh_we ks e) = va_pl L (mh_hw ks (mh_up h a e)) := by
    rw [mh_hw_up]
    exact va_pl_set (X := []) (f := mh_hw ks h) hD0 hm hk
  rw [e1] at hP hD
  refine ⟨hP, hD, hS, fun b x hb => ?_⟩
  unfold mh_up at hb
  by_cases hba : b = a
  · rw [hba]
    exact hm
  · rw [if_neg hba] at hb
    exact hd b x hb
