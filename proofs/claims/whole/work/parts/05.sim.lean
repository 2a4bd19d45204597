/-- the surroundings: base address and where each cell lies behind it, region, class numbers, classes of arrays, addresses of static arrays, their lengths and contents, whether cells may be made -/
abbrev tv_E : Type := (Nat × {f : Nat → Nat // ∀ i j, f i = f j → i = j}) × (Nat → Prop) × va_G × (Nat → ClassId) × (Nat → Nat) × (Nat → Nat × (Nat → Int)) × Prop
abbrev tv_sz (E : tv_E) : Nat := E.1.1
/-- a cell's address -/
def tv_ad (E : tv_E) (k : Nat) : Nat := E.1.1 + E.1.2.1 k
theorem tv_ad_inj {E : tv_E} {i j : Nat} (h : tv_ad E i = tv_ad E j) : i = j := E.1.2.2 i j (Nat.add_left_cancel h)
abbrev tv_A (E : tv_E) : Nat → Prop := E.2.1
abbrev tv_G (E : tv_E) : va_G := E.2.2.1
abbrev tv_ca (E : tv_E) : Nat → ClassId := E.2.2.2.1
abbrev tv_ta (E : tv_E) : Nat → Nat := E.2.2.2.2.1
abbrev tv_sa (E : tv_E) : Nat → Nat × (Nat → Int) := E.2.2.2.2.2.1
def tv_al (E : tv_E) : Prop := E.2.2.2.2.2.2 ∧ ∀ k, E.1.2.1 k = k
theorem tv_al_ad {E : tv_E} (h : tv_al E) (k : Nat) : tv_ad E k = tv_sz E + k := by unfold tv_ad; rw [h.2 k]
def tv_isN (w : Cond) : Bool := match w with
  | .methodLinkNest _ _ _ _ => true
  | .fieldLinkNest _ _ _ _ _ _ => true
  | _ => false
/-- the tables' words that stay, and those of nest mates -/
def tv_tb : List Cond := lw_tbl.filter (fun w => k2_isCode w || goodWord w)
def tv_nb : List Cond := lw_tbl.filter tv_isN
theorem tv_tbm {w : Cond} (i : Nat) (h : lw_tbl[i]? = some w) (hg : (k2_isCode w || goodWord w) = true) : w ∈ tv_tb := List.mem_filter.mpr ⟨List.mem_of_getElem? h, hg⟩
theorem tv_nbm {w : Cond} (i : Nat) (h : lw_tbl[i]? = some w) (hg : tv_isN w = true) : w ∈ tv_nb := List.mem_filter.mpr ⟨List.mem_of_getElem? h, hg⟩
theorem tv_good : GoodIn tv_tb tv_tb := by
  intro w hw
  refine ⟨hw, ?_⟩
  have h := (List.mem_filter.mp hw).2
  simp only [Bool.or_eq_true] at h
  rcases h with h | h
  · cases w <;> first | (simp [k2_isCode] at h; done) | exact Or.inl rfl
  · exact good_of_word h
theorem tv_nw_on {w : Cond} (hw : w ∈ tv_nb) : w.onTables = true := by
  have h := (List.mem_filter.mp hw).2
  cases w <;> first | (simp [tv_isN] at h; done) | rfl
/-- a method: its name, its code, its locals, what it returns -/
abbrev tv_Y : Type := MethodName × ByteArray × Nat × Option FieldType
def tv_v (E : tv_E) : tv_V → Value
  | .inl a => .int (Int32.ofInt a)
  | .inr (.inl a) => .long (Int64.ofInt a)
  | .inr (.inr (.inl 0)) => .null
  | .inr (.inr (.inl (r + 1))) => .ref (tv_ad E r)
  | .inr (.inr (.inr (.inl k))) => .ref (tv_ta E k)
  | .inr (.inr (.inr (.inr _))) => .null
def tv_tys (E : tv_E) : List (ClassId × FieldType) := [(tv_ca E 0, .int), (tv_ca E 1, .byte), (tv_ca E 2, .short), (tv_ca E 3, .boolean), (tv_ca E 4, .long), (tv_ca E 5, .object "TemperInHive$Shelf")]
def tv_ty (c : Nat) : Nat → FieldType := match c with
  | 0 => tyX0
  | 1 => tyX1
  | 2 => tyX2
  | 3 => tyX3
  | 4 => tyX4
  | 5 => tyX5
  | 6 => tyX6
  | 7 => tyX7
  | 8 => tyX8
  | 9 => tyX9
  | 10 => tyX10
  | 11 => tyX11
  | _ => tyX12
def tv_isR (t : FieldType) : Bool := match t with
  | .array _ => true
  | .object _ => true
  | _ => false
def tv_fv (E : tv_E) (t : FieldType) (a : Int) : Value := if tv_isR t = true then tv_v E (tv_R a.toNat) else .int (Int32.ofInt a)
def tv_rf (E : tv_E) (a : Int) : Option Nat := match a.toNat with
  | 0 => none
  | r + 1 => some (tv_ad E r)
def tv_cell (E : tv_E) (c n : Nat) (f : Nat → Int) : va_E :=
  if c < 20 then .inr (c, (List.range n).map (fun j => tv_fv E (tv_ty c j) (f j)))
  else if c < 24 then .inl (tv_ca E (c - 20), n, .inl (fun j => Int32.ofInt (f j)))
  else if c = 24 then .inl (tv_ca E 4, n, .inr (.inl (fun j => Int64.ofInt (f j))))
  else .inl (tv_ca E 5, n, .inr (.inr (.inr (.inr (fun j => tv_rf E (f j))))))
def tv_ws (E : tv_E) (M : tv_M) : va_W := M.1.mapIdx (fun k q => (tv_ad E k, tv_cell E q.1 q.2 (M.2 (k + 1))))
def tv_upd (M : tv_M) (r j : Nat) (v : Int) : tv_M := (M.1, fun r' j' => if r' = r ∧ j' = j then v else M.2 r' j')
/-- the statics -/
def tv_st (E : tv_E) (s : State) (H : Heap) : Prop :=
  (∀ k, k < 3 → va_T .int (tv_ta E k) (tv_sa E k).1 (fun j => .int (Int32.ofInt ((tv_sa E k).2 j))) (tv_A E) s H) ∧
  va_Z "TemperInHive" "OWN_BODIES" "[I" (.ref (tv_ta E 0)) (tv_A E) s H ∧ va_Z "TemperInHive" "KIND_ABOVE" "[I" (.ref (tv_ta E 1)) (tv_A E) s H ∧ (∀ w ∈ tv_nb, va_Nw w s) ∧ va_AO "TemperInHive$Shelf" s
/-- the heap holds the memory -/
def tv_wd (E : tv_E) (M : tv_M) (H : Heap) : Prop :=
  va_P (tv_G E) vwCl (tv_ws E M) H ∧ (∀ k, k < M.1.length → tv_A E (tv_ad E k)) ∧ (tv_al E → H.size = tv_sz E + M.1.length ∧ ∀ q, tv_sz E ≤ q → tv_A E q)
def tv_lr (E : tv_E) (ls : List tv_V) (Ls : Array Slot) : Prop := Ls.size = ls.length ∧ lv_wf Ls ∧ ∀ (i : Nat) (v : tv_V), ls[i]? = some v → v ≠ tv_U → Ls[i]? = some (.val (tv_v E v))
def tv_okv (v : tv_V) : Prop := match v with
  | .inl a => tv_in a
  | .inr (.inl a) => tv_inl a
  | _ => True
def tv_oks (vs : List tv_V) : Prop := ∀ v ∈ vs, tv_okv v
def tv_okM (M : tv_M) : Prop := ∀ (k c n : Nat), M.1[k]? = some (c, n) → ∀ j, if c = 24 then tv_inl (M.2 (k + 1) j) else tv_in (M.2 (k + 1) j)
def tv_okr (rt : Option FieldType) (r : Int) : Prop := match rt with
  | none => True
  | some .long => tv_inl r
  | some .boolean => r = 0 ∨ r = 1
  | some .int => tv_in r
  | some _ => False
def tv_mc (M : tv_M) : Nat := M.1.length
def tv_ms (M : tv_M) : Nat := (M.1.map (fun q => q.2)).sum
/-- what stands on the stack as a method returns, and the instruction -/
def tv_rs (rt : Option FieldType) (r : Int) : List Value := match rt with
  | none => []
  | some .long => [.long (Int64.ofInt r)]
  | _ => [.int (Int32.ofInt r)]
def tv_ri (rt : Option FieldType) : Instr := match rt with
  | none => .return_
  | some .long => .lreturn
  | _ => .ireturn
/-- the machine's surroundings of a method's frame -/
def tv_cx (E : tv_E) (d : Nat) (y : tv_Y) (p : Program) (R : Room) (s : State) (m : MethodId) (args : Array Value) (meth : Method) (c : Code) : Prop :=
  p.tables.exec = Jvm.exec ∧ c.code = y.2.1 ∧ c.maxLocals = y.2.2.1 ∧ meth.sig.returnType = y.2.2.2 ∧ s.vm.findClass y.1.cls = some m.cls ∧ (∀ w ∈ tv_tb, w.before args s = true) ∧ meth.locks = false ∧ meth.name = y.1.name ∧
  va_K (tv_G E) vwCl (tv_tys E) s ∧ tv_st E s s.heap ∧ True ∧ d ≤ R.frames ∧ 64 * d ≤ R.locals
/-- from this frame and memory the method ends with r and the memory M' -/
def tv_ok (l : Launch) (E : tv_E) (d : Nat) (y : tv_Y) (pc : Nat) (ls st : List tv_V) (M : tv_M) (r : Int) (M' : tv_M) : Prop :=
  tv_oks ls → tv_oks st → tv_okM M → tv_okM M' ∧ tv_okr y.2.2.2 r ∧ tv_mc M ≤ tv_mc M' ∧ tv_ms M ≤ tv_ms M' ∧
  ∀ (p : Program) (e : Env) (R : Room) (s : State) (m : MethodId) (args : Array Value) (below : List Frame) (meth : Method) (c : Code) (Z : State → Prop) (k j : Nat), tv_cx E d y p R s m args meth c →
    k + (tv_mc M' - tv_mc M) ≤ R.cells → j + (tv_ms M' - tv_ms M) ≤ R.slots →
    (∀ (pc' : Nat) (Ls' : Array Slot) (H' : Heap) (locs' : List Loc), tv_wd E M' H' → va_S (tv_A E) s.heap H' locs' → decode y.2.1 pc' = .ok (tv_ri y.2.2.2, 1) →
      W p l e R s m args below meth c H' locs' (k + (tv_mc M' - tv_mc M)) (j + (tv_ms M' - tv_ms M)) Z (F0 m pc' Ls' (tv_rs y.2.2.2 r))) →
    ∀ (Ls : Array Slot) (H : Heap) (locs : List Loc), tv_lr E ls Ls → tv_wd E M H → va_S (tv_A E) s.heap H locs →
      W p l e R s m args below meth c H locs k j Z (F0 m pc Ls (st.map (tv_v E)))
/-- the frame goes on as the expression says -/
def tv_sim (l : Launch) (E : tv_E) (d : Nat) (y : tv_Y) (pc : Nat) (ls st : List tv_V) (M : tv_M) (x : Option (Int × tv_M)) : Prop :=
  ∀ r M', x = some (r, M') → tv_ok l E d y pc ls st M r M'
section TV
variable {l : Launch} {E : tv_E} {d : Nat} {y : tv_Y} {pc : Nat} {ls st : List tv_V} {M : tv_M} {x : Option (Int × tv_M)}
theorem tv_oks_cons {v : tv_V} {vs : List tv_V} : tv_oks (v :: vs) ↔ tv_okv v ∧ tv_oks vs := by simp [tv_oks]
/-- a step that leaves locals and memory -/
theorem tv_plain {pc' : Nat} {st' : List tv_V} (hok : tv_oks ls → tv_oks st → tv_oks st')
    (h : ∀ (p : Program) (e : Env) (R : Room) (s : State) (m : MethodId) (args : Array Value) (below : List Frame) (meth : Method) (c : Code) (Z : State → Prop) (k j : Nat) (Ls : Array Slot) (H : Heap) (locs : List Loc), tv_oks ls → tv_oks st → tv_cx E d y p R s m args meth c → tv_lr E ls Ls →
      W p l e R s m args below meth c H locs k j Z (F0 m pc' Ls (st'.map (tv_v E))) → W p l e R s m args below meth c H locs k j Z (F0 m pc Ls (st.map (tv_v E))))
    (hs : tv_sim l E d y pc' ls st' M x) : tv_sim l E d y pc ls st M x := by
  intro r M' hx o1 o2 o3
  obtain ⟨h1, h2, h3, h4, h5⟩ := hs r M' hx o1 (hok o1 o2) o3
  refine ⟨h1, h2, h3, h4, ?_⟩
  intro p e R s m args below meth c Z k j C hc hj hret Ls H locs hl hw hS
  exact h p e R s m args below meth c Z k j Ls H locs o1 o2 C hl (h5 p e R s m args below meth c Z k j C hc hj hret Ls H locs hl hw hS)
/-- a branch -/
theorem tv_branch {pc1 pc2 : Nat} {st' : List tv_V} {b : Prop} [Decidable b] {x1 x2 : Option (Int × tv_M)} (hok : tv_oks st → tv_oks st')
    (h : ∀ (p : Program) (e : Env) (R : Room) (s : State) (m : MethodId) (args : Array Value) (below : List Frame) (meth : Method) (c : Code) (Z : State → Prop) (k j : Nat) (Ls : Array Slot) (H : Heap) (locs : List Loc), tv_oks ls → tv_oks st → tv_cx E d y p R s m args meth c →
      (b → W p l e R s m args below meth c H locs k j Z (F0 m pc1 Ls (st'.map (tv_v E)))) → (¬ b → W p l e R s m args below meth c H locs k j Z (F0 m pc2 Ls (st'.map (tv_v E)))) → W p l e R s m args below meth c H locs k j Z (F0 m pc Ls (st.map (tv_v E))))
    (h1 : tv_sim l E d y pc1 ls st' M x1) (h2 : tv_sim l E d y pc2 ls st' M x2) : tv_sim l E d y pc ls st M (if b then x1 else x2) := by
  intro r M' hx o1 o2 o3
  by_cases hb : b
  · rw [if_pos hb] at hx
    obtain ⟨a1, a2, a3, a4, a5⟩ := h1 r M' hx o1 (hok o2) o3
    refine ⟨a1, a2, a3, a4, ?_⟩
    intro p e R s m args below meth c Z k j C hc hj hret Ls H locs hl hw hS
    exact h p e R s m args below meth c Z k j Ls H locs o1 o2 C (fun _ => a5 p e R s m args below meth c Z k j C hc hj hret Ls H locs hl hw hS) (fun hn => absurd hb hn)
  · rw [if_neg hb] at hx
    obtain ⟨a1, a2, a3, a4, a5⟩ := h2 r M' hx o1 (hok o2) o3
    refine ⟨a1, a2, a3, a4, ?_⟩
    intro p e R s m args below meth c Z k j C hc hj hret Ls H locs hl hw hS
    exact h p e R s m args below meth c Z k j Ls H locs o1 o2 C (fun hn => absurd hn hb) (fun _ => a5 p e R s m args below meth c Z k j C hc hj hret Ls H locs hl hw hS)
/-- a step that changes the locals -/
theorem tv_store {pc' : Nat} {ls' st' : List tv_V} (hok : tv_oks ls → tv_oks st → tv_oks ls' ∧ tv_oks st')
    (h : ∀ (p : Program) (e : Env) (R : Room) (s : State) (m : MethodId) (args : Array Value) (below : List Frame) (meth : Method) (c : Code) (Z : State → Prop) (k j : Nat) (Ls : Array Slot) (H : Heap) (locs : List Loc), tv_oks ls → tv_oks st → tv_cx E d y p R s m args meth c → tv_lr E ls Ls →
      (∀ Ls', tv_lr E ls' Ls' → W p l e R s m args below meth c H locs k j Z (F0 m pc' Ls' (st'.map (tv_v E)))) → W p l e R s m args below meth c H locs k j Z (F0 m pc Ls (st.map (tv_v E))))
    (hs : tv_sim l E d y pc' ls' st' M x) : tv_sim l E d y pc ls st M x := by
  intro r M' hx o1 o2 o3
  obtain ⟨h1, h2, h3, h4, h5⟩ := hs r M' hx (hok o1 o2).1 (hok o1 o2).2 o3
  refine ⟨h1, h2, h3, h4, ?_⟩
  intro p e R s m args below meth c Z k j C hc hj hret Ls H locs hl hw hS
  exact h p e R s m args below meth c Z k j Ls H locs o1 o2 C hl (fun Ls' hl' => h5 p e R s m args below meth c Z k j C hc hj hret Ls' H locs hl' hw hS)
def tv_as (E : tv_E) (ls : List tv_V) : List (Nat × Value) := ((List.range ls.length).filter (fun i => match ls[i]? with
  | some (.inr (.inr (.inr (.inr _)))) => false
  | _ => true)).map (fun i => (i, tv_v E (ls.getD i tv_U)))
theorem tv_as_mem {i : Nat} {v : tv_V} (h : ls[i]? = some v) (hv : v ≠ tv_U) : (i, tv_v E v) ∈ tv_as E ls := by
  unfold tv_as
  refine List.mem_map.mpr ⟨i, List.mem_filter.mpr ⟨List.mem_range.mpr (List.getElem?_eq_some_iff.mp h).1, ?_⟩, ?_⟩
  · rw [h]
    rcases v with a | a | a | a | a <;> first | rfl | exact absurd rfl hv
  · rw [List.getD_eq_getElem?_getD, h]; rfl
theorem tv_as_has {Ls : Array Slot} (h : tv_lr E ls Ls) : lv_has Ls ls.length (tv_as E ls) := by
  refine ⟨h.1, h.2.1, fun q hq => ?_⟩
  unfold tv_as at hq
  obtain ⟨i, hi, rfl⟩ := List.mem_map.mp hq
  obtain ⟨h1, h2⟩ := List.mem_filter.mp hi
  have hlt := List.mem_range.mp h1
  have e : ls[i]? = some (ls.getD i tv_U) := by rw [List.getD_eq_getElem?_getD, List.getElem?_eq_getElem hlt]; rfl
  refine h.2.2 i _ e ?_
  intro hu
  rw [e, hu] at h2
  simp at h2
/-- a place that may be written without breaking a long -/
def tv_sok (ls : List tv_V) (i : Nat) : Bool := match i with
  | 0 => true
  | i + 1 => match ls[i]? with
    | some (.inr (.inl _)) => false
    | _ => true
theorem tv_cat1 {v : tv_V} (h : ∀ a, v ≠ tv_J a) : (tv_v E v).category = 1 := by
  rcases v with a | a | a | a | a
  · rfl
  · exact absurd rfl (h a)
  · cases a <;> rfl
  · rfl
  · rfl
theorem tv_lr_set {Ls' : Array Slot} {i : Nat} {v : tv_V} (hi : i < ls.length) (hs : tv_sok ls i = true)
    (h : lv_has Ls' ls.length ((i, tv_v E v) :: (tv_as E ls).filter (fun q => !(q.1 == i) && !(q.1 + 1 == i && q.2.category == 2)))) : tv_lr E (ls.set i v) Ls' := by
  refine ⟨by rw [List.length_set]; exact h.1, h.2.1, fun j w hj hw => ?_⟩
  by_cases hij : i = j
  · subst hij
    rw [List.getElem?_set_self hi] at hj
    cases hj
    exact h.2.2 _ List.mem_cons_self
  · rw [List.getElem?_set_ne hij] at hj
    refine h.2.2 (j, tv_v E w) (List.mem_cons_of_mem _ (List.mem_filter.mpr ⟨tv_as_mem hj hw, ?_⟩))
    simp only [Bool.and_eq_true, Bool.not_eq_true', beq_eq_false_iff_ne, Bool.and_eq_false_iff]
    refine ⟨fun q => hij q.symm, ?_⟩
    by_cases hk : j + 1 = i
    · right
      subst hk
      simp only [tv_sok, hj] at hs
      rw [tv_cat1 (v := w) (by rintro a rfl; simp at hs)]
      decide
    · left; exact hk
theorem tv_lr_set2 {Ls' : Array Slot} {i : Nat} {a : Int} (hi : i + 1 < ls.length) (hs : tv_sok ls i = true)
    (h : lv_has Ls' ls.length ((i, Value.long (Int64.ofInt a)) :: (tv_as E ls).filter (fun q => !(q.1 == i) && (!(q.1 == i + 1) && !(q.1 + 1 == i && q.2.category == 2))))) : tv_lr E ((ls.set i (tv_J a)).set (i + 1) tv_U) Ls' := by
  refine ⟨by rw [List.length_set, List.length_set]; exact h.1, h.2.1, fun j w hj hw => ?_⟩
  by_cases hij1 : i + 1 = j
  · subst hij1
    rw [List.getElem?_set_self (by rw [List.length_set]; exact hi)] at hj
    cases hj
    exact absurd rfl hw
  · rw [List.getElem?_set_ne hij1] at hj
    by_cases hij : i = j
    · subst hij
      rw [List.getElem?_set_self (by omega)] at hj
      cases hj
      exact h.2.2 _ List.mem_cons_self
    · rw [List.getElem?_set_ne hij] at hj
      refine h.2.2 (j, tv_v E w) (List.mem_cons_of_mem _ (List.mem_filter.mpr ⟨tv_as_mem hj hw, ?_⟩))
      simp only [Bool.and_eq_true, Bool.not_eq_true', beq_eq_false_iff_ne, Bool.and_eq_false_iff]
      refine ⟨fun q => hij q.symm, fun q => hij1 q.symm, ?_⟩
      by_cases hk : j + 1 = i
      · right
        subst hk
        simp only [tv_sok, hj] at hs
        rw [tv_cat1 (v := w) (by rintro a rfl; simp at hs)]
        decide
      · left; exact hk
theorem tv_oks_set {i : Nat} {v : tv_V} (h : tv_oks ls) (hv : tv_okv v) : tv_oks (ls.set i v) := by
  intro w hw
  rcases List.mem_or_eq_of_mem_set hw with h1 | h1
  · exact h w h1
  · rw [h1]; exact hv
theorem tv_oks_at {i : Nat} {v : tv_V} (h : tv_oks ls) (hi : ls[i]? = some v) : tv_okv v := h v (List.mem_of_getElem? hi)
end TV
