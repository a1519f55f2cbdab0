/-! AN ABSTRACT MACHINE over small heaps: cells are numbered from 0, a reference is a cell's number (1000 + j: an outer array of ints that nobody writes). gst runs one instruction, grun a row of them; gW says: from here the method comes to an end of which E holds. -/
abbrev gL : Type := List (Nat × Value)
/-- ints, longs, references, an object -/
abbrev gC : Type := (Nat × (Nat → Int32)) ⊕ (Nat × (Nat → Int64)) ⊕ (List (Option Nat)) ⊕ (Nat × List Value)
abbrev gH : Type := List gC
abbrev gG : Type := va_G × ClassId × ClassId × ClassId
abbrev cI (n : Nat) (f : Nat → Int32) : gC := .inl (n, f)
abbrev cJ (n : Nat) (f : Nat → Int64) : gC := .inr (.inl (n, f))
abbrev cR (xs : List (Option Nat)) : gC := .inr (.inr (.inl xs))
abbrev cO (ci : Nat) (fs : List Value) : gC := .inr (.inr (.inr (ci, fs)))
def gmv (ad : Nat → Nat) (v : Value) : Value := match v with
  | .ref k => .ref (ad k)
  | v => v
def gmc (G : gG) (ad : Nat → Nat) (e : gC) : va_E := match e with
  | .inl (n, f) => .inl (G.2.1, n, .inl f)
  | .inr (.inl (n, f)) => .inl (G.2.2.1, n, .inr (.inl f))
  | .inr (.inr (.inl xs)) => .inl (G.2.2.2, xs.length, .inr (.inr (.inr (.inr fun i => (xs.getD i none).map ad))))
  | .inr (.inr (.inr (ci, fs))) => .inr (ci, fs.map (gmv ad))
def gmw (G : gG) (ad : Nat → Nat) (h : gH) : va_W := h.mapIdx fun k e => (ad k, gmc G ad e)
def gml (ad : Nat → Nat) (l : gL) : gL := l.map fun q => (q.1, gmv ad q.2)
abbrev gTys (G : gG) : List (ClassId × FieldType) := [(G.2.1, .int), (G.2.2.1, .int), (G.2.2.2, .object "GoldSheets$Dome")]
theorem gmw_at (G : gG) (ad : Nat → Nat) (h : gH) (k : Nat) : (gmw G ad h)[k]? = (h[k]?).map fun e => (ad k, gmc G ad e) := by
  unfold gmw
  rw [List.getElem?_mapIdx]
theorem gmw_len (G : gG) (ad : Nat → Nat) (h : gH) : (gmw G ad h).length = h.length := by
  unfold gmw
  exact List.length_mapIdx
theorem gmw_set (G : gG) (ad : Nat → Nat) (h : gH) (k : Nat) (e : gC) : (gmw G ad h).set k (ad k, gmc G ad e) = gmw G ad (h.set k e) := by
  apply List.ext_getElem?
  intro j
  rw [gmw_at, List.getElem?_set, List.getElem?_set, gmw_len, gmw_at]
  by_cases hk : k = j
  · subst hk
    by_cases hl : k < h.length
    · simp [hl]
    · simp [hl]
  · simp [hk]
theorem gmv_cat (ad : Nat → Nat) (v : Value) : (gmv ad v).category = v.category := by cases v <;> rfl
theorem gml_mem {ad : Nat → Nat} {l : gL} {q : Nat × Value} (h : q ∈ l) : (q.1, gmv ad q.2) ∈ gml ad l := List.mem_map_of_mem (f := fun q => (q.1, gmv ad q.2)) h
/-- the outer arrays: 0 the script, 1 to 3 the class's own constant rows -/
def gx (sc : Nat × (Nat → Int32)) (j : Nat) : Nat × (Nat → Int32) := match j with
  | 0 => sc
  | 1 => (6, fun i => ([50, 120, 0, 2, 30, 10] : List Int32).getD i 0)
  | 2 => (6, fun i => ([1, 10, 0, 0, 1, 0] : List Int32).getD i 0)
  | _ => (6, fun i => ([200, 500, 1, 9, 99, 99] : List Int32).getD i 0)
def gsn (j : Nat) : String := match j with
  | 1 => "FIRST_SETTINGS"
  | 2 => "LOWEST_SETTINGS"
  | _ => "HIGHEST_SETTINGS"
/-- exceptions that are none of the other kind -/
def gNcs : List (String × String) := []
/-- what holds around every method: the constants' cells, which it doesn't write -/
def gAmb (sc : Nat × (Nat → Int32)) (ad : Nat → Nat) (A : Nat → Prop) (U : State) : Prop :=
  (vx_Zq Bundle.tN "UNASSIGNED_STACK" Bundle.steD A U U.heap ∧ vx_Zq Bundle.tN "SUPPRESSED_SENTINEL" Bundle.listD A U U.heap ∧ va_AO "GoldSheets$Dome" U ∧ ∀ q ∈ gNcs, va_Nc q.1 q.2 U) ∧
  (∀ j, j < 4 → va_T .int (ad (1000 + j)) (gx sc j).1 (fun i => .int ((gx sc j).2 i)) A U U.heap) ∧
  (∀ j, 1 ≤ j → j < 4 → va_Z "GoldSheets" (gsn j) "[I" (.ref (ad (1000 + j))) A U U.heap) ∧
  (∀ q ∈ gStr, ∃ a, vk_R q.1 q.2.1 q.2.2 a U) ∧ (∀ w ∈ gNs, va_Nw w U)
theorem gAmb.to {sc : Nat × (Nat → Int32)} {ad ad' : Nat → Nat} {A B : Nat → Prop} {u U : State} (h : gAmb sc ad A u) (hW : u.WarmedH U.vm) (hq : ∀ a : Nat, a < u.heap.size → ¬ A a → U.heap[a]? = u.heap[a]?) (hAB : ∀ q, B q → A q) (had : ∀ j, j < 4 → ad' (1000 + j) = ad (1000 + j)) : gAmb sc ad' B U := by
  obtain ⟨⟨h1, h2, h2o, h2n⟩, h3, h4, h5, h6⟩ := h
  refine ⟨⟨((vx_Zq.moved hW.alike h1).kept hq).narrow hAB, ((vx_Zq.moved hW.alike h2).kept hq).narrow hAB, va_AO.moved hW.alike h2o, fun q hq => va_Nc.moved hW.alike (h2n q hq)⟩, fun j hj => ?_, fun j hj1 hj => ?_, fun q hm => ?_, gNs_warm hW h6⟩
  · rw [had j hj]
    exact ((va_T.moved hW.alike (h3 j hj)).kept hq).narrow hAB
  · rw [had j hj]
    exact ((va_Z.moved hW.alike (h4 j hj1 hj)).kept hq).narrow hAB
  · obtain ⟨a, ha⟩ := h5 q hm
    exact ⟨a, ha.warm hW⟩
/-- the fixed surroundings of a method's frame -/
def gCtx (K : gK) (G : gG) (sc : Nat × (Nat → Int32)) (ad : Nat → Nat) (A : Nat → Prop) (p : Program) (la : Launch) (s : State) (m : MethodId) (args : Array Value) (meth : Method) (c : Code) : Prop :=
  p.tables.exec = Jvm.exec ∧ c.code = K.2.2.1 ∧ c.maxLocals = K.2.2.2.1 ∧ s.vm.findClass (gown K.1) = some m.cls ∧ (∀ w ∈ gTs, w.before args s = true) ∧ va_K G.1 gcl (gTys G) s ∧ gAmb sc ad A s ∧
  (∀ q, s.heap.size ≤ q → A q) ∧ la.stackTraces = false ∧ meth.locks = false ∧ meth.sig.returnType = K.2.2.2.2.1 ∧ meth.name = K.2.1.name ∧ c.exceptionTable.toList = tableOf K.2.2.2.2.2
/-- how a method ends: it returns, or throws an exception of a class -/
abbrev gO : Type := Option Value ⊕ String
def gQ (G : gG) (ad : Nat → Nat) (n0 : Nat) (A : Nat → Prop) (E : gO → gH → Prop) : Array Value → State → Outcome → State → Prop := fun _ st oc t =>
  (∃ (ad' : Nat → Nat) (v : Option Value) (h' : gH), oc = .returned (v.map (gmv ad')) ∧ E (.inl v) h' ∧ n0 ≤ h'.length ∧ (∀ k, (k < n0 ∨ 1000 ≤ k) → ad' k = ad k) ∧ va_P G.1 gcl (gmw G ad' h') t.heap ∧ va_D A (gmw G ad' h')) ∧ va_F A st t
def gXC (G : gG) (ad : Nat → Nat) (n0 : Nat) (A : Nat → Prop) (E : gO → gH → Prop) : String → State → State → Prop := fun X st t =>
  (∃ h' : gH, E (.inr X) h' ∧ h'.length = n0 ∧ va_P G.1 gcl (gmw G ad h') t.heap ∧ va_D A (gmw G ad h')) ∧ va_F A st t
/-- from this point the frame comes to an end of which E holds -/
def gW (K : gK) (sc : Nat × (Nat → Int32)) (R : Room) (n0 : Nat) (E : gO → gH → Prop) (cs ss pc : Nat) (l : gL) (st : List Value) (h : gH) : Prop :=
  ∀ (p : Program) (la : Launch) (e : Env) (s : State) (m : MethodId) (args : Array Value) (below : List Frame) (meth : Method) (c : Code) (G : gG) (ad0 : Nat → Nat) (A : Nat → Prop), gCtx K G sc ad0 A p la s m args meth c →
  ∀ (H : Heap) (locs : List Loc) (ad : Nat → Nat) (ls : Array Slot), (∀ k, (k < n0 ∨ 1000 ≤ k) → ad k = ad0 k) → lv_has ls K.2.2.2.1 (gml ad l) → va_P G.1 gcl (gmw G ad h) H → va_D A (gmw G ad h) → va_S A s.heap H locs →
  W p la e R s m args below meth c H locs cs ss (vx_MQ below (gQ G ad0 n0 A E) (gXC G ad0 n0 A E) args s R.cells R.slots A) (F0 m pc ls (st.map (gmv ad)))
/-- the contract: y called with as over the cells h ends so that E holds -/
def gM (K : gK) (R : Room) (as : List Value) (h : gH) (E : gO → gH → Prop) : Prop :=
  ∀ (la : Launch), la.stackTraces = false → ∀ (G : gG) (sc : Nat × (Nat → Int32)) (ad : Nat → Nat) (sz : Nat),
  vx_Met la K.2.1 (gwd K :: gTs) R (va_Pc (as.map (gmv ad)) (fun U => U.heap.size = sz ∧ va_P G.1 gcl (gmw G ad h) U.heap ∧ va_K G.1 gcl (gTys G) U ∧ va_D (fun _ => True) (gmw G ad h) ∧ gAmb sc ad (va_A (gmw G ad h) sz) U))
    (gQ G ad h.length (va_A (gmw G ad h) sz) E) (gXC G ad h.length (va_A (gmw G ad h) sz) E) R.cells R.slots (va_A (gmw G ad h) sz)
/-! locals -/
def gget (l : gL) (i : Nat) : Option Value := match l with
  | [] => none
  | q :: r => cond (Nat.beq q.1 i) (some q.2) (gget r i)
def gins (i : Nat) (v : Value) (l : gL) : gL := match l with
  | [] => [(i, v)]
  | q :: r => cond (Nat.ble i q.1) ((i, v) :: q :: r) (q :: gins i v r)
def gput1 (l : gL) (i : Nat) (v : Value) : gL := gins i v (l.filter fun q => !(q.1 == i) && !(q.1 + 1 == i && q.2.category == 2))
def gput2 (l : gL) (i : Nat) (v : Value) : gL := gins i v (l.filter fun q => !(q.1 == i) && (!(q.1 == i + 1) && !(q.1 + 1 == i && q.2.category == 2)))
theorem gget_mem {i : Nat} {v : Value} : ∀ {l : gL}, gget l i = some v → (i, v) ∈ l
  | [], h => nomatch h
  | q :: r, h => by
    unfold gget at h
    cases hb : Nat.beq q.1 i with
    | true =>
      rw [hb] at h
      have h1 : q.2 = v := Option.some.inj h
      have h2 : q.1 = i := Nat.eq_of_beq_eq_true hb
      rw [← h1, ← h2]
      exact List.mem_cons_self
    | false =>
      rw [hb] at h
      exact List.mem_cons_of_mem _ (gget_mem h)
theorem gins_mem {i : Nat} {v : Value} {x : Nat × Value} : ∀ {l : gL}, x ∈ gins i v l → x = (i, v) ∨ x ∈ l
  | [], h => Or.inl (List.mem_singleton.mp h)
  | q :: r, h => by
    unfold gins at h
    cases hb : Nat.ble i q.1 with
    | true =>
      rw [hb] at h
      exact List.mem_cons.mp h
    | false =>
      rw [hb] at h
      rcases List.mem_cons.mp h with h | h
      · exact Or.inr (h ▸ List.mem_cons_self)
      · rcases gins_mem h with h | h
        · exact Or.inl h
        · exact Or.inr (List.mem_cons_of_mem _ h)
theorem gget_at {ad : Nat → Nat} {ls : Array Slot} {nL : Nat} {l : gL} {i : Nat} {v : Value} (hl : lv_has ls nL (gml ad l)) (h : gget l i = some v) : ls[i]? = some (.val (gmv ad v)) := hl.2.2 (i, gmv ad v) (gml_mem (gget_mem h))
theorem gput1_has {ad : Nat → Nat} {ls : Array Slot} {nL : Nat} {l : gL} {i : Nat} {v : Value} (h : lv_has ls nL ((i, gmv ad v) :: (gml ad l).filter fun q => !(q.1 == i) && !(q.1 + 1 == i && q.2.category == 2))) : lv_has ls nL (gml ad (gput1 l i v)) := by
  refine ⟨h.1, h.2.1, fun q hq => ?_⟩
  obtain ⟨x, hx, rfl⟩ := List.mem_map.mp hq
  rcases gins_mem hx with rfl | hx
  · exact h.2.2 _ List.mem_cons_self
  · obtain ⟨h1, h2⟩ := List.mem_filter.mp hx
    refine h.2.2 (x.1, gmv ad x.2) (List.mem_cons_of_mem _ (List.mem_filter.mpr ⟨gml_mem h1, ?_⟩))
    rw [gmv_cat]
    exact h2
theorem gput2_has {ad : Nat → Nat} {ls : Array Slot} {nL : Nat} {l : gL} {i : Nat} {v : Value} (h : lv_has ls nL ((i, gmv ad v) :: (gml ad l).filter fun q => !(q.1 == i) && (!(q.1 == i + 1) && !(q.1 + 1 == i && q.2.category == 2)))) : lv_has ls nL (gml ad (gput2 l i v)) := by
  refine ⟨h.1, h.2.1, fun q hq => ?_⟩
  obtain ⟨x, hx, rfl⟩ := List.mem_map.mp hq
  rcases gins_mem hx with rfl | hx
  · exact h.2.2 _ List.mem_cons_self
  · obtain ⟨h1, h2⟩ := List.mem_filter.mp hx
    refine h.2.2 (x.1, gmv ad x.2) (List.mem_cons_of_mem _ (List.mem_filter.mpr ⟨gml_mem h1, ?_⟩))
    rw [gmv_cat]
    exact h2
/-! one instruction -/
abbrev gSt : Type := Nat × gL × List Value × gH × Option Prop
def gfit (ty : FieldType) (v : Value) : Bool := match ty, v with
  | .int, .int _ => true
  | .long, .long _ => true
  | .object _, .ref _ => true
  | .array _, .ref _ => true
  | _, _ => false
def gSs (o i : Nat) : Option Nat := match o, i with
  | 2, 41 => some 1
  | 5, 107 => some 2
  | 5, 110 => some 3
  | _, _ => none
def gi2 (f : Int32 → Int32 → Int32) (pc : Nat) (l : gL) (st : List Value) (h : gH) : Option gSt := match st with
  | .int y :: .int x :: r => some (pc, l, .int (f x y) :: r, h, none)
  | _ => none
def gl2 (f : Int64 → Int64 → Int64) (pc : Nat) (l : gL) (st : List Value) (h : gH) : Option gSt := match st with
  | .long y :: .long x :: r => some (pc, l, .long (f x y) :: r, h, none)
  | _ => none
def gd2 (f : UInt64 → UInt64 → UInt64) (pc : Nat) (l : gL) (st : List Value) (h : gH) : Option gSt := match st with
  | .double y :: .double x :: r => some (pc, l, .double (f x y) :: r, h, some (vf_n64 (f x y)))
  | _ => none
def gldI (l : gL) (i pc : Nat) (st : List Value) (h : gH) : Option gSt := match gget l i with
  | some (.int x) => some (pc, l, .int x :: st, h, none)
  | _ => none
def gldJ (l : gL) (i pc : Nat) (st : List Value) (h : gH) : Option gSt := match gget l i with
  | some (.long x) => some (pc, l, .long x :: st, h, none)
  | _ => none
def gldD (l : gL) (i pc : Nat) (st : List Value) (h : gH) : Option gSt := match gget l i with
  | some (.double x) => some (pc, l, .double x :: st, h, none)
  | _ => none
def gldA (l : gL) (i pc : Nat) (st : List Value) (h : gH) : Option gSt := match gget l i with
  | some (.ref x) => some (pc, l, .ref x :: st, h, none)
  | _ => none
def gstI (nL : Nat) (l : gL) (i pc : Nat) (st : List Value) (h : gH) : Option gSt := match st with
  | .int x :: r => cond (Nat.blt i nL) (some (pc, gput1 l i (.int x), r, h, none)) none
  | _ => none
def gstJ (nL : Nat) (l : gL) (i pc : Nat) (st : List Value) (h : gH) : Option gSt := match st with
  | .long x :: r => cond (Nat.blt (i + 1) nL) (some (pc, gput2 l i (.long x), r, h, none)) none
  | _ => none
def gstD (nL : Nat) (l : gL) (i pc : Nat) (st : List Value) (h : gH) : Option gSt := match st with
  | .double x :: r => cond (Nat.blt (i + 1) nL) (some (pc, gput2 l i (.double x), r, h, none)) none
  | _ => none
def gstA (nL : Nat) (l : gL) (i pc : Nat) (st : List Value) (h : gH) : Option gSt := match st with
  | .ref x :: r => cond (Nat.blt i nL) (some (pc, gput1 l i (.ref x), r, h, none)) none
  | _ => none
def ggf (o i pc : Nat) (l : gL) (st : List Value) (h : gH) : Option gSt := match st with
  | .ref a :: r => match gfind i (gFl o) with
    | some (ci, k) => match h[a]? with
      | some (.inr (.inr (.inr (cj, fs)))) => cond (Nat.beq ci cj) (match fs[k]? with | some v => some (pc, l, v :: r, h, none) | none => none) none
      | _ => none
    | none => none
  | _ => none
def gpf (K : gK) (i pc : Nat) (l : gL) (st : List Value) (h : gH) : Option gSt := match st with
  | v :: .ref a :: r => match gfind i (gFl K.1) with
    | some (ci, k) => match h[a]? with
      | some (.inr (.inr (.inr (cj, fs)))) => cond (Nat.beq ci cj && (gfit (gyt ci k) v && Nat.blt k fs.length)) (cond (gTt ci k).2.2.2 (some (pc, l, r, h.set a (cO cj (fs.set k v)), some (K.2.1.name = "<init>" ∧ K.1 = ci))) (some (pc, l, r, h.set a (cO cj (fs.set k v)), none))) none
      | _ => none
    | none => none
  | _ => none
def gal (sc : Nat × (Nat → Int32)) (pc : Nat) (l : gL) (st : List Value) (h : gH) : Option gSt := match st with
  | .int i :: .ref a :: r => cond (Nat.ble 1000 a) (cond (Nat.blt a 1004) (some (pc, l, .int ((gx sc (a - 1000)).2 i.toNatClampNeg) :: r, h, some (vp_in i (gx sc (a - 1000)).1))) none) (match h[a]? with
    | some (.inl (n, f)) => some (pc, l, .int (f i.toNatClampNeg) :: r, h, some (vp_in i n))
    | _ => none)
  | _ => none
def glal (pc : Nat) (l : gL) (st : List Value) (h : gH) : Option gSt := match st with
  | .int i :: .ref a :: r => match h[a]? with
    | some (.inr (.inl (n, f))) => some (pc, l, .long (f i.toNatClampNeg) :: r, h, some (vp_in i n))
    | _ => none
  | _ => none
def graal (pc : Nat) (l : gL) (st : List Value) (h : gH) : Option gSt := match st with
  | .int i :: .ref a :: r => match h[a]? with
    | some (.inr (.inr (.inl xs))) => some (pc, l, va_rf (xs.getD i.toNatClampNeg none) :: r, h, some (vp_in i xs.length))
    | _ => none
  | _ => none
def gas (pc : Nat) (l : gL) (st : List Value) (h : gH) : Option gSt := match st with
  | .int x :: .int i :: .ref a :: r => match h[a]? with
    | some (.inl (n, f)) => some (pc, l, r, h.set a (cI n (upd f i.toNatClampNeg x)), some (vp_in i n))
    | _ => none
  | _ => none
def glas (pc : Nat) (l : gL) (st : List Value) (h : gH) : Option gSt := match st with
  | .long x :: .int i :: .ref a :: r => match h[a]? with
    | some (.inr (.inl (n, f))) => some (pc, l, r, h.set a (cJ n (vp_updL f i.toNatClampNeg x)), some (vp_in i n))
    | _ => none
  | _ => none
def graas (pc : Nat) (l : gL) (st : List Value) (h : gH) : Option gSt := match st with
  | .ref v :: .int i :: .ref a :: r => match h[a]?, h[v]? with
    | some (.inr (.inr (.inl xs))), some (.inr (.inr (.inr (2, _)))) => some (pc, l, r, h.set a (cR (xs.set i.toNatClampNeg (some v))), some (vp_in i xs.length))
    | _, _ => none
  | _ => none
def galen (sc : Nat × (Nat → Int32)) (pc : Nat) (l : gL) (st : List Value) (h : gH) : Option gSt := match st with
  | .ref a :: r => cond (Nat.ble 1000 a) (cond (Nat.blt a 1004) (some (pc, l, .int (Int32.ofNat (gx sc (a - 1000)).1) :: r, h, none)) none) (match h[a]? with
    | some (.inl (n, _)) => some (pc, l, .int (Int32.ofNat n) :: r, h, none)
    | some (.inr (.inl (n, _))) => some (pc, l, .int (Int32.ofNat n) :: r, h, none)
    | some (.inr (.inr (.inl xs))) => some (pc, l, .int (Int32.ofNat xs.length) :: r, h, none)
    | _ => none)
  | _ => none
def gst (K : gK) (sc : Nat × (Nat → Int32)) (i : Instr) (pc : Nat) (l : gL) (st : List Value) (h : gH) : Option gSt := match i with
  | .iconst n => some (pc + 1, l, .int (Int32.ofInt n) :: st, h, none)
  | .bipush n => some (pc + 2, l, .int (Int8.ofInt n).toInt32 :: st, h, none)
  | .sipush n => some (pc + 3, l, .int (Int16.ofInt n).toInt32 :: st, h, none)
  | .lconst n => some (pc + 1, l, .long (Int64.ofNat n.val) :: st, h, none)
  | .dconst n => some (pc + 1, l, .double (match n.val with | 0 => FP.dconst0 | _ => FP.dconst1) :: st, h, none)
  | .aconst_null => some (pc + 1, l, .null :: st, h, none)
  | .ldc2_w k => match gLc K.1 k with
    | some x => some (pc + 3, l, .long x :: st, h, none)
    | none => match gDc K.1 k with
      | some x => some (pc + 3, l, .double x :: st, h, none)
      | none => none
  | .iload n => gldI l n (pc + 2) st h
  | .iload_n n => gldI l n.val (pc + 1) st h
  | .lload n => gldJ l n (pc + 2) st h
  | .lload_n n => gldJ l n.val (pc + 1) st h
  | .dload n => gldD l n (pc + 2) st h
  | .dload_n n => gldD l n.val (pc + 1) st h
  | .aload n => gldA l n (pc + 2) st h
  | .aload_n n => gldA l n.val (pc + 1) st h
  | .istore n => gstI K.2.2.2.1 l n (pc + 2) st h
  | .istore_n n => gstI K.2.2.2.1 l n.val (pc + 1) st h
  | .lstore n => gstJ K.2.2.2.1 l n (pc + 2) st h
  | .lstore_n n => gstJ K.2.2.2.1 l n.val (pc + 1) st h
  | .dstore n => gstD K.2.2.2.1 l n (pc + 2) st h
  | .dstore_n n => gstD K.2.2.2.1 l n.val (pc + 1) st h
  | .astore n => gstA K.2.2.2.1 l n (pc + 2) st h
  | .astore_n n => gstA K.2.2.2.1 l n.val (pc + 1) st h
  | .iinc n d => match gget l n with
    | some (.int x) => cond (Nat.blt n K.2.2.2.1) (some (pc + 3, gput1 l n (.int (x + Int32.ofInt d)), st, h, none)) none
    | _ => none
  | .pop => match st with
    | v :: r => cond (Nat.beq v.category 1) (some (pc + 1, l, r, h, none)) none
    | _ => none
  | .dup => match st with
    | v :: r => cond (Nat.beq v.category 1) (some (pc + 1, l, v :: v :: r, h, none)) none
    | _ => none
  | .dup2 => match st with
    | v :: w :: r => cond (Nat.beq v.category 1 && Nat.beq w.category 1) (some (pc + 1, l, v :: w :: v :: w :: r, h, none)) none
    | _ => none
  | .iadd => gi2 (fun x y => x + y) (pc + 1) l st h
  | .isub => gi2 (fun x y => x - y) (pc + 1) l st h
  | .imul => gi2 (fun x y => x * y) (pc + 1) l st h
  | .iand => gi2 (fun x y => x &&& y) (pc + 1) l st h
  | .ldc k => match gIc K.1 k with
    | some x => some (pc + 2, l, .int x :: st, h, none)
    | none => none
  | .irem => match st with
    | .int y :: .int x :: r => some (pc + 1, l, .int (x - x / y * y) :: r, h, some (¬ y = 0))
    | _ => none
  | .ishr => gi2 (fun x y => x >>> (y &&& 31)) (pc + 1) l st h
  | .idiv => match st with
    | .int y :: .int x :: r => some (pc + 1, l, .int (x / y) :: r, h, some (¬ y = 0))
    | _ => none
  | .ineg => match st with
    | .int x :: r => some (pc + 1, l, .int (-x) :: r, h, none)
    | _ => none
  | .ladd => gl2 (fun x y => x + y) (pc + 1) l st h
  | .lsub => gl2 (fun x y => x - y) (pc + 1) l st h
  | .lmul => gl2 (fun x y => x * y) (pc + 1) l st h
  | .lshl => match st with
    | .int y :: .long x :: r => some (pc + 1, l, .long (x <<< (y.toInt64 &&& 63)) :: r, h, none)
    | _ => none
  | .lcmp => match st with
    | .long y :: .long x :: r => some (pc + 1, l, .int (lg_cmp x y) :: r, h, none)
    | _ => none
  | .i2l => match st with
    | .int x :: r => some (pc + 1, l, .long x.toInt64 :: r, h, none)
    | _ => none
  | .i2d => match st with
    | .int x :: r => some (pc + 1, l, .double (FP.i2d x) :: r, h, none)
    | _ => none
  | .d2l => match st with
    | .double x :: r => some (pc + 1, l, .long (FP.d2l x) :: r, h, none)
    | _ => none
  | .dmul => gd2 FP.dmul (pc + 1) l st h
  | .dsub => gd2 FP.dsub (pc + 1) l st h
  | .ddiv => gd2 FP.ddiv (pc + 1) l st h
  | .dcmp op => match st with
    | .double y :: .double x :: r => some (pc + 1, l, .int (Op.cmpValue (FP.dcmp x y) op) :: r, h, none)
    | _ => none
  | .getstatic k => match gSs K.1 k with
    | some j => some (pc + 3, l, .ref (1000 + j) :: st, h, none)
    | none => none
  | .getfield k => ggf K.1 k (pc + 3) l st h
  | .putfield k => gpf K k (pc + 3) l st h
  | .iaload => gal sc (pc + 1) l st h
  | .aaload => graal (pc + 1) l st h
  | .iastore => gas (pc + 1) l st h
  | .aastore => graas (pc + 1) l st h
  | .arraylength => galen sc (pc + 1) l st h
  | .goto d => match (pc : Int) + d with
    | .ofNat t => some (t, l, st, h, none)
    | _ => none
  | _ => none
def glen (i : Instr) : Nat := match i with
  | .ifCond .. => 3
  | .if_icmp .. => 3
  | .ifnull .. => 3
  | .invokevirtual .. => 3
  | .invokestatic .. => 3
  | .invokespecial .. => 3
  | .new .. => 3
  | .anewarray .. => 3
  | .newarray .. => 2
  | .ldc .. => 2
  | .ldc_w .. => 3
  | .bipush .. => 2
  | .sipush .. => 3
  | .ldc2_w .. => 3
  | .iinc .. => 3
  | .getstatic .. => 3
  | .getfield .. => 3
  | .putfield .. => 3
  | .goto .. => 3
  | .iload .. => 2
  | .lload .. => 2
  | .dload .. => 2
  | .aload .. => 2
  | .istore .. => 2
  | .lstore .. => 2
  | .dstore .. => 2
  | .astore .. => 2
  | _ => 1
def gpr (P : Option Prop) : Prop := match P with
  | none => True
  | some q => q
/-- a row of instructions -/
def gand (P : Option Prop) (Q : Prop) : Prop := match P with
  | none => Q
  | some q => q ∧ Q
def grun (K : gK) (sc : Nat × (Nat → Int32)) : List (Nat × Instr) → Nat → gL → List Value → gH → Option (Nat × gL × List Value × gH × Prop)
  | [], pc, l, st, h => some (pc, l, st, h, True)
  | q :: r, pc, l, st, h => cond (Nat.beq q.1 pc) (match gst K sc q.2 pc l st h with
    | some (pc1, l1, st1, h1, P) => match grun K sc r pc1 l1 st1 h1 with
      | some (pc2, l2, st2, h2, Q) => some (pc2, l2, st2, h2, gand P Q)
      | none => none
    | none => none) none
def gdec (cc : ByteArray) : List (Nat × Instr) → Bool
  | [] => true
  | q :: r => decide (decode cc q.1 = .ok (q.2, glen q.2)) && gdec cc r
