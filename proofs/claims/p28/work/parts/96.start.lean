/-! THE CLAIM OUT OF ONE WALK OF THE LAW'S BODY. Your part is whole_start (and what it stands on); all else here is the same for every law, but numbers. -/
def R_law : String := "GoldSheetsLaw"
def lw_P (b : Addr) (xs : List Int32) (args : Array Value) (s : State) : Prop := args = #[.ref b] ∧ s.IntsAt b xs ∧ xs.length ≤ 260 ∧ (Jvm.Cond.and given_1 narrow_1).before args s = true
/-- what a walk over the start with the record d0 says of its end, said of the start itself -/
theorem lw_closed {s t : State} {o : Outcome} {d0 : Drawn} {L : List Loc} {k n : Nat} (hd0 : s.drawn.sameBut d0 lw_cs) (hv : ∃ v, o = .returned v) (hW : (s.setDrawn d0).WarmedH t.vm) (hs : (s.setDrawn d0).sameButNew ({ t with vm := s.vm } : State) L k n) : State.butDraws s t lw_cs (fun t1 => Framed s o t1 L k n) := by
  have h2 : t.drawn = d0 := congrArg State.drawn hs.1
  refine ⟨⟨hv, hW, State.sameButNew.setDrawn hs s.drawn⟩, ?_, by decide⟩
  rw [h2]
  exact hd0
def lw_Q (_ : Array Value) (s : State) (o : Outcome) (t : State) : Prop := o = .returned (some (.int 1)) ∧ State.butDraws s t lw_cs (fun t1 => Framed s o t1 [] 600130 7301080)
def lw_Z (below : List Frame) (a : Array Value) (s : State) : State → Prop := fun t => ∃ o, t.status = .running ∧ Ended t below o ∧ lw_Q a s o t
/-- the law's own end, with 1 on the stack, nothing written that was there before, its room as the claim has it; d0: the record of draws at this point (at the entry s.drawn: begin with 'refine W.base ?_' and 'have hd0 := Drawn.sameBut.refl s.drawn lw_cs') -/
theorem lw_ret {p : Program} {l : Launch} {e : Env} {s : State} {m : MethodId} {below : List Frame} {meth : Method} {c : Code} {b : Nat} {d0 : Drawn} (hd0 : s.drawn.sameBut d0 lw_cs) (hx : p.tables.exec = Jvm.exec) (hb : c.code = code) (hr : meth.sig.returnType = ret) (hlocks : meth.locks = false) {pc : Nat} {H : Heap} {ls : Array Slot} (hdg : decode code pc = .ok (.ireturn, 1)) : W p l e room_1 (s.setDrawn d0) m #[Value.ref b] below meth c H [] 600130 7301080 (lw_Z below #[Value.ref b] s) (F0 m pc ls [.int 1]) := by
  intro T hT X
  obtain ⟨fs, hret, hrun, hended, hW, hframe⟩ := X.leave (v := some (.int 1)) (hlocks := hlocks) (fun h => by rw [hr] at h; cases h)
  have hmeth' : T.vm.method? m = some meth := X.method'
  refine ⟨T.setFrames fs, ?_, .returned (some (.int 1)), hrun, hended, rfl, lw_closed hd0 ⟨_, rfl⟩ hW hframe⟩
  jvm_step X.here [X.here.top, hx, hb, hdg, hmeth', hr, ret, narrow_b1]
  (try refine ⟨rfl, ?_⟩); (try refine ⟨rfl, ?_⟩)
  first | (intro acts; rw [hret _ acts rfl rfl rfl]) | rw [hret _ _ rfl rfl rfl]
  exact Steps.refl _
/-- what holds at the law's entry: the machine, the code, the tables' words (any of lw_tbl by 'hts w (by decide +kernel)'), the script of L ints xs at the cell b, what the Statement gives of the start (any of its parts by flat_of_before) -/
def lw_At (p : Program) (s : State) (m : MethodId) (meth : Method) (c : Code) (b L : Nat) (xs : Nat → Int32) : Prop :=
  p.tables.exec = Jvm.exec ∧ c.code = code ∧ meth.sig.returnType = ret ∧ c.maxLocals = 17 ∧ s.vm.findClass R_law = some m.cls ∧ (∀ w ∈ lw_tbl, w.before #[Value.ref b] s = true) ∧ va_X b L xs s s.heap ∧ b < s.heap.size ∧ meth.locks = false ∧ (Jvm.Cond.and given_1 narrow_1).before #[Value.ref b] s = true
theorem k_weaken {p : Program} {l : Launch} {e : Env} {R : Room} {s : State} {m : MethodId} {args : Array Value} {below : List Frame} {meth : Method} {c : Code} {H : Heap} {locs : List Loc} {cells slots : Nat} {Q Q' : State → Prop} {g : JFrame} (k : W p l e R s m args below meth c H locs cells slots Q g) (h : ∀ t, Q t → Q' t) : W p l e R s m args below meth c H locs cells slots Q' g := by
  intro T hT X
  obtain ⟨t, a1, b1⟩ := k T hT X
  exact ⟨t, a1, h t b1⟩
theorem k_flat {b : Nat} {s : State} {A : Nat → Prop} (hgv : (Jvm.Cond.and given_1 narrow_1).before #[Value.ref b] s = true) (hts : ∀ w ∈ lw_tbl, w.before #[Value.ref b] s = true) (hA : ∀ a : Nat, a < s.heap.size → ¬ A a) :
    (vx_Zq Bundle.tN "UNASSIGNED_STACK" Bundle.steD A s s.heap ∧ vx_Zq Bundle.tN "SUPPRESSED_SENTINEL" Bundle.listD A s s.heap ∧ va_AO "GoldSheets$Dome" s ∧ ∀ q ∈ gNcs, va_Nc q.1 q.2 s) := by
  have hs := flat_of_before _ hgv
  refine ⟨vx_Zqof (hts _ (List.mem_of_getElem? (i := 229) (by decide +kernel))) (hts _ (List.mem_of_getElem? (i := 22) (by decide +kernel))) (hs _ (by decide +kernel)) hA, vx_Zqof (hts _ (List.mem_of_getElem? (i := 231) (by decide +kernel))) (hts _ (List.mem_of_getElem? (i := 22) (by decide +kernel))) (hs _ (by decide +kernel)) hA, va_AO.of (hts _ (List.mem_of_getElem? (i := 138) (by decide +kernel))), ?_⟩
  intro q hq
  cases hq
theorem k_T1 {b : Nat} {s : State} {A : Nat → Prop} (hgv : (Jvm.Cond.and given_1 narrow_1).before #[Value.ref b] s = true) (hts : ∀ w ∈ lw_tbl, w.before #[Value.ref b] s = true) (hA : ∀ a : Nat, a < s.heap.size → ¬ A a) :
    ∃ t : Nat, va_T .int t 6 (fun i => .int (([50, 120, 0, 2, 30, 10] : List Int32).getD i 0)) A s s.heap ∧ va_Z "GoldSheets" "FIRST_SETTINGS" "[I" (.ref t) A s s.heap := by
  have hs := flat_of_before _ hgv
  obtain ⟨t, ht, hT⟩ := va_Tof (args := #[Value.ref b]) (tm := .static "GoldSheets" "FIRST_SETTINGS" "[I") (ty := .int) (N := 6) (f := fun i => .int (([50, 120, 0, 2, 30, 10] : List Int32).getD i 0)) (A := A) (by decide) (hs _ (by decide +kernel)) (va_eqt (hs _ (by decide +kernel))) (fun j hj => by
    rcases (show j = 0 ∨ j = 1 ∨ j = 2 ∨ j = 3 ∨ j = 4 ∨ j = 5 by omega) with rfl | rfl | rfl | rfl | rfl | rfl <;> exact va_eqt (hs _ (by decide +kernel))) hA
  exact ⟨t, hT, va_Zof (hts _ (List.mem_of_getElem? (i := 72) (by decide +kernel))) (hts _ (List.mem_of_getElem? (i := 14) (by decide +kernel))) ht hA⟩
theorem k_T2 {b : Nat} {s : State} {A : Nat → Prop} (hgv : (Jvm.Cond.and given_1 narrow_1).before #[Value.ref b] s = true) (hts : ∀ w ∈ lw_tbl, w.before #[Value.ref b] s = true) (hA : ∀ a : Nat, a < s.heap.size → ¬ A a) :
    ∃ t : Nat, va_T .int t 6 (fun i => .int (([1, 10, 0, 0, 1, 0] : List Int32).getD i 0)) A s s.heap ∧ va_Z "GoldSheets" "LOWEST_SETTINGS" "[I" (.ref t) A s s.heap := by
  have hs := flat_of_before _ hgv
  obtain ⟨t, ht, hT⟩ := va_Tof (args := #[Value.ref b]) (tm := .static "GoldSheets" "LOWEST_SETTINGS" "[I") (ty := .int) (N := 6) (f := fun i => .int (([1, 10, 0, 0, 1, 0] : List Int32).getD i 0)) (A := A) (by decide) (hs _ (by decide +kernel)) (va_eqt (hs _ (by decide +kernel))) (fun j hj => by
    rcases (show j = 0 ∨ j = 1 ∨ j = 2 ∨ j = 3 ∨ j = 4 ∨ j = 5 by omega) with rfl | rfl | rfl | rfl | rfl | rfl <;> exact va_eqt (hs _ (by decide +kernel))) hA
  exact ⟨t, hT, va_Zof (hts _ (List.mem_of_getElem? (i := 454) (by decide +kernel))) (hts _ (List.mem_of_getElem? (i := 14) (by decide +kernel))) ht hA⟩
theorem k_T3 {b : Nat} {s : State} {A : Nat → Prop} (hgv : (Jvm.Cond.and given_1 narrow_1).before #[Value.ref b] s = true) (hts : ∀ w ∈ lw_tbl, w.before #[Value.ref b] s = true) (hA : ∀ a : Nat, a < s.heap.size → ¬ A a) :
    ∃ t : Nat, va_T .int t 6 (fun i => .int (([200, 500, 1, 9, 99, 99] : List Int32).getD i 0)) A s s.heap ∧ va_Z "GoldSheets" "HIGHEST_SETTINGS" "[I" (.ref t) A s s.heap := by
  have hs := flat_of_before _ hgv
  obtain ⟨t, ht, hT⟩ := va_Tof (args := #[Value.ref b]) (tm := .static "GoldSheets" "HIGHEST_SETTINGS" "[I") (ty := .int) (N := 6) (f := fun i => .int (([200, 500, 1, 9, 99, 99] : List Int32).getD i 0)) (A := A) (by decide) (hs _ (by decide +kernel)) (va_eqt (hs _ (by decide +kernel))) (fun j hj => by
    rcases (show j = 0 ∨ j = 1 ∨ j = 2 ∨ j = 3 ∨ j = 4 ∨ j = 5 by omega) with rfl | rfl | rfl | rfl | rfl | rfl <;> exact va_eqt (hs _ (by decide +kernel))) hA
  exact ⟨t, hT, va_Zof (hts _ (List.mem_of_getElem? (i := 456) (by decide +kernel))) (hts _ (List.mem_of_getElem? (i := 14) (by decide +kernel))) ht hA⟩
theorem k_str {b : Nat} {s : State} (hgv : (Jvm.Cond.and given_1 narrow_1).before #[Value.ref b] s = true) (hts : ∀ w ∈ lw_tbl, w.before #[Value.ref b] s = true) : ∀ q ∈ gStr, ∃ a, vk_R q.1 q.2.1 q.2.2 a s := by
  have hs := flat_of_before _ hgv
  have h1 : ∀ q ∈ gStr, Cond.stringRef q.1 q.2.1 q.2.2 ∈ lw_tbl := by decide +kernel
  have h2 : ∀ q ∈ gStr, (Cond.exactly (.string q.1 q.2.1) "java/lang/String").before #[Value.ref b] s = true := fun q hq => hs _ (by revert q; decide +kernel)
  intro q hq
  obtain ⟨a, c, cA, kA, q1, -⟩ := Cond.exactly_spec (args := #[Value.ref b]) (first := s) (o := none) (s := s) (idx := []) (t := .string q.1 q.2.1) (cls := "java/lang/String") (h2 q hq)
  exact ⟨a, vk_R.of (hts _ (h1 q hq)) q1⟩
theorem k_known {s : State} {args : Array Value} (hts : ∀ w ∈ lw_tbl, w.before args s = true) : ∃ G : gG, va_K G.1 gcl (gTys G) s := by
  have hg : ∀ w ∈ gTs, w.before args s = true := fun w hw => hts w (List.mem_filter.mp hw).1
  obtain ⟨c0, i0, k0⟩ := u_known (C := gown 0) (T := gTTr) (N := 1) (n := 1) hg ginTr (hts _ (List.mem_of_getElem? (i := 43) (by decide +kernel)))
  obtain ⟨c1, i1, k1⟩ := u_known (C := gown 1) (T := gTSe) (N := 3) (n := 3) hg ginSe (hts _ (List.mem_of_getElem? (i := 54) (by decide +kernel)))
  obtain ⟨c2, i2, k2⟩ := u_known (C := gown 2) (T := gTDo) (N := 12) (n := 12) hg ginDo (hts _ (List.mem_of_getElem? (i := 37) (by decide +kernel)))
  obtain ⟨c3, i3, k3⟩ := u_known (C := gown 3) (T := gTHi) (N := 2) (n := 2) hg ginHi (hts _ (List.mem_of_getElem? (i := 132) (by decide +kernel)))
  obtain ⟨c4, i4, k4⟩ := u_known (C := gown 4) (T := gTTx) (N := 10) (n := 10) hg ginTx (hts _ (List.mem_of_getElem? (i := 149) (by decide +kernel)))
  obtain ⟨c5, i5, k5⟩ := u_known (C := gown 5) (T := gTGs) (N := 5) (n := 5) hg ginGs (hts _ (List.mem_of_getElem? (i := 29) (by decide +kernel)))
  obtain ⟨c6, i6, k6⟩ := u_known (C := gown 6) (T := gTMo) (N := 5) (n := 5) hg ginMo (hts _ (List.mem_of_getElem? (i := 29) (by decide +kernel)))
  obtain ⟨a1, ka1, co1, f1, f2, f3⟩ := Cond.arrayClass_spec (hts (.arrayClass .int) (List.mem_of_getElem? (i := 52) (by decide +kernel)))
  obtain ⟨a2, ka2, co2, g1, g2, g3⟩ := Cond.arrayClass_spec (hts (.arrayClass .int) (List.mem_of_getElem? (i := 52) (by decide +kernel)))
  obtain ⟨co3, a3, ka3, h1, h2, h3, h4, h5⟩ := Cond.arrayOver_spec (hts (.arrayOver (.object "GoldSheets$Dome")) (List.mem_of_getElem? (i := 138) (by decide +kernel)))
  refine ⟨((fun k => match k with | 0 => c0 | 1 => c1 | 2 => c2 | 3 => c3 | 4 => c4 | 5 => c5 | _ => c6, fun k => match k with | 0 => i0 | 1 => i1 | 2 => i2 | 3 => i3 | 4 => i4 | 5 => i5 | _ => i6), a1, a2, a3), fun k q hq => ?_, fun k q hq => ?_⟩
  · match k, hq with
    | 0, hq => cases hq; exact k0
    | 1, hq => cases hq; exact k1
    | 2, hq => cases hq; exact k2
    | 3, hq => cases hq; exact k3
    | 4, hq => cases hq; exact k4
    | 5, hq => cases hq; exact k5
    | 6, hq => cases hq; exact k6
    | k + 7, hq => cases hq
  · match k, hq with
    | 0, hq => cases hq; exact ⟨fun n z => ⟨fun k h => (by cases h), ka1, f2, co1, f3⟩, f1⟩
    | 1, hq => cases hq; exact ⟨fun n z => ⟨fun k h => (by cases h), ka2, g2, co2, g3⟩, g1⟩
    | 2, hq => cases hq; exact ⟨fun n z => ⟨fun k h => (by cases h), ka3, h3, co3, h4⟩, ka3, co3, h3, h4, h1, h5⟩
    | k + 3, hq => cases hq
theorem k_at (p0 : Nat × Nat × Nat × Nat) (k : Nat) : (fun k : Nat => if k = 1000 then p0.1 else if k = 1001 then p0.2.1 else if k = 1002 then p0.2.2.1 else p0.2.2.2) k = (if k = 1000 then p0.1 else if k = 1001 then p0.2.1 else if k = 1002 then p0.2.2.1 else p0.2.2.2) := rfl
/-- the law's start out of its walk -/
theorem k_start {p : Program} {e : Env} {s : State} {m : MethodId} {below : List Frame} {meth : Method} {c : Code} (l : Launch) (hflags : l.flags = flags0) {b L : Nat} {xs : Nat → Int32} (hL : L ≤ 260) (C0 : lw_At p s m meth c b L xs)
    (kk : ∀ (nm : String) (hh : List (Nat × Nat × Nat × Nat)) (sc : Nat × (Nat → Int32)), sc.1 ≤ 260 → gW (K_law nm hh) sc room_1 0 (fun o _ => o = .inl (some (.int 1))) 0 0 0 [(0, .ref 1000)] [] []) :
    W p l e room_1 s m #[Value.ref b] below meth c s.heap [] 0 0 (lw_Z below #[Value.ref b] s) (entryFrame m ([Value.ref b] : List Value).toArray 17) := by
  obtain ⟨hx, hb, hr, hml, hown, hts, hX, hbl, hlocks, hgv⟩ := id C0
  have hA : ∀ a : Nat, a < s.heap.size → ¬ (fun q : Nat => s.heap.size ≤ q) a := fun a h => Nat.not_le.mpr h
  obtain ⟨t1, T1, Z1⟩ := k_T1 hgv hts hA
  obtain ⟨t2, T2, Z2⟩ := k_T2 hgv hts hA
  obtain ⟨t3, T3, Z3⟩ := k_T3 hgv hts hA
  obtain ⟨G, hK⟩ := k_known hts
  have T0 : va_T .int b L (fun i => .int (xs i)) (fun q : Nat => s.heap.size ≤ q) s s.heap := by
    obtain ⟨scr, hcb, hof, hkn, hsz, hval⟩ := hX
    exact ⟨scr, hcb, hof, hkn, Nat.le_of_eq hsz.symm, by rw [hsz], hval, hA b hbl⟩
  have hamb : gAmb (L, xs) (fun k : Nat => if k = 1000 then b else if k = 1001 then t1 else if k = 1002 then t2 else t3) (fun q : Nat => s.heap.size ≤ q) s := by
    refine ⟨k_flat hgv hts hA, fun j hj => ?_, fun j h1 hj => ?_, k_str hgv hts, gNs_of hts⟩
    · rcases (show j = 0 ∨ j = 1 ∨ j = 2 ∨ j = 3 by omega) with rfl | rfl | rfl | rfl
      · exact T0
      · exact T1
      · exact T2
      · exact T3
    · rcases (show j = 1 ∨ j = 2 ∨ j = 3 by omega) with rfl | rfl | rfl
      · exact Z1
      · exact Z2
      · exact Z3
  have hg : ∀ w ∈ gTs, w.before #[Value.ref b] s = true := fun w hw => hts w (List.mem_filter.mp hw).1
  have hl := lv_entry ([.ref b]) (n := 17) (Nat.le_of_ble_eq_true rfl)
  rw [lg_entry_eq]
  have hw := kk meth.name (c.exceptionTable.toList.map fun h => (h.startPc, h.endPc, h.handlerPc, h.catchType)) (L, xs) hL p l e s m #[Value.ref b] below meth c G (fun k : Nat => if k = 1000 then b else if k = 1001 then t1 else if k = 1002 then t2 else t3) (fun q : Nat => s.heap.size ≤ q)
    ⟨hx, hb, hml, hown, hg, hK, hamb, fun q h => h, by rw [Launch.stackTraces, hflags]; rfl, hlocks, hr, rfl, (table_eq _).symm⟩
    s.heap [] (fun k : Nat => if k = 1000 then b else if k = 1001 then t1 else if k = 1002 then t2 else t3) _ (fun _ _ => rfl) hl (fun k q h => (by cases h)) ⟨fun i j p q h => (by cases h), fun k q h => (by cases h)⟩ va_S.rf
  refine k_weaken hw fun t h => ?_
  obtain ⟨o, h1, h2, h3⟩ := h
  rcases h3 with ⟨⟨⟨ad', v, h', q1, q2, -⟩, -⟩, LL, q3, q4⟩ | ⟨q, -, E, ce, LL, ⟨⟨h', q1, -⟩, -⟩, -⟩
  · cases q2
    refine ⟨o, h1, h2, q1, ?_⟩
    obtain ⟨f1, f2, g1, g2, g3, g4, g5, g6⟩ := q3
    refine lw_closed (d0 := s.drawn) (Drawn.sameBut.refl s.drawn lw_cs) f1 f2 ⟨g1, g2, g3, g4, g5, fun a c9 hc9 => ?_⟩
    obtain ⟨c1, e1, e2, e3, e4⟩ := g6 a c9 hc9
    refine ⟨c1, e1, e2, e3, fun i hi => e4 i fun hm => ?_⟩
    exact absurd (q4 _ hm) (hA a (Array.getElem?_eq_some_iff.mp hc9).1)
  · cases q1
