/-! METHODS WITH HANDLERS, and calls of them -/
theorem gM_ofH {o : Nat} {y : MethodName} {cc : ByteArray} {nL : Nat} {ret : Option FieldType} {h0 : Nat × Nat × Nat × Nat} {ht : List (Nat × Nat × Nat × Nat)} {R : Room} {as : List Value} {h : gH} {E : gO → gH → Prop} (hy : plainName y.cls = true) (ho : gown o = y.cls) (hsz : (lg_sl as).length ≤ nL)
    (k : ∀ sc, gW (o, y, cc, nL, ret, h0 :: ht) sc R h.length E 0 0 0 (lv_args 0 as) [] h) : gM (o, y, cc, nL, ret, h0 :: ht) R as h E := by
  intro la hla G sc ad sz
  refine vx_ofWH (cc := cc) (maxL := nL) (ret := ret) (hh := h0 :: ht) hy rfl ?_
  intro p e s m args below meth c s₁ B hml hv
  obtain ⟨rfl, rfl, hP, hK, hD0, hamb⟩ := hv
  have h1 := atoms_spec (ws := gwd (o, y, cc, nL, ret, h0 :: ht) :: gTs) B.pre
  have hts := atoms_spec (ws := gTs) (args := ((as.map (gmv ad)).toArray)) (s := s) (atoms_intro fun w hw => h1 w (List.mem_cons_of_mem _ hw))
  have htab : c.exceptionTable.toList = tableOf (h0 :: ht) := vx_table (x := y) B (h1 _ List.mem_cons_self)
  have hown : s.vm.findClass y.cls = some m.cls := findClass_of_methodNamed B.named
  have hl := lv_entry (as.map (gmv ad)) (n := nL) (by rw [gsl_len]; exact hsz)
  rw [gml_args] at hl
  rw [lg_entry_eq]
  have hD := hD0.self (sz := s.heap.size)
  exact k sc p la e s m _ below meth c G ad (va_A (gmw G ad h) s.heap.size) ⟨B.exec, B.bytes, hml, by rw [ho]; exact hown, hts, hK, hamb, fun q hq => Or.inr hq, hla, B.notSynchronized, B.returns, (name_of_methodNamed B.named B.method).1, htab⟩ s.heap [] ad _ (fun _ _ => rfl) hl hP hD va_S.rf
section GH
variable {K : gK} {sc : Nat × (Nat → Int32)} {R R' : Room} {n0 : Nat} {E Ec : gO → gH → Prop} {cs ss pc : Nat} {l : gL} {st st0 : List Value} {h hc : gH} {as : List Value}
variable {o' : Nat} {y' : MethodName} {cc' : ByteArray} {nL' : Nat} {ret' : Option FieldType}
/-- a static call of a method that has handlers -/
theorem gW_callSX {i n : Nat} {h0 : Nat × Nat × Nat × Nat} {ht : List (Nat × Nat × Nat × Nat)} (hM : gM (o', y', cc', nL', ret', h0 :: ht) R' as hc Ec) (lk : gLkS (gown K.1) i n (o', y', cc', nL', ret', h0 :: ht)) (hlk : Cond.methodLink (gown K.1) i y' ∈ gTs) (ps : List Nat) (hd : decode K.2.2.1 pc = .ok (.invokestatic i, 3)) (hst : st0 = (as.map (gmv (gren ps h.length))).reverse ++ st) (hn : as.length = n) (hcut : gCut h hc ps) (hb : hc.length ≤ 1000)
    (hsum : (st.map fun v => v.category).sum ≤ 8) (hR : R'.frames + 1 ≤ R.frames ∧ 8 + (nL' + 11) + R'.locals ≤ R.locals) (hf : cs + R'.cells ≤ R.cells ∧ ss + R'.slots ≤ R.slots) (kk : gAft K sc R R' n0 E Ec cs ss pc l st h hc ps) : gW K sc R n0 E cs ss pc l st0 h := by
  intro p la e s m args below meth c G ad0 A X H locs ad ls had hl hP hD hS
  obtain ⟨hx, hb', hml, hown, hts, hK, hamb, hA, hla, hlk0, hrt, hnm, htb⟩ := id X
  obtain ⟨l0, l1, l2, l3, l4, l5, l6⟩ := lk
  have hsum' : 2 * (F0 m pc ls (st0.map (gmv ad))).monitorRoom + ((st.map (gmv ad)).map fun v => v.category).sum ≤ 8 := by rw [gcats]; exact Nat.le_trans (Nat.le_of_eq (Nat.zero_add _)) hsum
  have hG : GoodIn gTs (gwd (o', y', cc', nL', ret', h0 :: ht) :: gTs) := gTs_in fun w hw => (List.mem_cons.mp hw).elim (fun q => q ▸ l4) id
  have hMM := hM la hla G sc (fun k => ad (gren ps h.length k)) H.size
  have hp : PreS s H (va_Pc (as.map (gmv fun k => ad (gren ps h.length k))) (fun U => U.heap.size = H.size ∧ va_P G.1 gcl (gmw G (fun k => ad (gren ps h.length k)) hc) U.heap ∧ va_K G.1 gcl (gTys G) U ∧ va_D (fun _ => True) (gmw G (fun k => ad (gren ps h.length k)) hc) ∧ gAmb sc (fun k => ad (gren ps h.length k)) (va_A (gmw G (fun k => ad (gren ps h.length k)) hc) H.size) U)) (as.map (gmv fun k => ad (gren ps h.length k))) :=
    ⟨gM_blind, fun U hU hW => ⟨rfl, gcall_pre X had hP hD hS hcut hb U hU hW⟩⟩
  have hstk : st0.map (gmv ad) = (as.map (gmv fun k => ad (gren ps h.length k))).reverse ++ st.map (gmv ad) := by
    rw [hst, List.map_append, List.map_reverse, gmap_as]
  have cw : vx_CSW R s args (gown K.1) i y' cc' nL' ret' (h0 :: ht) (gwd (o', y', cc', nL', ret', h0 :: ht) :: gTs) R' R'.cells R'.slots n :=
    ⟨⟨rfl, rfl, hR.1, hR.2, pay_in hts hG, List.mem_cons_self⟩, hts _ l4, hts _ l3, ⟨l5, l6⟩, fun sig hsig => by
      rw [hsig] at l0
      exact (Option.some.inj l0).symm, hts _ hlk, hts _ l2⟩
  exact gcall_ret X had hl hP hD hS hcut hb hf (vx_runSX ⟨hx, hb', hml, hown, hts⟩ hMM cw hp rfl (by rw [List.length_map]; exact hn) hl.1 hstk hsum' hd hf) kk
/-- a call that throws what a handler here catches -/
theorem gW_callVC {i n r0 : Nat} {fs : List Value} {Xc : String} {hc' h' : gH} (hM : gM (o', y', cc', nL', ret', []) R' (.ref r0 :: as) hc (gD (.inr Xc) hc')) (lk : gLkV (gown K.1) i n (o', y', cc', nL', ret', [])) (ps : List Nat) (hd : decode K.2.2.1 pc = .ok (.invokevirtual i, 3)) (hst : st0 = ((Value.ref r0 :: as).map (gmv (gren ps h.length))).reverse ++ st) (hn : as.length = n) (hcut : gCut h hc ps) (hb : hc.length ≤ 1000)
    (ho : gown o' = y'.cls) (ho7 : o' < 7) (hrc : hc[r0]? = some (cO o' fs)) (hsum : (st.map fun v => v.category).sum ≤ 8) (hR : R'.frames + 1 ≤ R.frames ∧ 8 + (nL' + 11) + R'.locals ≤ R.locals) (hf : cs + R'.cells ≤ R.cells ∧ ss + R'.slots ≤ R.slots)
    (pre : List ExceptionTableEntry) (x : ExceptionTableEntry) (suf : List ExceptionTableEntry) (hsplit : tableOf K.2.2.2.2.2 = pre ++ x :: suf) (hpass : ∀ z ∈ pre, z.catchType ≠ 0 ∧ ∃ nm : String, Cond.classLink (gown K.1) z.catchType nm ∈ gTs ∧ (Xc, nm) ∈ gNcs) (hx : covers x pc = true) (hx0 : x.catchType ≠ 0) (hlink : Cond.classLink (gown K.1) x.catchType Xc ∈ gTs) (hcast : Cond.castable Xc Xc ∈ gNs)
    (hn0 : n0 ≤ 900) (hwf : hc'.all (gwf hc.length) = true) (hlen' : hc'.length = hc.length) (hh : gsets h ps (hc'.map (gre (gren ps h.length))) = h') (hw9 : (h'.all (gwf 900) && l.all (fun x => gwv 900 x.2)) = true) (hl9 : h'.length ≤ 900)
    (kk : gW K sc R n0 E (cs + R'.cells) (ss + R'.slots) x.handlerPc l [.ref 900] h') : gW K sc R n0 E cs ss pc l st0 h := by
  intro p la e s m args below meth c G ad0 A X H locs ad ls had hl hP hD hS
  obtain ⟨hxx, hb', hml, hown, hts, hK, hamb, hA, hla, hlk, hrt, hnm, htb⟩ := id X
  obtain ⟨l0, l1, l2, l3, l4, l5, l6, l7⟩ := lk
  simp only [Bool.and_eq_true] at hw9
  have hsum' : 2 * (F0 m pc ls (st0.map (gmv ad))).monitorRoom + ((st.map (gmv ad)).map fun v => v.category).sum ≤ 8 := by rw [gcats]; exact Nat.le_trans (Nat.le_of_eq (Nat.zero_add _)) hsum
  have hG : GoodIn gTs (gwd (o', y', cc', nL', ret', []) :: gTs) := gTs_in fun w hw => (List.mem_cons.mp hw).elim (fun q => q ▸ l5) id
  have hMM := hM la hla G sc (fun k => ad (gren ps h.length k)) H.size
  have hrecv := va_recv (H := H) (ws := gmw G (fun k => ad (gren ps h.length k)) hc) (q0 := r0) hK (hcut.wP hb hP) (gcl_at ho7) (gmw_of hrc)
  have hp : PreV s H y'.cls (ad (gren ps h.length r0)) (va_Pc ((Value.ref r0 :: as).map (gmv fun k => ad (gren ps h.length k))) (fun U => U.heap.size = H.size ∧ va_P G.1 gcl (gmw G (fun k => ad (gren ps h.length k)) hc) U.heap ∧ va_K G.1 gcl (gTys G) U ∧ va_D (fun _ => True) (gmw G (fun k => ad (gren ps h.length k)) hc) ∧ gAmb sc (fun k => ad (gren ps h.length k)) (va_A (gmw G (fun k => ad (gren ps h.length k)) hc) H.size) U)) (as.map (gmv fun k => ad (gren ps h.length k))) :=
    ⟨gM_blind, by rw [← ho]; exact hrecv, fun U hU hW => ⟨rfl, gcall_pre X had hP hD hS hcut hb U hU hW⟩⟩
  have hstk : st0.map (gmv ad) = (as.map (gmv fun k => ad (gren ps h.length k))).reverse ++ .ref (ad (gren ps h.length r0)) :: st.map (gmv ad) := by
    rw [hst, List.map_append, List.map_reverse, gmap_as, List.map_cons, List.reverse_cons, List.append_assoc]
    rfl
  have hr : vx_Run p la e R s m args below meth c H locs cs ss R'.cells R'.slots (F0 m pc ls (st0.map (gmv ad))) (st.map (gmv ad)) (gQ G (fun k => ad (gren ps h.length k)) hc.length (va_A (gmw G (fun k => ad (gren ps h.length k)) hc) H.size) (gD (.inr Xc) hc') ((Value.ref r0 :: as).map (gmv fun k => ad (gren ps h.length k))).toArray) (gXC G (fun k => ad (gren ps h.length k)) hc.length (va_A (gmw G (fun k => ad (gren ps h.length k)) hc) H.size) (gD (.inr Xc) hc')) (va_A (gmw G (fun k => ad (gren ps h.length k)) hc) H.size) := vx_runV ⟨hxx, hb', hml, hown, hts⟩ hMM ⟨callB_of n hts hG rfl rfl rfl (hts _ l4) (hts _ l1) ⟨l6, l7, l0⟩ hR, hts _ l2, hts _ l3⟩ hp rfl (by rw [List.length_map]; exact hn) hl.1 hstk hsum' hd hf
  have hAA := hcut.wA hb hD hS hA
  intro T hT Xs
  rcases hr T hT Xs with ⟨v, st₀, t, T', L, e0, X', hL, e1, e2, ⟨⟨ad', v', hx', hv, hEc, -⟩, -⟩, -⟩ | ⟨q, st₀, t, T', L, Ex, ce, e0, X', hL, e1, e2, ⟨⟨hx', hEc, hlen, hP1, hD1⟩, hF⟩, hce, hcv, hcl, stp⟩
  · cases hEc.1
  · obtain ⟨g1, g2⟩ := hEc
    subst g2
    cases g1
    obtain ⟨k1, k2, k3⟩ := vx_keep e0 e1 hS (fun q _ z => hAA q z) hAA hL hF
    rw [← e1] at hP1
    obtain ⟨hP2, hD2⟩ := hcut.back hb hP hD hlen hwf (ad' := fun k => ad (gren ps h.length k)) (fun _ _ => rfl) k2 hP1
    rw [hh] at hP2 hD2
    have ho9 : ∀ k, (k < 900 ∨ 1000 ≤ k) → gadd1 ad 900 q k = ad k := gadd1_o (by omega)
    have hcg : gmw G (gadd1 ad 900 q) h' = gmw G ad h' := gmw_congr (n := 900) ho9 hl9 hw9.1
    have hW := kk p la e s m args below meth c G ad0 A X T'.heap (locs ++ L) (gadd1 ad 900 q) ls (fun j hj => (ho9 j (hj.elim (fun z => Or.inl (by omega)) Or.inr)).trans (had j hj)) (by rw [gml_congr ho9 hw9.2]; exact hl) (by rw [hcg]; exact hP2) (by rw [hcg]; exact hD2) k3
    have hst9 : [Value.ref 900].map (gmv (gadd1 ad 900 q)) = [.ref q] := by
      show [Value.ref (gadd1 ad 900 q 900)] = _
      rw [show gadd1 ad 900 q 900 = q from if_pos rfl]
    rw [hst9] at hW
    have hwx : vx_W p la e R s m args below meth c T'.heap (locs ++ L) (cs + R'.cells) (ss + R'.slots) (vx_MQ below (gQ G ad0 n0 A E) (gXC G ad0 n0 A E) args s R.cells R.slots A) (F0 m pc ls (st.map (gmv ad))) q := by
      refine vx_catch (E := Xc) (ce := ce) hown pre x suf (htb.trans hsplit) (fun z hz => Or.inr ?_) hx hx0 (hts _ hlink) (gNs_use hamb.2.2.2.2 _ hcast) (by rw [e1]; exact hce) hcv hcl hW
      obtain ⟨z1, nm, z2, z3⟩ := hpass z hz
      exact ⟨z1, nm, hts _ z2, hamb.1.2.2.2 _ z3⟩
    obtain ⟨t2, a1, b1⟩ := hwx T' rfl X'
    exact ⟨t2, stp.trans a1, b1⟩
end GH
/-! the wrappers' world: the class's object, and the row for the answer -/
abbrev cW (S : gGS) (o : Nat → Int64) : gH := cGs S ++ [cJ 1 o]
set_option maxRecDepth 20000 in
theorem cutW (S : gGS) (o : Nat → Int64) (hr : sR S < 6) : gCut (cW S o) (cGs S) (gps 0 89 0 0) := by
  obtain ⟨D, Tr, r, n, Ds, T, db⟩ := S
  have hr6 : r < 6 := hr
  refine gCut_seg (Nat.le_of_ble_eq_true rfl) (Nat.le_of_ble_eq_true rfl) ?_ nd89
  rcases (show r = 0 ∨ r = 1 ∨ r = 2 ∨ r = 3 ∨ r = 4 ∨ r = 5 by omega) with rfl | rfl | rfl | rfl | rfl | rfl <;> rfl
set_option maxRecDepth 20000 in
theorem mrgW (S S' : gGS) (o : Nat → Int64) (hr : sR S' < 6) : gseg2 (cW S o) 0 89 0 0 ((cGs S').map (gre (gren (gps 0 89 0 0) (cW S o).length))) = cW S' o := by
  obtain ⟨D, Tr, r, n, Ds, T, db⟩ := S'
  have hr6 : r < 6 := hr
  rcases (show r = 0 ∨ r = 1 ∨ r = 2 ∨ r = 3 ∨ r = 4 ∨ r = 5 by omega) with rfl | rfl | rfl | rfl | rfl | rfl <;> rfl
set_option maxRecDepth 20000 in
theorem wfW (S : gGS) (o : Nat → Int64) (hr : sR S < 6) : (cW S o).all (gwf 90) = true := by
  obtain ⟨D, Tr, r, n, Ds, T, db⟩ := S
  have hr6 : r < 6 := hr
  rcases (show r = 0 ∨ r = 1 ∨ r = 2 ∨ r = 3 ∨ r = 4 ∨ r = 5 by omega) with rfl | rfl | rfl | rfl | rfl | rfl <;> rfl
theorem gwv_mono {n m : Nat} (h : n ≤ m) {v : Value} (hv : gwv n v = true) : gwv m v = true := by
  cases v with
  | ref k =>
    have := gor_lt hv
    show (Nat.blt k m || Nat.ble 1000 k) = true
    rcases this with h1 | h1
    · rw [zb_t (Nat.lt_of_lt_of_le h1 h)]
      rfl
    · rw [Nat.ble_eq_true_of_le h1]
      exact Bool.or_true _
  | _ => rfl
theorem gwf_mono {n m : Nat} (h : n ≤ m) {e : gC} (he : gwf n e = true) : gwf m e = true := by
  rcases e with ⟨k, f⟩ | ⟨k, f⟩ | xs | ⟨ci, fs⟩
  · rfl
  · rfl
  · refine List.all_eq_true.mpr fun o ho => ?_
    have h1 := List.all_eq_true.mp he o ho
    cases o with
    | none => rfl
    | some k => exact gwv_mono (v := .ref k) h h1
  · exact List.all_eq_true.mpr fun v hv => gwv_mono h (List.all_eq_true.mp he v hv)
theorem gwfs_mono {n m : Nat} (h : n ≤ m) {x : gH} (hx : x.all (gwf n) = true) : x.all (gwf m) = true := List.all_eq_true.mpr fun e he => gwf_mono h (List.all_eq_true.mp hx e he)
