/-! CALLS between frames of the abstract machine -/
theorem gml_args (ad : Nat → Nat) : ∀ (vs : List Value) (i : Nat), lv_args i (vs.map (gmv ad)) = gml ad (lv_args i vs)
  | [], _ => rfl
  | v :: vs, i => by
    show (i, gmv ad v) :: lv_args (if (gmv ad v).category = 2 then i + 2 else i + 1) (vs.map (gmv ad)) = (i, gmv ad v) :: gml ad (lv_args (if v.category = 2 then i + 2 else i + 1) vs)
    rw [gmv_cat, gml_args ad vs]
theorem gsl_len (ad : Nat → Nat) : ∀ vs : List Value, (lg_sl (vs.map (gmv ad))).length = (lg_sl vs).length
  | [] => rfl
  | v :: vs => by
    have h := gsl_len ad vs
    unfold lg_sl at h ⊢
    rw [List.map_cons, List.flatMap_cons, List.flatMap_cons, List.length_append, List.length_append, gmv_cat]
    by_cases hc : v.category = 2 <;> simp only [hc, if_true, if_false, List.length_cons, List.length_nil] <;> omega
/-- a method's contract out of its body's walk -/
theorem gM_of {o : Nat} {y : MethodName} {cc : ByteArray} {nL : Nat} {ret : Option FieldType} {R : Room} {as : List Value} {h : gH} {E : gO → gH → Prop} (hy : plainName y.cls = true) (ho : gown o = y.cls) (hsz : (lg_sl as).length ≤ nL)
    (k : ∀ sc, gW (o, y, cc, nL, ret, []) sc R h.length E 0 0 0 (lv_args 0 as) [] h) : gM (o, y, cc, nL, ret, []) R as h E := by
  intro la hla G sc ad sz
  refine vx_ofW (cc := cc) (maxL := nL) (ret := ret) hy rfl ?_
  intro p e s m args below meth c s₁ B hml hexc hv
  obtain ⟨rfl, rfl, hP, hK, hD0, hamb⟩ := hv
  have hts := atoms_spec (ws := gTs) (args := ((as.map (gmv ad)).toArray)) (s := s) (by
    have h1 := atoms_spec (ws := gwd (o, y, cc, nL, ret, []) :: gTs) B.pre
    exact atoms_intro fun w hw => h1 w (List.mem_cons_of_mem _ hw))
  have hown : s.vm.findClass y.cls = some m.cls := findClass_of_methodNamed B.named
  have hl := lv_entry (as.map (gmv ad)) (n := nL) (by rw [gsl_len]; exact hsz)
  rw [gml_args] at hl
  rw [lg_entry_eq]
  have hD := hD0.self (sz := s.heap.size)
  exact k sc p la e s m _ below meth c G ad (va_A (gmw G ad h) s.heap.size) ⟨B.exec, B.bytes, hml, by rw [ho]; exact hown, hts, hK, hamb, fun q hq => Or.inr hq, hla, B.notSynchronized, B.returns, (name_of_methodNamed B.named B.method).1, List.eq_nil_iff_forall_not_mem.mpr hexc⟩ s.heap [] ad _ (fun _ _ => rfl) hl hP hD va_S.rf
/-- cell k of a callee's heap is the caller's cell ps k; what the callee makes stands behind the caller's n cells -/
def gren (ps : List Nat) (n k : Nat) : Nat := cond (Nat.ble 1000 k) k (match ps[k]? with
  | some j => j
  | none => n + (k - ps.length))
def gre (r : Nat → Nat) (e : gC) : gC := match e with
  | .inr (.inr (.inl xs)) => cR (xs.map (Option.map r))
  | .inr (.inr (.inr (ci, fs))) => cO ci (fs.map (gmv r))
  | e => e
def gsets (h : gH) (ps : List Nat) (es : List gC) : gH := match ps, es with
  | j :: ps, e :: es => gsets (h.set j e) ps es
  | _, _ => h
theorem gmv_gmv (ad r : Nat → Nat) (v : Value) : gmv ad (gmv r v) = gmv (fun k => ad (r k)) v := by cases v <;> rfl
theorem gmc_gre (G : gG) (ad r : Nat → Nat) (e : gC) : gmc G ad (gre r e) = gmc G (fun k => ad (r k)) e := by
  rcases e with ⟨k, f⟩ | ⟨k, f⟩ | xs | ⟨ci, fs⟩
  · rfl
  · rfl
  · have h1 : (fun i => ((xs.map (Option.map r)).getD i none).map ad) = fun i => (xs.getD i none).map fun k => ad (r k) := by
      funext i
      rw [List.getD_eq_getElem?_getD, List.getD_eq_getElem?_getD, List.getElem?_map]
      cases xs[i]? with
      | none => rfl
      | some o => cases o <;> rfl
    show (Sum.inl (G.2.2.2, (xs.map (Option.map r)).length, Sum.inr (Sum.inr (Sum.inr (Sum.inr _)))) : va_E) = Sum.inl (G.2.2.2, xs.length, Sum.inr (Sum.inr (Sum.inr (Sum.inr _))))
    rw [h1, List.length_map]
  · show (Sum.inr (ci, (fs.map (gmv r)).map (gmv ad)) : va_E) = Sum.inr (ci, fs.map (gmv fun k => ad (r k)))
    rw [List.map_map]
    exact congrArg (fun z => (Sum.inr (ci, z) : va_E)) (List.map_congr_left fun v _ => gmv_gmv ad r v)
theorem gsets_len : ∀ (ps : List Nat) (es : List gC) (h : gH), (gsets h ps es).length = h.length
  | [], [], _ => rfl
  | [], _ :: _, _ => rfl
  | _ :: _, [], _ => rfl
  | j :: ps, e :: es, h => by
    show (gsets (h.set j e) ps es).length = h.length
    rw [gsets_len ps es, List.length_set]
/-- a cell behind gsets: one of the new ones, or the old one at a place that was not named -/
theorem gsets_at : ∀ (ps : List Nat) (es : List gC) (h : gH) (j : Nat) (e : gC), ps.length = es.length → (gsets h ps es)[j]? = some e → (∃ k : Nat, ps[k]? = some j ∧ es[k]? = some e) ∨ (h[j]? = some e ∧ j ∉ ps)
  | [], [], h, j, e, _, he => Or.inr ⟨he, List.not_mem_nil⟩
  | [], _ :: _, h, j, e, hl, _ => by cases hl
  | i :: ps, [], h, j, e, hl, _ => by cases hl
  | i :: ps, x :: es, h, j, e, hl, he => by
    have hl2 : ps.length = es.length := Nat.succ.inj hl
    rcases gsets_at ps es (h.set i x) j e hl2 he with ⟨k, h1, h2⟩ | ⟨h1, h2⟩
    · exact Or.inl ⟨k + 1, h1, h2⟩
    · by_cases hij : i = j
      · subst hij
        have hlt : i < h.length := by
          have := (List.getElem?_eq_some_iff.mp h1).1
          rwa [List.length_set] at this
        rw [List.getElem?_set_self hlt] at h1
        exact Or.inl ⟨0, rfl, h1⟩
      · rw [List.getElem?_set_ne hij] at h1
        exact Or.inr ⟨h1, fun hm => (List.mem_cons.mp hm).elim (fun q => hij q.symm) h2⟩
section GK
variable {K K' : gK} {sc : Nat × (Nat → Int32)} {R R' : Room} {n0 : Nat} {E Ec : gO → gH → Prop} {cs ss pc : Nat} {l : gL} {st : List Value} {h hc : gH} {as : List Value}
/-- the callee's cells out of the caller's -/
def gCut (h hc : gH) (ps : List Nat) : Prop := ps.map (fun j => h[j]?) = hc.map (fun e => some (gre (gren ps h.length) e)) ∧ va_nd ps = true
theorem gCut.len {ps : List Nat} (hcut : gCut h hc ps) : ps.length = hc.length := by
  have := congrArg List.length hcut.1
  rwa [List.length_map, List.length_map] at this
theorem gCut.at' {ps : List Nat} (hcut : gCut h hc ps) {k : Nat} {e : gC} (hk : hc[k]? = some e) : ∃ j, ps[k]? = some j ∧ h[j]? = some (gre (gren ps h.length) e) := by
  have h1 := congrArg (fun z : List (Option gC) => z[k]?) hcut.1
  simp only [List.getElem?_map, hk, Option.map_some] at h1
  cases hp : ps[k]? with
  | none => rw [hp] at h1; cases h1
  | some j =>
    rw [hp] at h1
    exact ⟨j, rfl, Option.some.inj h1⟩
theorem gren_at {ps : List Nat} {n k j : Nat} (hk : ps[k]? = some j) (h1 : k < 1000) : gren ps n k = j := by
  unfold gren
  have : Nat.ble 1000 k = false := by
    cases hb : Nat.ble 1000 k with
    | false => rfl
    | true => exact absurd (Nat.le_of_ble_eq_true hb) (by omega)
  rw [this, hk]
  rfl
theorem gren_out {ps : List Nat} {n k : Nat} (h1 : 1000 ≤ k) : gren ps n k = k := by
  unfold gren
  have : Nat.ble 1000 k = true := Nat.ble_eq_true_of_le h1
  rw [this]
  rfl
theorem gCut.wP {G : gG} {ad : Nat → Nat} {H : Heap} {ps : List Nat} (hcut : gCut h hc ps) (hb : hc.length ≤ 1000) (hP : va_P G.1 gcl (gmw G ad h) H) : va_P G.1 gcl (gmw G (fun k => ad (gren ps h.length k)) hc) H := by
  intro k q hq
  rw [gmw_at] at hq
  cases hk : hc[k]? with
  | none => rw [hk] at hq; cases hq
  | some e =>
    rw [hk] at hq
    cases hq
    obtain ⟨j, h1, h2⟩ := hcut.at' hk
    have hlt : k < hc.length := (List.getElem?_eq_some_iff.mp hk).1
    have h3 := hP j (ad j, gmc G ad (gre (gren ps h.length) e)) (by rw [gmw_at, h2]; rfl)
    rw [gmc_gre] at h3
    show va_at G.1 gcl (ad (gren ps h.length k), gmc G (fun k => ad (gren ps h.length k)) e) H
    rw [gren_at h1 (Nat.lt_of_lt_of_le hlt hb)]
    exact h3
theorem gCut.wD {G : gG} {ad : Nat → Nat} {A : Nat → Prop} {ps : List Nat} (hcut : gCut h hc ps) (hb : hc.length ≤ 1000) (hD : va_D A (gmw G ad h)) : va_D A (gmw G (fun k => ad (gren ps h.length k)) hc) := by
  have key : ∀ (k : Nat) (q : Nat × va_E), (gmw G (fun k => ad (gren ps h.length k)) hc)[k]? = some q → ∃ j e, ps[k]? = some j ∧ (gmw G ad h)[j]? = some (q.1, e) := by
    intro k q hq
    rw [gmw_at] at hq
    cases hk : hc[k]? with
    | none => rw [hk] at hq; cases hq
    | some e =>
      rw [hk] at hq
      cases hq
      obtain ⟨j, h1, h2⟩ := hcut.at' hk
      have hlt : k < hc.length := (List.getElem?_eq_some_iff.mp hk).1
      refine ⟨j, gmc G ad (gre (gren ps h.length) e), h1, ?_⟩
      rw [gmw_at, h2]
      show some (ad j, _) = some (ad (gren ps h.length k), _)
      rw [gren_at h1 (Nat.lt_of_lt_of_le hlt hb)]
  refine ⟨fun i j x y hx hy hxy => ?_, fun k q hq => ?_⟩
  · obtain ⟨i', e1, a1, a2⟩ := key i x hx
    obtain ⟨j', e2, b1, b2⟩ := key j y hy
    have := hD.1 i' j' _ _ a2 b2 hxy
    subst this
    exact va_nd_inj ps hcut.2 i j i' a1 b1
  · obtain ⟨j, e, -, h2⟩ := key k q hq
    exact hD.2 j (q.1, e) h2
/-- what the callee may write is the caller's to write -/
theorem gCut.wA {G : gG} {ad : Nat → Nat} {A : Nat → Prop} {H0 H : Heap} {locs : List Loc} {ps : List Nat} (hcut : gCut h hc ps) (hb : hc.length ≤ 1000) (hD : va_D A (gmw G ad h)) (hS : va_S A H0 H locs) (hA : ∀ q, H0.size ≤ q → A q) : ∀ q, va_A (gmw G (fun k => ad (gren ps h.length k)) hc) H.size q → A q := by
  intro q hq
  rcases hq with ⟨k, e, hk⟩ | hq
  · exact (hcut.wD hb hD).2 k (q, e) hk
  · exact hA q (Nat.le_trans hS.1 hq)
/-- what comes back stands beside the rest, which is as it was; the callee made nothing that is kept -/
theorem gCut.back {G : gG} {ad ad' : Nat → Nat} {A : Nat → Prop} {H H1 : Heap} {ps : List Nat} {hc' : gH} (hcut : gCut h hc ps) (hb : hc.length ≤ 1000) (hP : va_P G.1 gcl (gmw G ad h) H) (hD : va_D A (gmw G ad h)) (hlen : hc'.length = hc.length) (hwf : hc'.all (gwf hc.length) = true)
    (had : ∀ k, (k < hc.length ∨ 1000 ≤ k) → ad' k = ad (gren ps h.length k)) (hk : ∀ q : Nat, q < H.size → ¬ va_A (gmw G (fun k => ad (gren ps h.length k)) hc) H.size q → H1[q]? = H[q]?) (hP1 : va_P G.1 gcl (gmw G ad' hc') H1) :
    va_P G.1 gcl (gmw G ad (gsets h ps (hc'.map (gre (gren ps h.length))))) H1 ∧ va_D A (gmw G ad (gsets h ps (hc'.map (gre (gren ps h.length))))) := by
  have hpl : ps.length = (hc'.map (gre (gren ps h.length))).length := by rw [List.length_map, hlen, hcut.len]
  have hlen2 : (gsets h ps (hc'.map (gre (gren ps h.length)))).length = h.length := gsets_len _ _ _
  refine ⟨fun j q hq => ?_, ?_⟩
  · rw [gmw_at] at hq
    cases hj : (gsets h ps (hc'.map (gre (gren ps h.length))))[j]? with
    | none => rw [hj] at hq; cases hq
    | some e =>
      rw [hj] at hq
      cases hq
      rcases gsets_at ps _ h j e hpl hj with ⟨k, h1, h2⟩ | ⟨h1, h2⟩
      · rw [List.getElem?_map] at h2
        cases hx : hc'[k]? with
        | none => rw [hx] at h2; cases h2
        | some x =>
          rw [hx] at h2
          cases h2
          have hlt : k < hc.length := by rw [← hlen]; exact (List.getElem?_eq_some_iff.mp hx).1
          have h3 := hP1 k (ad' k, gmc G ad' x) (by rw [gmw_at, hx]; rfl)
          rw [gmc_congr had (List.all_eq_true.mp hwf x (List.mem_of_getElem? hx)), had k (Or.inl hlt), gren_at h1 (Nat.lt_of_lt_of_le hlt hb)] at h3
          show va_at G.1 gcl (ad j, gmc G ad (gre (gren ps h.length) x)) H1
          rw [gmc_gre]
          exact h3
      · have h3 := hP j (ad j, gmc G ad e) (by rw [gmw_at, h1]; rfl)
        refine h3.kept (hk _ h3.lt ?_)
        rintro (⟨k, e', hk'⟩ | hge)
        · rw [gmw_at] at hk'
          cases hy : hc[k]? with
          | none => rw [hy] at hk'; cases hk'
          | some y =>
            rw [hy] at hk'
            have hlt : k < hc.length := (List.getElem?_eq_some_iff.mp hy).1
            obtain ⟨i, i1, i2⟩ := hcut.at' hy
            have hadr : ad (gren ps h.length k) = ad j := congrArg Prod.fst (Option.some.inj hk')
            rw [gren_at i1 (Nat.lt_of_lt_of_le hlt hb)] at hadr
            have := hD.1 i j (ad i, gmc G ad (gre (gren ps h.length) y)) (ad j, gmc G ad e) (by rw [gmw_at, i2]; rfl) (by rw [gmw_at, h1]; rfl) hadr
            subst this
            exact h2 (List.mem_of_getElem? i1)
        · exact absurd h3.lt (Nat.not_lt.mpr hge)
  · have key : ∀ (k : Nat) (q : Nat × va_E), (gmw G ad (gsets h ps (hc'.map (gre (gren ps h.length)))))[k]? = some q → ∃ e, (gmw G ad h)[k]? = some (q.1, e) := by
      intro k q hq
      have hlt : k < h.length := by
        have := (List.getElem?_eq_some_iff.mp hq).1
        rwa [gmw_len, hlen2] at this
      rw [gmw_at] at hq
      cases hj : (gsets h ps (hc'.map (gre (gren ps h.length))))[k]? with
      | none => rw [hj] at hq; cases hq
      | some e =>
        rw [hj] at hq
        cases hq
        exact ⟨gmc G ad h[k], by rw [gmw_at, List.getElem?_eq_getElem hlt]; rfl⟩
    refine ⟨fun i j x y hx hy hxy => ?_, fun k q hq => ?_⟩
    · obtain ⟨e1, a1⟩ := key i x hx
      obtain ⟨e2, a2⟩ := key j y hy
      exact hD.1 i j _ _ a1 a2 hxy
    · obtain ⟨e, a⟩ := key k q hq
      exact hD.2 k (q.1, e) a
end GK
