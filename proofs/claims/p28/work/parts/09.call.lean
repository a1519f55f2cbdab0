/-! the call's rules -/
theorem gNs_same {u U : State} (hv : u.vm = U.vm) (h : ∀ w ∈ gNs, va_Nw w u) : ∀ w ∈ gNs, va_Nw w U := by
  intro w hw
  have h1 := h w hw
  have h2 := (List.mem_filter.mp hw).2
  cases w with
  | fieldLinkNest a b c d e f => exact va_Nw.same rfl hv h1
  | methodLinkNest a b c d => exact va_Nw.same rfl hv h1
  | castable a b => exact va_Nw.same rfl hv h1
  | declares a => exact va_Nw.same rfl hv h1
  | _ => cases h2
theorem gM_blind {as : List Value} {sz : Nat} {G : gG} {ad : Nat → Nat} {h : gH} {sc : Nat × (Nat → Int32)} : FrameBlind (va_Pc as (fun U => U.heap.size = sz ∧ va_P G.1 gcl (gmw G ad h) U.heap ∧ va_K G.1 gcl (gTys G) U ∧ va_D (fun _ => True) (gmw G ad h) ∧ gAmb sc ad (va_A (gmw G ad h) sz) U)) := by
  intro a U g mk hp
  obtain ⟨h1, h2, h3, h4, h5, h6⟩ := hp
  exact ⟨h1, h2, h3, va_K.moved (u := U) (U := U.calling g mk a) (Vm.Alike.refl U.vm) h4, h5, gAmb.to (U := U.calling g mk a) h6 (State.WarmedH.refl U) (fun _ _ _ => rfl) (fun _ h => h) (fun _ _ => rfl)⟩
theorem gTs_in {ws : List Cond} (h : ∀ w ∈ ws, w ∈ gTs) : GoodIn gTs ws := fun w hw => gTs_self w (h w hw)
section GC
variable {K : gK} {sc : Nat × (Nat → Int32)} {R R' : Room} {n0 : Nat} {E Ec : gO → gH → Prop} {cs ss pc : Nat} {l : gL} {st : List Value} {h hc : gH} {as : List Value}
variable {p : Program} {la : Launch} {e : Env} {s : State} {m : MethodId} {args : Array Value} {below : List Frame} {meth : Method} {c : Code} {G : gG} {ad0 ad : Nat → Nat} {A : Nat → Prop} {H : Heap} {locs : List Loc} {ls : Array Slot}
/-- what must follow a call: behind its return, and (no handler here) where it throws -/
def gAft (K : gK) (sc : Nat × (Nat → Int32)) (R R' : Room) (n0 : Nat) (E Ec : gO → gH → Prop) (cs ss pc : Nat) (l : gL) (st : List Value) (h hc : gH) (ps : List Nat) : Prop :=
  (∀ v hc', Ec (.inl v) hc' → hc'.length = hc.length ∧ hc'.all (gwf hc.length) = true ∧ (∀ x, v = some x → gwv hc.length x = true) ∧ gW K sc R n0 E (cs + R'.cells) (ss + R'.slots) (pc + 3) l ((v.map (gmv (gren ps h.length))).toList ++ st) (gsets h ps (hc'.map (gre (gren ps h.length))))) ∧
  (∀ X hc', Ec (.inr X) hc' → hc'.all (gwf hc.length) = true ∧ h.length = n0 ∧ (gsets h ps (hc'.map (gre (gren ps h.length)))).all (gwf n0) = true ∧ E (.inr X) (gsets h ps (hc'.map (gre (gren ps h.length)))) ∧ K.2.2.2.2.2 = [])
theorem gcall_ret {ps : List Nat} (X : gCtx K G sc ad0 A p la s m args meth c) (had : ∀ k, (k < n0 ∨ 1000 ≤ k) → ad k = ad0 k) (hl : lv_has ls K.2.2.2.1 (gml ad l)) (hP : va_P G.1 gcl (gmw G ad h) H) (hD : va_D A (gmw G ad h)) (hS : va_S A s.heap H locs)
    (hcut : gCut h hc ps) (hb : hc.length ≤ 1000) (hf : cs + R'.cells ≤ R.cells ∧ ss + R'.slots ≤ R.slots) {st0 : List Value} {a' : Array Value}
    (hr : vx_Run p la e R s m args below meth c H locs cs ss R'.cells R'.slots (F0 m pc ls st0) (st.map (gmv ad)) (gQ G (fun k => ad (gren ps h.length k)) hc.length (va_A (gmw G (fun k => ad (gren ps h.length k)) hc) H.size) Ec a') (gXC G (fun k => ad (gren ps h.length k)) hc.length (va_A (gmw G (fun k => ad (gren ps h.length k)) hc) H.size) Ec) (va_A (gmw G (fun k => ad (gren ps h.length k)) hc) H.size))
    (kk : gAft K sc R R' n0 E Ec cs ss pc l st h hc ps) :
    W p la e R s m args below meth c H locs cs ss (vx_MQ below (gQ G ad0 n0 A E) (gXC G ad0 n0 A E) args s R.cells R.slots A) (F0 m pc ls st0) := by
  obtain ⟨hx, hb', hml, hown, hts, hK, hamb, hA, hla, hlk, hrt, hnm, htb⟩ := id X
  have hAA := hcut.wA hb hD hS hA
  intro T hT Xs
  rcases hr T hT Xs with ⟨v, st₀, t, T', L, h0, X', hL, e1, e2, ⟨⟨ad', v', hc', hv, hEc, hlen, had', hP1, hD1⟩, hF⟩, stp⟩ | ⟨q, st₀, t, T', L, Ex, ce, h0, X', hL, e1, e2, ⟨⟨hc', hEc, hlen, hP1, hD1⟩, hF⟩, hce, hcv, hcl, stp⟩
  · cases hv
    obtain ⟨k1, k2, k3⟩ := vx_keep h0 e1 hS (fun q _ z => hAA q z) hAA hL hF
    obtain ⟨g1, g2, g3, g4⟩ := kk.1 v' hc' hEc
    rw [← e1] at hP1
    obtain ⟨hP2, hD2⟩ := hcut.back hb hP hD g1 g2 had' k2 hP1
    obtain ⟨t2, a1, b1⟩ := g4 p la e s m args below meth c G ad0 A X T'.heap (locs ++ L) ad ls had hl hP2 hD2 k3 T' rfl X'
    refine ⟨t2, stp t2 ?_, b1⟩
    have hst : ((v'.map (gmv (gren ps h.length))).toList ++ st).map (gmv ad) = (v'.map (gmv ad')).toList ++ st.map (gmv ad) := by
      cases v' with
      | none => rfl
      | some x =>
        show gmv ad (gmv (gren ps h.length) x) :: st.map (gmv ad) = gmv ad' x :: st.map (gmv ad)
        rw [gmv_gmv, gmv_congr had' (g3 x rfl)]
    rw [hst] at a1
    exact a1
  · obtain ⟨k1, k2, k3⟩ := vx_keep h0 e1 hS (fun q _ z => hAA q z) hAA hL hF
    obtain ⟨g1, g2, g3, g4, g5⟩ := kk.2 Ex hc' hEc
    rw [← e1] at hP1
    obtain ⟨hP2, hD2⟩ := hcut.back hb hP hD hlen g1 (ad' := fun k => ad (gren ps h.length k)) (fun _ _ => rfl) k2 hP1
    have hlen2 : (gsets h ps (hc'.map (gre (gren ps h.length)))).length = h.length := gsets_len _ _ _
    have hcg := gmw_congr (G := G) (h := gsets h ps (hc'.map (gre (gren ps h.length)))) (n := n0) had (by rw [hlen2, g2]; exact Nat.le_refl _) g3
    have hwx : vx_W p la e R s m args below meth c T'.heap (locs ++ L) (cs + R'.cells) (ss + R'.slots) (vx_MQ below (gQ G ad0 n0 A E) (gXC G ad0 n0 A E) args s R.cells R.slots A) (F0 m pc ls (st.map (gmv ad))) q := by
      refine vx_out (E := Ex) (ce := ce) ?_ hlk (by rw [e1]; exact hce) hcv hcl (fun t' ht' _ => ⟨⟨_, g4, by rw [hlen2, g2], ?_, ?_⟩, k3.F ht'⟩) k3.2.2 hf.1 hf.2
      · intro x hx
        rw [htb, g5] at hx
        cases hx
      · rw [← hcg, ht']
        exact hP2
      · rw [← hcg]
        exact hD2
    obtain ⟨t2, a1, b1⟩ := hwx T' rfl X'
    exact ⟨t2, stp.trans a1, b1⟩
/-- the ambient facts at a callee's start -/
theorem gcall_pre {ps : List Nat} (X : gCtx K G sc ad0 A p la s m args meth c) (had : ∀ k, (k < n0 ∨ 1000 ≤ k) → ad k = ad0 k) (hP : va_P G.1 gcl (gmw G ad h) H) (hD : va_D A (gmw G ad h)) (hS : va_S A s.heap H locs) (hcut : gCut h hc ps) (hb : hc.length ≤ 1000) (U : State) (hU : U.heap = H) (hW : s.WarmedH U.vm) :
    U.heap.size = H.size ∧ va_P G.1 gcl (gmw G (fun k => ad (gren ps h.length k)) hc) U.heap ∧ va_K G.1 gcl (gTys G) U ∧ va_D (fun _ => True) (gmw G (fun k => ad (gren ps h.length k)) hc) ∧ gAmb sc (fun k => ad (gren ps h.length k)) (va_A (gmw G (fun k => ad (gren ps h.length k)) hc) H.size) U := by
  obtain ⟨hx, hb', hml, hown, hts, hK, hamb, hA, hla, hlk, hrt, hnm, htb⟩ := id X
  refine ⟨by rw [hU], by rw [hU]; exact hcut.wP hb hP, va_K.moved hW.alike hK, (hcut.wD hb hD).weaken (fun _ _ _ _ => trivial), gAmb.to hamb hW (fun a ha hn => ?_) (hcut.wA hb hD hS hA) (fun j hj => ?_)⟩
  · rw [hU]
    exact hS.2.1 a ha hn
  · show ad (gren ps h.length (1000 + j)) = ad0 (1000 + j)
    rw [gren_out (Nat.le_add_right _ _)]
    exact had _ (Or.inr (Nat.le_add_right _ _))
end GC
section GD
variable {K : gK} {sc : Nat × (Nat → Int32)} {R R' : Room} {n0 : Nat} {E Ec : gO → gH → Prop} {cs ss pc : Nat} {l : gL} {st st0 : List Value} {h hc : gH} {as : List Value}
variable {o' : Nat} {y' : MethodName} {cc' : ByteArray} {nL' : Nat} {ret' : Option FieldType}
theorem gmap_as (ad : Nat → Nat) (ps : List Nat) (n : Nat) (as : List Value) : (as.map (gmv (gren ps n))).map (gmv ad) = as.map (gmv fun k => ad (gren ps n k)) := by
  rw [List.map_map]
  exact List.map_congr_left fun v _ => gmv_gmv ad _ v
theorem gW_callS {i n : Nat} (hM : gM (o', y', cc', nL', ret', []) R' as hc Ec) (lk : gLkS (gown K.1) i n (o', y', cc', nL', ret', [])) (ps : List Nat) (hd : decode K.2.2.1 pc = .ok (.invokestatic i, 3)) (hst : st0 = (as.map (gmv (gren ps h.length))).reverse ++ st) (hn : as.length = n) (hcut : gCut h hc ps) (hb : hc.length ≤ 1000)
    (hsum : (st.map fun v => v.category).sum ≤ 8) (hR : R'.frames + 1 ≤ R.frames ∧ 8 + (nL' + 11) + R'.locals ≤ R.locals) (hf : cs + R'.cells ≤ R.cells ∧ ss + R'.slots ≤ R.slots) (kk : gAft K sc R R' n0 E Ec cs ss pc l st h hc ps) : gW K sc R n0 E cs ss pc l st0 h := by
  intro p la e s m args below meth c G ad0 A X H locs ad ls had hl hP hD hS
  obtain ⟨hx, hb', hml, hown, hts, hK, hamb, hA, hla, hlk, hrt, hnm, htb⟩ := id X
  obtain ⟨l0, l1, l2, l3, l4, l5, l6⟩ := lk
  have hsum' : 2 * (F0 m pc ls (st0.map (gmv ad))).monitorRoom + ((st.map (gmv ad)).map fun v => v.category).sum ≤ 8 := by rw [gcats]; exact Nat.le_trans (Nat.le_of_eq (Nat.zero_add _)) hsum
  have hG : GoodIn gTs (gwd (o', y', cc', nL', ret', []) :: gTs) := gTs_in fun w hw => (List.mem_cons.mp hw).elim (fun q => q ▸ l4) id
  have hMM := hM la hla G sc (fun k => ad (gren ps h.length k)) H.size
  have hp : PreS s H (va_Pc (as.map (gmv fun k => ad (gren ps h.length k))) (fun U => U.heap.size = H.size ∧ va_P G.1 gcl (gmw G (fun k => ad (gren ps h.length k)) hc) U.heap ∧ va_K G.1 gcl (gTys G) U ∧ va_D (fun _ => True) (gmw G (fun k => ad (gren ps h.length k)) hc) ∧ gAmb sc (fun k => ad (gren ps h.length k)) (va_A (gmw G (fun k => ad (gren ps h.length k)) hc) H.size) U)) (as.map (gmv fun k => ad (gren ps h.length k))) :=
    ⟨gM_blind, fun U hU hW => ⟨rfl, gcall_pre X had hP hD hS hcut hb U hU hW⟩⟩
  have hstk : st0.map (gmv ad) = (as.map (gmv fun k => ad (gren ps h.length k))).reverse ++ st.map (gmv ad) := by
    rw [hst, List.map_append, List.map_reverse, gmap_as]
  rcases l1 with l1 | l1
  · exact gcall_ret X had hl hP hD hS hcut hb hf (vx_runS ⟨hx, hb', hml, hown, hts⟩ hMM ⟨callB_of n hts hG rfl rfl rfl (hts _ l3) (hts _ l1) ⟨l5, l6, l0⟩ hR, hts _ l2⟩ hp rfl (by rw [List.length_map]; exact hn) hl.1 hstk hsum' hd hf) kk
  · exact gcall_ret X had hl hP hD hS hcut hb hf (vx_runSN ⟨hx, hb', hml, hown, hts⟩ hMM ⟨va_cnB n hts hG rfl rfl rfl (hamb.2.2.2.2 _ l1) (hts _ l3) ⟨l5, l6, l0⟩ hR, hts _ l2, trivial⟩ hp rfl (by rw [List.length_map]; exact hn) hl.1 hstk hsum' hd hf) kk
theorem gW_callV {i n r0 : Nat} {fs : List Value} (hM : gM (o', y', cc', nL', ret', []) R' (.ref r0 :: as) hc Ec) (lk : gLkV (gown K.1) i n (o', y', cc', nL', ret', [])) (ps : List Nat) (hd : decode K.2.2.1 pc = .ok (.invokevirtual i, 3)) (hst : st0 = ((Value.ref r0 :: as).map (gmv (gren ps h.length))).reverse ++ st) (hn : as.length = n) (hcut : gCut h hc ps) (hb : hc.length ≤ 1000)
    (ho : gown o' = y'.cls) (ho7 : o' < 7) (hrc : hc[r0]? = some (cO o' fs)) (hsum : (st.map fun v => v.category).sum ≤ 8) (hR : R'.frames + 1 ≤ R.frames ∧ 8 + (nL' + 11) + R'.locals ≤ R.locals) (hf : cs + R'.cells ≤ R.cells ∧ ss + R'.slots ≤ R.slots) (kk : gAft K sc R R' n0 E Ec cs ss pc l st h hc ps) : gW K sc R n0 E cs ss pc l st0 h := by
  intro p la e s m args below meth c G ad0 A X H locs ad ls had hl hP hD hS
  obtain ⟨hx, hb', hml, hown, hts, hK, hamb, hA, hla, hlk, hrt, hnm, htb⟩ := id X
  obtain ⟨l0, l1, l2, l3, l4, l5, l6, l7⟩ := lk
  have hsum' : 2 * (F0 m pc ls (st0.map (gmv ad))).monitorRoom + ((st.map (gmv ad)).map fun v => v.category).sum ≤ 8 := by rw [gcats]; exact Nat.le_trans (Nat.le_of_eq (Nat.zero_add _)) hsum
  have hG : GoodIn gTs (gwd (o', y', cc', nL', ret', []) :: gTs) := gTs_in fun w hw => (List.mem_cons.mp hw).elim (fun q => q ▸ l5) id
  have hMM := hM la hla G sc (fun k => ad (gren ps h.length k)) H.size
  have hrecv := va_recv (H := H) (ws := gmw G (fun k => ad (gren ps h.length k)) hc) (q0 := r0) hK (hcut.wP hb hP) (gcl_at ho7) (gmw_of hrc)
  have hp : PreV s H y'.cls (ad (gren ps h.length r0)) (va_Pc ((Value.ref r0 :: as).map (gmv fun k => ad (gren ps h.length k))) (fun U => U.heap.size = H.size ∧ va_P G.1 gcl (gmw G (fun k => ad (gren ps h.length k)) hc) U.heap ∧ va_K G.1 gcl (gTys G) U ∧ va_D (fun _ => True) (gmw G (fun k => ad (gren ps h.length k)) hc) ∧ gAmb sc (fun k => ad (gren ps h.length k)) (va_A (gmw G (fun k => ad (gren ps h.length k)) hc) H.size) U)) (as.map (gmv fun k => ad (gren ps h.length k))) :=
    ⟨gM_blind, by rw [← ho]; exact hrecv, fun U hU hW => ⟨rfl, gcall_pre X had hP hD hS hcut hb U hU hW⟩⟩
  have hstk : st0.map (gmv ad) = (as.map (gmv fun k => ad (gren ps h.length k))).reverse ++ .ref (ad (gren ps h.length r0)) :: st.map (gmv ad) := by
    rw [hst, List.map_append, List.map_reverse, gmap_as, List.map_cons, List.reverse_cons, List.append_assoc]
    rfl
  exact gcall_ret X had hl hP hD hS hcut hb hf (vx_runV ⟨hx, hb', hml, hown, hts⟩ hMM ⟨callB_of n hts hG rfl rfl rfl (hts _ l4) (hts _ l1) ⟨l6, l7, l0⟩ hR, hts _ l2, hts _ l3⟩ hp rfl (by rw [List.length_map]; exact hn) hl.1 hstk hsum' hd hf) kk
/-- the contract of one end: the answer (or the exception's class) and the cells -/
def gD (o : gO) (h : gH) : gO → gH → Prop := fun o' h' => o' = o ∧ h' = h
/-- a call that returns, its end known -/
theorem gAft_r {ps : List Nat} {v : Option Value} {hc' h' : gH} {st' : List Value} {pc' : Nat} {cs' ss' : Nat} (hlen : hc'.length = hc.length) (hwf : (hc'.all (gwf hc.length) && (v.toList.all (gwv hc.length))) = true) (hh : gsets h ps (hc'.map (gre (gren ps h.length))) = h') (hs : (v.map (gmv (gren ps h.length))).toList ++ st = st') (hpc : pc + 3 = pc') (hcs : cs + R'.cells = cs') (hss : ss + R'.slots = ss') (k : gW K sc R n0 E cs' ss' pc' l st' h') : gAft K sc R R' n0 E (gD (.inl v) hc') cs ss pc l st h hc ps := by
  subst hh; subst hs; subst hpc; subst hcs; subst hss
  simp only [Bool.and_eq_true] at hwf
  refine ⟨fun w x hx => ?_, fun X x hx => (nomatch hx.1)⟩
  obtain ⟨h1, rfl⟩ := hx
  cases h1
  refine ⟨hlen, hwf.1, fun x hx => ?_, k⟩
  subst hx
  exact List.all_eq_true.mp hwf.2 x (by simp)
/-- a call that throws, and so this frame ends -/
theorem gAft_x {ps : List Nat} {Xc : String} {hc' : gH} (hwf : hc'.all (gwf hc.length) = true) (hn : h.length = n0) (hw : (gsets h ps (hc'.map (gre (gren ps h.length)))).all (gwf n0) = true) (hE : E (.inr Xc) (gsets h ps (hc'.map (gre (gren ps h.length))))) (ht : K.2.2.2.2.2 = []) : gAft K sc R R' n0 E (gD (.inr Xc) hc') cs ss pc l st h hc ps := by
  refine ⟨fun v x hx => (nomatch hx.1), fun X x hx => ?_⟩
  obtain ⟨h1, rfl⟩ := hx
  cases h1
  exact ⟨hwf, hn, hw, hE, ht⟩
end GD
