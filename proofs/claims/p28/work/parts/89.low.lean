/-! THE LAW's draws: low, cell, value -/
/-- a contract for one script -/
def gMs (sc : Nat × (Nat → Int32)) (K : gK) (R : Room) (as : List Value) (h : gH) (E : gO → gH → Prop) : Prop :=
  ∀ (la : Launch), la.stackTraces = false → ∀ (G : gG) (ad : Nat → Nat) (sz : Nat),
  vx_Met la K.2.1 (gwd K :: gTs) R (va_Pc (as.map (gmv ad)) (fun U => U.heap.size = sz ∧ va_P G.1 gcl (gmw G ad h) U.heap ∧ va_K G.1 gcl (gTys G) U ∧ va_D (fun _ => True) (gmw G ad h) ∧ gAmb sc ad (va_A (gmw G ad h) sz) U))
    (gQ G ad h.length (va_A (gmw G ad h) sz) E) (gXC G ad h.length (va_A (gmw G ad h) sz) E) R.cells R.slots (va_A (gmw G ad h) sz)
theorem gMs_of {sc : Nat × (Nat → Int32)} {o : Nat} {y : MethodName} {cc : ByteArray} {nL : Nat} {ret : Option FieldType} {R : Room} {as : List Value} {h : gH} {E : gO → gH → Prop} (hy : plainName y.cls = true) (ho : gown o = y.cls) (hsz : (lg_sl as).length ≤ nL)
    (k : gW (o, y, cc, nL, ret, []) sc R h.length E 0 0 0 (lv_args 0 as) [] h) : gMs sc (o, y, cc, nL, ret, []) R as h E := by
  intro la hla G ad sz
  refine vx_ofW (cc := cc) (maxL := nL) (ret := ret) hy rfl ?_
  intro p e s m args below meth c s₁ B hml hexc hv
  obtain ⟨rfl, rfl, hP, hK, hD0, hamb⟩ := hv
  have hts := atoms_spec (ws := gTs) (args := ((as.map (gmv ad)).toArray)) (s := s) (by
    have h1 := atoms_spec (ws := gwd (o, y, cc, nL, ret, []) :: gTs) B.pre
    exact atoms_intro fun w hw => h1 w (List.mem_cons_of_mem _ hw))
  have hown : s.vm.findClass y.cls = some m.cls := findClass_of_methodNamed B.named
  have hl := lv_entry (as.map (gmv ad)) (n := nL) (by rw [gsl_len]; exact hsz)
  rw [gml_args] at hl
  rw [lg_entry_eq]
  have hD := hD0.self (sz := s.heap.size)
  exact k p la e s m _ below meth c G ad (va_A (gmw G ad h) s.heap.size) ⟨B.exec, B.bytes, hml, by rw [ho]; exact hown, hts, hK, hamb, fun q hq => Or.inr hq, hla, B.notSynchronized, B.returns, (name_of_methodNamed B.named B.method).1, List.eq_nil_iff_forall_not_mem.mpr hexc⟩ s.heap [] ad _ (fun _ _ => rfl) hl hP hD va_S.rf
theorem gW_callSs {K : gK} {sc : Nat × (Nat → Int32)} {R R' : Room} {n0 : Nat} {E Ec : gO → gH → Prop} {cs ss pc : Nat} {l : gL} {st st0 : List Value} {h hc : gH} {as : List Value} {o' : Nat} {y' : MethodName} {cc' : ByteArray} {nL' : Nat} {ret' : Option FieldType} {i n : Nat} (hM : gMs sc (o', y', cc', nL', ret', []) R' as hc Ec) (lk : gLkS (gown K.1) i n (o', y', cc', nL', ret', [])) (ps : List Nat) (hd : decode K.2.2.1 pc = .ok (.invokestatic i, 3)) (hst : st0 = (as.map (gmv (gren ps h.length))).reverse ++ st) (hn : as.length = n) (hcut : gCut h hc ps) (hb : hc.length ≤ 1000)
    (hsum : (st.map fun v => v.category).sum ≤ 8) (hR : R'.frames + 1 ≤ R.frames ∧ 8 + (nL' + 11) + R'.locals ≤ R.locals) (hf : cs + R'.cells ≤ R.cells ∧ ss + R'.slots ≤ R.slots) (kk : gAft K sc R R' n0 E Ec cs ss pc l st h hc ps) : gW K sc R n0 E cs ss pc l st0 h := by
  intro p la e s m args below meth c G ad0 A X H locs ad ls had hl hP hD hS
  obtain ⟨hx, hb', hml, hown, hts, hK, hamb, hA, hla, hlk, hrt, hnm, htb⟩ := id X
  obtain ⟨l0, l1, l2, l3, l4, l5, l6⟩ := lk
  have hsum' : 2 * (F0 m pc ls (st0.map (gmv ad))).monitorRoom + ((st.map (gmv ad)).map fun v => v.category).sum ≤ 8 := by rw [gcats]; exact Nat.le_trans (Nat.le_of_eq (Nat.zero_add _)) hsum
  have hG : GoodIn gTs (gwd (o', y', cc', nL', ret', []) :: gTs) := gTs_in fun w hw => (List.mem_cons.mp hw).elim (fun q => q ▸ l4) id
  have hMM := hM la hla G (fun k => ad (gren ps h.length k)) H.size
  have hp : PreS s H (va_Pc (as.map (gmv fun k => ad (gren ps h.length k))) (fun U => U.heap.size = H.size ∧ va_P G.1 gcl (gmw G (fun k => ad (gren ps h.length k)) hc) U.heap ∧ va_K G.1 gcl (gTys G) U ∧ va_D (fun _ => True) (gmw G (fun k => ad (gren ps h.length k)) hc) ∧ gAmb sc (fun k => ad (gren ps h.length k)) (va_A (gmw G (fun k => ad (gren ps h.length k)) hc) H.size) U)) (as.map (gmv fun k => ad (gren ps h.length k))) :=
    ⟨gM_blind, fun U hU hW => ⟨rfl, gcall_pre X had hP hD hS hcut hb U hU hW⟩⟩
  have hstk : st0.map (gmv ad) = (as.map (gmv fun k => ad (gren ps h.length k))).reverse ++ st.map (gmv ad) := by
    rw [hst, List.map_append, List.map_reverse, gmap_as]
  rcases l1 with l1 | l1
  · exact gcall_ret X had hl hP hD hS hcut hb hf (vx_runS ⟨hx, hb', hml, hown, hts⟩ hMM ⟨callB_of n hts hG rfl rfl rfl (hts _ l3) (hts _ l1) ⟨l5, l6, l0⟩ hR, hts _ l2⟩ hp rfl (by rw [List.length_map]; exact hn) hl.1 hstk hsum' hd hf) kk
  · exact gcall_ret X had hl hP hD hS hcut hb hf (vx_runSN ⟨hx, hb', hml, hown, hts⟩ hMM ⟨va_cnB n hts hG rfl rfl rfl (hamb.2.2.2.2 _ l1) (hts _ l3) ⟨l5, l6, l0⟩ hR, hts _ l2, trivial⟩ hp rfl (by rw [List.length_map]; exact hn) hl.1 hstk hsum' hd hf) kk
/-- a value below n out of an int -/
def lw (v : Int32) (n : Nat) : Nat := (v &&& 2147483647).toNatClampNeg % n
theorem lw_lt (v : Int32) {n : Nat} (h : 0 < n) : lw v n < n := Nat.mod_lt _ h
theorem low_e (v : Int32) {n : Nat} (h1 : 0 < n) (hn : n < 2 ^ 31) : (v &&& 2147483647) - (v &&& 2147483647) / nI n * nI n = nI (lw v n) := by
  obtain ⟨k, hk, e⟩ := pk_andE v (m := 2147483647) 31 (by decide)
  unfold lw
  rw [e, show (nI k).toNatClampNeg = k from nI_clamp hk, pk_div hk h1 hn, pk_mul, pk_sub (Nat.div_mul_le_self k n)]
  have := Nat.div_add_mod k n
  rw [Nat.mul_comm] at this
  exact congrArg nI (by omega)
theorem gmod {x y : Int32} {a n : Nat} (hx : x = nI a) (hy : y = nI n) (ha : a < 2 ^ 31) (h1 : 0 < n) (hn : n < 2 ^ 31) : x - x / y * y = nI (a % n) := by
  rw [hx, hy, pk_div ha h1 hn, pk_mul, pk_sub (Nat.div_mul_le_self a n)]
  have := Nat.div_add_mod a n
  rw [Nat.mul_comm] at this
  exact congrArg nI (by omega)
theorem val_ok {k m : Nat} (h : (k = 0 ∧ 1 ≤ m ∧ m ≤ 200) ∨ (k = 1 ∧ 10 ≤ m ∧ m ≤ 500) ∨ (k = 2 ∧ m ≤ 1) ∨ (k = 3 ∧ m ≤ 9) ∨ (k = 4 ∧ 1 ≤ m ∧ m ≤ 99) ∨ (k = 5 ∧ m ≤ 99 ∧ m ≠ 1)) : ¬ nI m < gLo k ∧ ¬ gHi k < nI m ∧ ¬ (k = 5 ∧ nI m = 1) := by
  have hm : m ≤ 500 := by omega
  have e : (nI m).toInt = (m : Int) := iN (by omega)
  have hk : k < 6 := by omega
  obtain ⟨l1, l2⟩ := gLo_v k hk
  rw [ilt, ilt, l1, l2, e]
  rcases h with ⟨rfl, h1, h2⟩ | ⟨rfl, h1, h2⟩ | ⟨rfl, h2⟩ | ⟨rfl, h2⟩ | ⟨rfl, h1, h2⟩ | ⟨rfl, h2, h1⟩
  · refine ⟨?_, ?_, fun q => absurd q.1 (by decide)⟩ <;> simp <;> omega
  · refine ⟨?_, ?_, fun q => absurd q.1 (by decide)⟩ <;> simp <;> omega
  · refine ⟨?_, ?_, fun q => absurd q.1 (by decide)⟩ <;> simp <;> omega
  · refine ⟨?_, ?_, fun q => absurd q.1 (by decide)⟩ <;> simp <;> omega
  · refine ⟨?_, ?_, fun q => absurd q.1 (by decide)⟩ <;> simp <;> omega
  · refine ⟨?_, ?_, fun q => ?_⟩
    · simp
    · simp; omega
    · have := ieq.mp q.2
      rw [e, i1] at this
      omega
theorem cutL {D : gDom} {a : Nat} (h : 0 < (dSt D 0).toInt) : (dSt D 1 - hA (dTr D) a < 0 → cutI D a = 0) ∧ (¬ dSt D 1 - hA (dTr D) a < 0 → dSt D 1 - hA (dTr D) a < dSt D 0 → cutI D a = dSt D 1 - hA (dTr D) a) ∧ (¬ dSt D 1 - hA (dTr D) a < dSt D 0 → cutI D a = dSt D 0) := by
  unfold cutI frI
  generalize dSt D 1 - hA (dTr D) a = r
  refine ⟨fun q => ?_, fun q1 q2 => ?_, fun q => ?_⟩
  · have q' := ilt.mp q
    rw [i0] at q'
    rw [show (if 0 < r then r else 0) = (0 : Int32) from if_neg (by rw [ilt, i0]; omega), if_pos (by rw [ilt, i0]; exact h)]
  · have q' := mt ilt.mpr q1
    rw [i0] at q'
    have er : (if 0 < r then r else 0) = r := by
      by_cases c : 0 < r
      · rw [if_pos c]
      · have c' := mt ilt.mpr c
        rw [i0] at c'
        rw [if_neg c]
        exact ieq.mpr (by rw [i0]; omega)
    rw [er, if_pos q2]
  · have q' := mt ilt.mpr q
    have er : (if 0 < r then r else 0) = r := if_pos (by rw [ilt, i0]; omega)
    rw [er, if_neg q]
set_option maxRecDepth 20000 in
theorem m_low (v : Int32) (n : Nat) (h1 : 0 < n) (hn : n < 2 ^ 31) : gM K_Lw_low { frames := 0, locals := 0, cells := 0, slots := 0 } [.int v, .int (nI n)] ([]) (gD (.inl (some (.int (nI (lw v n))))) ([])) := by
  refine gM_of rfl rfl (Nat.le_of_ble_eq_true rfl) (fun sc => ?_)
  have hd : ¬ nI n = 0 := nI_ne0 h1 hn
  refine gW_b D_Lw_low 0 5 (pc' := 6) (l' := [(0, .int v), (1, .int (nI n))]) (st' := [.int ((v &&& 2147483647) - (v &&& 2147483647) / (nI n) * (nI n))]) (h' := []) (P := ¬ (nI n) = 0 ∧ True) rfl ⟨(by assumption), trivial⟩ ?_
  rw [low_e v h1 hn]
  exact gW_iret (gdec_at D_Lw_low 5 rfl) rfl rfl (Nat.le_of_ble_eq_true rfl) ⟨rfl, rfl⟩ (Nat.le_of_ble_eq_true rfl) (Nat.le_of_ble_eq_true rfl)
set_option maxRecDepth 20000 in
theorem m_value_0 (x : Int32) : gM K_Lw_value { frames := 1, locals := 21, cells := 0, slots := 0 } [.int (nI 0), .int x] [] (gE (fun v => ¬ v < gLo 0 ∧ ¬ gHi 0 < v ∧ ¬ (0 = 5 ∧ v = 1)) (fun v => .inl (some (.int v))) (fun _ => [])) := by
  refine gM_of rfl rfl (Nat.le_of_ble_eq_true rfl) (fun sc => ?_)
  show gW K_Lw_value sc { frames := 1, locals := 21, cells := 0, slots := 0 } _ _ 0 0 0 [(0, .int 0), (1, .int x)] [] []
  refine gW_b D_Lw_value 0 1 (pc' := 1) (l' := [(0, .int 0), (1, .int x)]) (st' := [.int 0]) (h' := []) (P := True) rfl trivial ?_
  refine gW_if_ne (gdec_at D_Lw_value 1 rfl) (tgt := 16) rfl (fun cq => absurd (by decide) cq) (fun _ => ?_)
  refine gW_b D_Lw_value 2 3 (pc' := 9) (l' := [(0, .int 0), (1, .int x)]) (st' := [.int 200, .int x, .int 1]) (h' := []) (P := True) rfl trivial ?_
  have hl := lw_lt x (n := 200) (by decide)
  refine gW_callS (m_low x 200 (by omega) (by omega)) lk_Lw_69 [] (gdec_at D_Lw_value 5 rfl) (st := [.int 1]) rfl rfl ⟨rfl, rfl⟩ (Nat.le_of_ble_eq_true rfl) (Nat.le_of_ble_eq_true rfl) ⟨Nat.le_of_ble_eq_true rfl, Nat.le_of_ble_eq_true rfl⟩ ⟨Nat.le_of_ble_eq_true rfl, Nat.le_of_ble_eq_true rfl⟩ (gAft_r rfl rfl (h' := []) (st' := [.int (nI (lw x 200)), .int 1]) (pc' := 12) (cs' := 0) (ss' := 0) rfl rfl rfl rfl rfl ?_)
  refine gW_b D_Lw_value 6 2 (pc' := 115) (l' := [(0, .int 0), (1, .int x)]) (st' := [.int ((1 : Int32) + (nI (lw x 200)))]) (h' := []) (P := True) rfl trivial ?_
  rw [show ((1 : Int32) + (nI (lw x 200)) : Int32) = nI (1 + (lw x 200)) from (gadd (gk 1) (rfl : nI (lw x 200) = nI (lw x 200)))]
  have hv := val_ok (k := 0) (m := 1 + (lw x 200)) (Or.inl ⟨rfl, by omega, by omega⟩)
  exact gW_iret (gdec_at D_Lw_value 61 rfl) rfl rfl (Nat.le_of_ble_eq_true rfl) ⟨_, hv, rfl, rfl⟩ (Nat.le_of_ble_eq_true rfl) (Nat.le_of_ble_eq_true rfl)
set_option maxRecDepth 20000 in
theorem m_value_1 (x : Int32) : gM K_Lw_value { frames := 1, locals := 21, cells := 0, slots := 0 } [.int (nI 1), .int x] [] (gE (fun v => ¬ v < gLo 1 ∧ ¬ gHi 1 < v ∧ ¬ (1 = 5 ∧ v = 1)) (fun v => .inl (some (.int v))) (fun _ => [])) := by
  refine gM_of rfl rfl (Nat.le_of_ble_eq_true rfl) (fun sc => ?_)
  show gW K_Lw_value sc { frames := 1, locals := 21, cells := 0, slots := 0 } _ _ 0 0 0 [(0, .int 1), (1, .int x)] [] []
  refine gW_b D_Lw_value 0 1 (pc' := 1) (l' := [(0, .int 1), (1, .int x)]) (st' := [.int 1]) (h' := []) (P := True) rfl trivial ?_
  refine gW_if_ne (gdec_at D_Lw_value 1 rfl) (tgt := 16) rfl (fun _ => ?_) (fun cq => absurd cq (by decide))
  refine gW_b D_Lw_value 8 2 (pc' := 18) (l' := [(0, .int 1), (1, .int x)]) (st' := [.int 1, .int 1]) (h' := []) (P := True) rfl trivial ?_
  refine gW_ic_ne (gdec_at D_Lw_value 10 rfl) (tgt := 34) rfl (fun cq => absurd (by decide) cq) (fun _ => ?_)
  refine gW_b D_Lw_value 11 3 (pc' := 27) (l' := [(0, .int 1), (1, .int x)]) (st' := [.int 200, .int x, .int 10]) (h' := []) (P := True) rfl trivial ?_
  have hl := lw_lt x (n := 200) (by decide)
  refine gW_callS (m_low x 200 (by omega) (by omega)) lk_Lw_69 [] (gdec_at D_Lw_value 14 rfl) (st := [.int 10]) rfl rfl ⟨rfl, rfl⟩ (Nat.le_of_ble_eq_true rfl) (Nat.le_of_ble_eq_true rfl) ⟨Nat.le_of_ble_eq_true rfl, Nat.le_of_ble_eq_true rfl⟩ ⟨Nat.le_of_ble_eq_true rfl, Nat.le_of_ble_eq_true rfl⟩ (gAft_r rfl rfl (h' := []) (st' := [.int (nI (lw x 200)), .int 10]) (pc' := 30) (cs' := 0) (ss' := 0) rfl rfl rfl rfl rfl ?_)
  refine gW_b D_Lw_value 15 2 (pc' := 115) (l' := [(0, .int 1), (1, .int x)]) (st' := [.int ((10 : Int32) + (nI (lw x 200)))]) (h' := []) (P := True) rfl trivial ?_
  rw [show ((10 : Int32) + (nI (lw x 200)) : Int32) = nI (10 + (lw x 200)) from (gadd (gk 10) (rfl : nI (lw x 200) = nI (lw x 200)))]
  have hv := val_ok (k := 1) (m := 10 + (lw x 200)) (Or.inr (Or.inl ⟨rfl, by omega, by omega⟩))
  exact gW_iret (gdec_at D_Lw_value 61 rfl) rfl rfl (Nat.le_of_ble_eq_true rfl) ⟨_, hv, rfl, rfl⟩ (Nat.le_of_ble_eq_true rfl) (Nat.le_of_ble_eq_true rfl)
set_option maxRecDepth 20000 in
theorem m_value_2 (x : Int32) : gM K_Lw_value { frames := 1, locals := 21, cells := 0, slots := 0 } [.int (nI 2), .int x] [] (gE (fun v => ¬ v < gLo 2 ∧ ¬ gHi 2 < v ∧ ¬ (2 = 5 ∧ v = 1)) (fun v => .inl (some (.int v))) (fun _ => [])) := by
  refine gM_of rfl rfl (Nat.le_of_ble_eq_true rfl) (fun sc => ?_)
  show gW K_Lw_value sc { frames := 1, locals := 21, cells := 0, slots := 0 } _ _ 0 0 0 [(0, .int 2), (1, .int x)] [] []
  refine gW_b D_Lw_value 0 1 (pc' := 1) (l' := [(0, .int 2), (1, .int x)]) (st' := [.int 2]) (h' := []) (P := True) rfl trivial ?_
  refine gW_if_ne (gdec_at D_Lw_value 1 rfl) (tgt := 16) rfl (fun _ => ?_) (fun cq => absurd cq (by decide))
  refine gW_b D_Lw_value 8 2 (pc' := 18) (l' := [(0, .int 2), (1, .int x)]) (st' := [.int 1, .int 2]) (h' := []) (P := True) rfl trivial ?_
  refine gW_ic_ne (gdec_at D_Lw_value 10 rfl) (tgt := 34) rfl (fun _ => ?_) (fun cq => absurd cq (by decide))
  refine gW_b D_Lw_value 17 2 (pc' := 36) (l' := [(0, .int 2), (1, .int x)]) (st' := [.int 2, .int 2]) (h' := []) (P := True) rfl trivial ?_
  refine gW_ic_ne (gdec_at D_Lw_value 19 rfl) (tgt := 47) rfl (fun cq => absurd (by decide) cq) (fun _ => ?_)
  refine gW_b D_Lw_value 20 2 (pc' := 41) (l' := [(0, .int 2), (1, .int x)]) (st' := [.int 2, .int x]) (h' := []) (P := True) rfl trivial ?_
  have hl := lw_lt x (n := 2) (by decide)
  refine gW_callS (m_low x 2 (by omega) (by omega)) lk_Lw_69 [] (gdec_at D_Lw_value 22 rfl) (st := []) rfl rfl ⟨rfl, rfl⟩ (Nat.le_of_ble_eq_true rfl) (Nat.le_of_ble_eq_true rfl) ⟨Nat.le_of_ble_eq_true rfl, Nat.le_of_ble_eq_true rfl⟩ ⟨Nat.le_of_ble_eq_true rfl, Nat.le_of_ble_eq_true rfl⟩ (gAft_r rfl rfl (h' := []) (st' := [.int (nI (lw x 2))]) (pc' := 44) (cs' := 0) (ss' := 0) rfl rfl rfl rfl rfl ?_)
  refine gW_b D_Lw_value 23 1 (pc' := 115) (l' := [(0, .int 2), (1, .int x)]) (st' := [.int (nI (lw x 2))]) (h' := []) (P := True) rfl trivial ?_
  have hv := val_ok (k := 2) (m := lw x 2) (Or.inr (Or.inr (Or.inl ⟨rfl, by omega⟩)))
  exact gW_iret (gdec_at D_Lw_value 61 rfl) rfl rfl (Nat.le_of_ble_eq_true rfl) ⟨_, hv, rfl, rfl⟩ (Nat.le_of_ble_eq_true rfl) (Nat.le_of_ble_eq_true rfl)
set_option maxRecDepth 20000 in
theorem m_value_3 (x : Int32) : gM K_Lw_value { frames := 1, locals := 21, cells := 0, slots := 0 } [.int (nI 3), .int x] [] (gE (fun v => ¬ v < gLo 3 ∧ ¬ gHi 3 < v ∧ ¬ (3 = 5 ∧ v = 1)) (fun v => .inl (some (.int v))) (fun _ => [])) := by
  refine gM_of rfl rfl (Nat.le_of_ble_eq_true rfl) (fun sc => ?_)
  show gW K_Lw_value sc { frames := 1, locals := 21, cells := 0, slots := 0 } _ _ 0 0 0 [(0, .int 3), (1, .int x)] [] []
  refine gW_b D_Lw_value 0 1 (pc' := 1) (l' := [(0, .int 3), (1, .int x)]) (st' := [.int 3]) (h' := []) (P := True) rfl trivial ?_
  refine gW_if_ne (gdec_at D_Lw_value 1 rfl) (tgt := 16) rfl (fun _ => ?_) (fun cq => absurd cq (by decide))
  refine gW_b D_Lw_value 8 2 (pc' := 18) (l' := [(0, .int 3), (1, .int x)]) (st' := [.int 1, .int 3]) (h' := []) (P := True) rfl trivial ?_
  refine gW_ic_ne (gdec_at D_Lw_value 10 rfl) (tgt := 34) rfl (fun _ => ?_) (fun cq => absurd cq (by decide))
  refine gW_b D_Lw_value 17 2 (pc' := 36) (l' := [(0, .int 3), (1, .int x)]) (st' := [.int 2, .int 3]) (h' := []) (P := True) rfl trivial ?_
  refine gW_ic_ne (gdec_at D_Lw_value 19 rfl) (tgt := 47) rfl (fun _ => ?_) (fun cq => absurd cq (by decide))
  refine gW_b D_Lw_value 24 2 (pc' := 49) (l' := [(0, .int 3), (1, .int x)]) (st' := [.int 3, .int 3]) (h' := []) (P := True) rfl trivial ?_
  refine gW_ic_ne (gdec_at D_Lw_value 26 rfl) (tgt := 61) rfl (fun cq => absurd (by decide) cq) (fun _ => ?_)
  refine gW_b D_Lw_value 27 2 (pc' := 55) (l' := [(0, .int 3), (1, .int x)]) (st' := [.int 10, .int x]) (h' := []) (P := True) rfl trivial ?_
  have hl := lw_lt x (n := 10) (by decide)
  refine gW_callS (m_low x 10 (by omega) (by omega)) lk_Lw_69 [] (gdec_at D_Lw_value 29 rfl) (st := []) rfl rfl ⟨rfl, rfl⟩ (Nat.le_of_ble_eq_true rfl) (Nat.le_of_ble_eq_true rfl) ⟨Nat.le_of_ble_eq_true rfl, Nat.le_of_ble_eq_true rfl⟩ ⟨Nat.le_of_ble_eq_true rfl, Nat.le_of_ble_eq_true rfl⟩ (gAft_r rfl rfl (h' := []) (st' := [.int (nI (lw x 10))]) (pc' := 58) (cs' := 0) (ss' := 0) rfl rfl rfl rfl rfl ?_)
  refine gW_b D_Lw_value 30 1 (pc' := 115) (l' := [(0, .int 3), (1, .int x)]) (st' := [.int (nI (lw x 10))]) (h' := []) (P := True) rfl trivial ?_
  have hv := val_ok (k := 3) (m := lw x 10) (Or.inr (Or.inr (Or.inr (Or.inl ⟨rfl, by omega⟩))))
  exact gW_iret (gdec_at D_Lw_value 61 rfl) rfl rfl (Nat.le_of_ble_eq_true rfl) ⟨_, hv, rfl, rfl⟩ (Nat.le_of_ble_eq_true rfl) (Nat.le_of_ble_eq_true rfl)
set_option maxRecDepth 20000 in
theorem m_value_4 (x : Int32) : gM K_Lw_value { frames := 1, locals := 21, cells := 0, slots := 0 } [.int (nI 4), .int x] [] (gE (fun v => ¬ v < gLo 4 ∧ ¬ gHi 4 < v ∧ ¬ (4 = 5 ∧ v = 1)) (fun v => .inl (some (.int v))) (fun _ => [])) := by
  refine gM_of rfl rfl (Nat.le_of_ble_eq_true rfl) (fun sc => ?_)
  show gW K_Lw_value sc { frames := 1, locals := 21, cells := 0, slots := 0 } _ _ 0 0 0 [(0, .int 4), (1, .int x)] [] []
  refine gW_b D_Lw_value 0 1 (pc' := 1) (l' := [(0, .int 4), (1, .int x)]) (st' := [.int 4]) (h' := []) (P := True) rfl trivial ?_
  refine gW_if_ne (gdec_at D_Lw_value 1 rfl) (tgt := 16) rfl (fun _ => ?_) (fun cq => absurd cq (by decide))
  refine gW_b D_Lw_value 8 2 (pc' := 18) (l' := [(0, .int 4), (1, .int x)]) (st' := [.int 1, .int 4]) (h' := []) (P := True) rfl trivial ?_
  refine gW_ic_ne (gdec_at D_Lw_value 10 rfl) (tgt := 34) rfl (fun _ => ?_) (fun cq => absurd cq (by decide))
  refine gW_b D_Lw_value 17 2 (pc' := 36) (l' := [(0, .int 4), (1, .int x)]) (st' := [.int 2, .int 4]) (h' := []) (P := True) rfl trivial ?_
  refine gW_ic_ne (gdec_at D_Lw_value 19 rfl) (tgt := 47) rfl (fun _ => ?_) (fun cq => absurd cq (by decide))
  refine gW_b D_Lw_value 24 2 (pc' := 49) (l' := [(0, .int 4), (1, .int x)]) (st' := [.int 3, .int 4]) (h' := []) (P := True) rfl trivial ?_
  refine gW_ic_ne (gdec_at D_Lw_value 26 rfl) (tgt := 61) rfl (fun _ => ?_) (fun cq => absurd cq (by decide))
  refine gW_b D_Lw_value 31 2 (pc' := 63) (l' := [(0, .int 4), (1, .int x)]) (st' := [.int 4, .int 4]) (h' := []) (P := True) rfl trivial ?_
  refine gW_ic_ne (gdec_at D_Lw_value 33 rfl) (tgt := 77) rfl (fun cq => absurd (by decide) cq) (fun _ => ?_)
  refine gW_b D_Lw_value 34 3 (pc' := 70) (l' := [(0, .int 4), (1, .int x)]) (st' := [.int 99, .int x, .int 1]) (h' := []) (P := True) rfl trivial ?_
  have hl := lw_lt x (n := 99) (by decide)
  refine gW_callS (m_low x 99 (by omega) (by omega)) lk_Lw_69 [] (gdec_at D_Lw_value 37 rfl) (st := [.int 1]) rfl rfl ⟨rfl, rfl⟩ (Nat.le_of_ble_eq_true rfl) (Nat.le_of_ble_eq_true rfl) ⟨Nat.le_of_ble_eq_true rfl, Nat.le_of_ble_eq_true rfl⟩ ⟨Nat.le_of_ble_eq_true rfl, Nat.le_of_ble_eq_true rfl⟩ (gAft_r rfl rfl (h' := []) (st' := [.int (nI (lw x 99)), .int 1]) (pc' := 73) (cs' := 0) (ss' := 0) rfl rfl rfl rfl rfl ?_)
  refine gW_b D_Lw_value 38 2 (pc' := 115) (l' := [(0, .int 4), (1, .int x)]) (st' := [.int ((1 : Int32) + (nI (lw x 99)))]) (h' := []) (P := True) rfl trivial ?_
  rw [show ((1 : Int32) + (nI (lw x 99)) : Int32) = nI (1 + (lw x 99)) from (gadd (gk 1) (rfl : nI (lw x 99) = nI (lw x 99)))]
  have hv := val_ok (k := 4) (m := 1 + (lw x 99)) (Or.inr (Or.inr (Or.inr (Or.inr (Or.inl ⟨rfl, by omega, by omega⟩)))))
  exact gW_iret (gdec_at D_Lw_value 61 rfl) rfl rfl (Nat.le_of_ble_eq_true rfl) ⟨_, hv, rfl, rfl⟩ (Nat.le_of_ble_eq_true rfl) (Nat.le_of_ble_eq_true rfl)
set_option maxRecDepth 20000 in
theorem m_value_5 (x : Int32) : gM K_Lw_value { frames := 1, locals := 21, cells := 0, slots := 0 } [.int (nI 5), .int x] [] (gE (fun v => ¬ v < gLo 5 ∧ ¬ gHi 5 < v ∧ ¬ (5 = 5 ∧ v = 1)) (fun v => .inl (some (.int v))) (fun _ => [])) := by
  refine gM_of rfl rfl (Nat.le_of_ble_eq_true rfl) (fun sc => ?_)
  show gW K_Lw_value sc { frames := 1, locals := 21, cells := 0, slots := 0 } _ _ 0 0 0 [(0, .int 5), (1, .int x)] [] []
  refine gW_b D_Lw_value 0 1 (pc' := 1) (l' := [(0, .int 5), (1, .int x)]) (st' := [.int 5]) (h' := []) (P := True) rfl trivial ?_
  refine gW_if_ne (gdec_at D_Lw_value 1 rfl) (tgt := 16) rfl (fun _ => ?_) (fun cq => absurd cq (by decide))
  refine gW_b D_Lw_value 8 2 (pc' := 18) (l' := [(0, .int 5), (1, .int x)]) (st' := [.int 1, .int 5]) (h' := []) (P := True) rfl trivial ?_
  refine gW_ic_ne (gdec_at D_Lw_value 10 rfl) (tgt := 34) rfl (fun _ => ?_) (fun cq => absurd cq (by decide))
  refine gW_b D_Lw_value 17 2 (pc' := 36) (l' := [(0, .int 5), (1, .int x)]) (st' := [.int 2, .int 5]) (h' := []) (P := True) rfl trivial ?_
  refine gW_ic_ne (gdec_at D_Lw_value 19 rfl) (tgt := 47) rfl (fun _ => ?_) (fun cq => absurd cq (by decide))
  refine gW_b D_Lw_value 24 2 (pc' := 49) (l' := [(0, .int 5), (1, .int x)]) (st' := [.int 3, .int 5]) (h' := []) (P := True) rfl trivial ?_
  refine gW_ic_ne (gdec_at D_Lw_value 26 rfl) (tgt := 61) rfl (fun _ => ?_) (fun cq => absurd cq (by decide))
  refine gW_b D_Lw_value 31 2 (pc' := 63) (l' := [(0, .int 5), (1, .int x)]) (st' := [.int 4, .int 5]) (h' := []) (P := True) rfl trivial ?_
  refine gW_ic_ne (gdec_at D_Lw_value 33 rfl) (tgt := 77) rfl (fun _ => ?_) (fun cq => absurd cq (by decide))
  refine gW_b D_Lw_value 40 2 (pc' := 79) (l' := [(0, .int 5), (1, .int x)]) (st' := [.int 5, .int x]) (h' := []) (P := True) rfl trivial ?_
  have h5 := lw_lt x (n := 5) (by decide)
  have h9 := lw_lt (x >>> (9 &&& 31)) (n := 2) (by decide)
  refine gW_callS (m_low x 5 (by omega) (by omega)) lk_Lw_69 [] (gdec_at D_Lw_value 42 rfl) (st := []) rfl rfl ⟨rfl, rfl⟩ (Nat.le_of_ble_eq_true rfl) (Nat.le_of_ble_eq_true rfl) ⟨Nat.le_of_ble_eq_true rfl, Nat.le_of_ble_eq_true rfl⟩ ⟨Nat.le_of_ble_eq_true rfl, Nat.le_of_ble_eq_true rfl⟩ (gAft_r rfl rfl (h' := []) (st' := [.int (nI (lw x 5))]) (pc' := 82) (cs' := 0) (ss' := 0) rfl rfl rfl rfl rfl ?_)
  refine gW_if_ne (gdec_at D_Lw_value 43 rfl) (tgt := 89) rfl (fun c => ?_) (fun c => ?_)
  · have c := mt (geq (rfl : nI (lw x 5) = nI (lw x 5)) (gk 0) (by omega) (by omega)).mpr c
    refine gW_b D_Lw_value 46 8 (pc' := 98) (l' := [(0, .int 5), (1, .int x)]) (st' := [.int 2, .int (x >>> (9 &&& 31)), .int (x >>> (3 &&& 31)), .int 2]) (h' := []) (P := True) rfl trivial ?_
    refine gW_callS (m_low (x >>> (9 &&& 31)) 2 (by omega) (by omega)) lk_Lw_69 [] (gdec_at D_Lw_value 54 rfl) (st := [.int (x >>> (3 &&& 31)), .int 2]) rfl rfl ⟨rfl, rfl⟩ (Nat.le_of_ble_eq_true rfl) (Nat.le_of_ble_eq_true rfl) ⟨Nat.le_of_ble_eq_true rfl, Nat.le_of_ble_eq_true rfl⟩ ⟨Nat.le_of_ble_eq_true rfl, Nat.le_of_ble_eq_true rfl⟩ (gAft_r rfl rfl (h' := []) (st' := [.int (nI (lw (x >>> (9 &&& 31)) 2)), .int (x >>> (3 &&& 31)), .int 2]) (pc' := 101) (cs' := 0) (ss' := 0) rfl rfl rfl rfl rfl ?_)
    refine gW_if_ne (gdec_at D_Lw_value 55 rfl) (tgt := 109) rfl (fun d => ?_) (fun d => ?_)
    · have d := mt (geq (rfl : nI (lw (x >>> (9 &&& 31)) 2) = nI (lw (x >>> (9 &&& 31)) 2)) (gk 0) (by omega) (by omega)).mpr d
      refine gW_b D_Lw_value 58 1 (pc' := 111) (l' := [(0, .int 5), (1, .int x)]) (st' := [.int 6, .int (x >>> (3 &&& 31)), .int 2]) (h' := []) (P := True) rfl trivial ?_
      have hl := lw_lt (x >>> (3 &&& 31)) (n := 6) (by decide)
      refine gW_callS (m_low (x >>> (3 &&& 31)) 6 (by omega) (by omega)) lk_Lw_69 [] (gdec_at D_Lw_value 59 rfl) (st := [.int 2]) rfl rfl ⟨rfl, rfl⟩ (Nat.le_of_ble_eq_true rfl) (Nat.le_of_ble_eq_true rfl) ⟨Nat.le_of_ble_eq_true rfl, Nat.le_of_ble_eq_true rfl⟩ ⟨Nat.le_of_ble_eq_true rfl, Nat.le_of_ble_eq_true rfl⟩ (gAft_r rfl rfl (h' := []) (st' := [.int (nI (lw (x >>> (3 &&& 31)) 6)), .int 2]) (pc' := 114) (cs' := 0) (ss' := 0) rfl rfl rfl rfl rfl ?_)
      refine gW_b D_Lw_value 60 1 (pc' := 115) (l' := [(0, .int 5), (1, .int x)]) (st' := [.int ((2 : Int32) + (nI (lw (x >>> (3 &&& 31)) 6)))]) (h' := []) (P := True) rfl trivial ?_
      rw [show ((2 : Int32) + (nI (lw (x >>> (3 &&& 31)) 6)) : Int32) = nI (2 + (lw (x >>> (3 &&& 31)) 6)) from (gadd (gk 2) (rfl : nI (lw (x >>> (3 &&& 31)) 6) = nI (lw (x >>> (3 &&& 31)) 6)))]
      have hv := val_ok (k := 5) (m := 2 + (lw (x >>> (3 &&& 31)) 6)) (Or.inr (Or.inr (Or.inr (Or.inr (Or.inr (⟨rfl, by omega, by omega⟩))))))
      exact gW_iret (gdec_at D_Lw_value 61 rfl) rfl rfl (Nat.le_of_ble_eq_true rfl) ⟨_, hv, rfl, rfl⟩ (Nat.le_of_ble_eq_true rfl) (Nat.le_of_ble_eq_true rfl)
    · have d := (geq (rfl : nI (lw (x >>> (9 &&& 31)) 2) = nI (lw (x >>> (9 &&& 31)) 2)) (gk 0) (by omega) (by omega)).mp d
      refine gW_b D_Lw_value 56 2 (pc' := 111) (l' := [(0, .int 5), (1, .int x)]) (st' := [.int 98, .int (x >>> (3 &&& 31)), .int 2]) (h' := []) (P := True) rfl trivial ?_
      have hl := lw_lt (x >>> (3 &&& 31)) (n := 98) (by decide)
      refine gW_callS (m_low (x >>> (3 &&& 31)) 98 (by omega) (by omega)) lk_Lw_69 [] (gdec_at D_Lw_value 59 rfl) (st := [.int 2]) rfl rfl ⟨rfl, rfl⟩ (Nat.le_of_ble_eq_true rfl) (Nat.le_of_ble_eq_true rfl) ⟨Nat.le_of_ble_eq_true rfl, Nat.le_of_ble_eq_true rfl⟩ ⟨Nat.le_of_ble_eq_true rfl, Nat.le_of_ble_eq_true rfl⟩ (gAft_r rfl rfl (h' := []) (st' := [.int (nI (lw (x >>> (3 &&& 31)) 98)), .int 2]) (pc' := 114) (cs' := 0) (ss' := 0) rfl rfl rfl rfl rfl ?_)
      refine gW_b D_Lw_value 60 1 (pc' := 115) (l' := [(0, .int 5), (1, .int x)]) (st' := [.int ((2 : Int32) + (nI (lw (x >>> (3 &&& 31)) 98)))]) (h' := []) (P := True) rfl trivial ?_
      rw [show ((2 : Int32) + (nI (lw (x >>> (3 &&& 31)) 98)) : Int32) = nI (2 + (lw (x >>> (3 &&& 31)) 98)) from (gadd (gk 2) (rfl : nI (lw (x >>> (3 &&& 31)) 98) = nI (lw (x >>> (3 &&& 31)) 98)))]
      have hv := val_ok (k := 5) (m := 2 + (lw (x >>> (3 &&& 31)) 98)) (Or.inr (Or.inr (Or.inr (Or.inr (Or.inr (⟨rfl, by omega, by omega⟩))))))
      exact gW_iret (gdec_at D_Lw_value 61 rfl) rfl rfl (Nat.le_of_ble_eq_true rfl) ⟨_, hv, rfl, rfl⟩ (Nat.le_of_ble_eq_true rfl) (Nat.le_of_ble_eq_true rfl)
  · have c := (geq (rfl : nI (lw x 5) = nI (lw x 5)) (gk 0) (by omega) (by omega)).mp c
    refine gW_b D_Lw_value 44 2 (pc' := 115) (l' := [(0, .int 5), (1, .int x)]) (st' := [.int 0]) (h' := []) (P := True) rfl trivial ?_
    have hv := val_ok (k := 5) (m := 0) (Or.inr (Or.inr (Or.inr (Or.inr (Or.inr (⟨rfl, by decide, by decide⟩))))))
    exact gW_iret (gdec_at D_Lw_value 61 rfl) rfl rfl (Nat.le_of_ble_eq_true rfl) ⟨_, hv, rfl, rfl⟩ (Nat.le_of_ble_eq_true rfl) (Nat.le_of_ble_eq_true rfl)
theorem m_value (k : Nat) (hk : k < 6) (x : Int32) : gM K_Lw_value { frames := 1, locals := 21, cells := 0, slots := 0 } [.int (nI k), .int x] [] (gE (fun v => ¬ v < gLo k ∧ ¬ gHi k < v ∧ ¬ (k = 5 ∧ v = 1)) (fun v => .inl (some (.int v))) (fun _ => [])) := by
  obtain rfl | rfl | rfl | rfl | rfl | rfl : k = 0 ∨ k = 1 ∨ k = 2 ∨ k = 3 ∨ k = 4 ∨ k = 5 := by omega
  · exact m_value_0 x
  · exact m_value_1 x
  · exact m_value_2 x
  · exact m_value_3 x
  · exact m_value_4 x
  · exact m_value_5 x
set_option maxRecDepth 20000 in
theorem m_cell (sc : Nat × (Nat → Int32)) (hL : sc.1 ≤ 260) (e : Nat) (he : e ≤ 1000) : gMs sc K_Lw_cell { frames := 0, locals := 0, cells := 0, slots := 0 } [.ref 1000, .int (nI e)] [] (gE (fun _ => True) (fun v => .inl (some (.int v))) (fun _ => [])) := by
  refine gMs_of rfl rfl (Nat.le_of_ble_eq_true rfl) ?_
  refine gW_b D_Lw_cell 0 3 (pc' := 3) (l' := [(0, .ref 1000), (1, .int (nI e))]) (st' := [.int (Int32.ofNat sc.1), .int (nI e)]) (h' := []) (P := True) rfl trivial ?_
  refine gW_ic_ge (gdec_at D_Lw_cell 3 rfl) (tgt := 12) rfl (fun c => ?_) (fun c => ?_)
  · refine gW_b D_Lw_cell 8 5 (pc' := 19) (l' := [(0, .ref 1000), (1, .int (nI e))]) (st' := [.int (32452867 * nI e + 15485863)]) (h' := []) (P := True) rfl trivial ?_
    exact gW_iret (gdec_at D_Lw_cell 13 rfl) rfl rfl (Nat.le_of_ble_eq_true rfl) ⟨_, trivial, rfl, rfl⟩ (Nat.le_of_ble_eq_true rfl) (Nat.le_of_ble_eq_true rfl)
  · have hlt : e < sc.1 := by
      have := mt (gle (gk sc.1) (rfl : nI e = nI e) (by omega) (by omega)).mpr c
      omega
    refine gW_b D_Lw_cell 4 4 (pc' := 19) (l' := [(0, .ref 1000), (1, .int (nI e))]) (st' := [.int (sc.2 ((nI e).toNatClampNeg))]) (h' := []) (P := vp_in (nI e) sc.1 ∧ True) rfl ⟨gvin rfl hlt (by omega), trivial⟩ ?_
    exact gW_iret (gdec_at D_Lw_cell 13 rfl) rfl rfl (Nat.le_of_ble_eq_true rfl) ⟨_, trivial, rfl, rfl⟩ (Nat.le_of_ble_eq_true rfl) (Nat.le_of_ble_eq_true rfl)
