/-! MAKING OBJECTS AND ARRAYS in the abstract machine: what is made stands behind the cells -/
/-- class ci can be made here by pool entry i; its fields are fs at first -/
def gNew (own : String) (i ci : Nat) (fs : List Value) : Prop := ci < 7 ∧ Cond.classLink own i (gown ci) ∈ gTs ∧ Cond.instantiable (gown ci) (gNn ci) ∈ gTs ∧ Cond.initialized (gown ci) ∈ gTs ∧ (∀ j, j < gNn ci → defaultValue (gyt ci j) = vp_V fs j) ∧ ∀ ad : Nat → Nat, fs.map (gmv ad) = fs
theorem gml_congr {n : Nat} {ad ad' : Nat → Nat} (ha : ∀ k, (k < n ∨ 1000 ≤ k) → ad k = ad' k) {l : gL} (h : l.all (fun x => gwv n x.2) = true) : gml ad l = gml ad' l := by
  unfold gml
  exact List.map_congr_left fun q hq => by rw [gmv_congr ha (List.all_eq_true.mp h q hq)]
theorem gms_congr {n : Nat} {ad ad' : Nat → Nat} (ha : ∀ k, (k < n ∨ 1000 ≤ k) → ad k = ad' k) {st : List Value} (h : st.all (gwv n) = true) : st.map (gmv ad) = st.map (gmv ad') := List.map_congr_left fun v hv => gmv_congr ha (List.all_eq_true.mp h v hv)
/-- the address of what is made -/
def gadd1 (ad : Nat → Nat) (n q : Nat) : Nat → Nat := fun j => if j = n then q else ad j
theorem gadd1_o {ad : Nat → Nat} {n q : Nat} (hn : n < 1000) : ∀ k, (k < n ∨ 1000 ≤ k) → gadd1 ad n q k = ad k := fun k hk => if_neg (by omega)
theorem gmw_push {G : gG} {ad : Nat → Nat} {h : gH} {q : Nat} {e : gC} {e' : va_E} (hn : h.length < 1000) (hw : h.all (gwf h.length) = true) (he : gmc G (gadd1 ad h.length q) e = e') : gmw G (gadd1 ad h.length q) (h ++ [e]) = gmw G ad h ++ [(q, e')] := by
  apply List.ext_getElem?
  intro j
  rw [gmw_at]
  by_cases hj : j < h.length
  · rw [List.getElem?_append_left hj, List.getElem?_append_left (by rw [gmw_len]; exact hj), gmw_at, List.getElem?_eq_getElem hj]
    show some (_, _) = some (_, _)
    rw [gadd1_o hn j (Or.inl hj), gmc_congr (gadd1_o hn) (List.all_eq_true.mp hw _ (List.getElem_mem hj))]
  · by_cases hj2 : j = h.length
    · subst hj2
      rw [List.getElem?_append_right (Nat.le_refl _), List.getElem?_append_right (by rw [gmw_len]; exact Nat.le_refl _), gmw_len, Nat.sub_self]
      show some (_, _) = some (_, _)
      rw [he, show gadd1 ad h.length q h.length = q from if_pos rfl]
    · rw [List.getElem?_eq_none (by rw [List.length_append]; simp; omega), List.getElem?_eq_none (by rw [List.length_append, gmw_len]; simp; omega)]
      rfl
section GN
variable {K : gK} {sc : Nat × (Nat → Int32)} {R : Room} {n0 : Nat} {E : gO → gH → Prop} {cs ss pc : Nat} {l : gL} {st : List Value} {h : gH}
theorem gW_objInit {i r : Nat} (hl0 : Cond.methodLink (gown K.1) i Lib.objectInit ∈ gTs) (hd : decode K.2.2.1 pc = .ok (.invokespecial i, 3)) (hf : 1 ≤ R.frames) (hlo : (st.map fun v => v.category).sum + 12 ≤ R.locals) (k : gW K sc R n0 E cs ss (pc + 3) l st h) : gW K sc R n0 E cs ss pc l (.ref r :: st) h := by
  intro p la e s m args below meth c G ad0 A X H locs ad ls had hl hP hD hS
  obtain ⟨hx, hb, hml, hown, hts, hK, hamb, hA, -⟩ := id X
  exact W.objInit hx hb hown (hts _ hl0) (hts _ (gmem 34 (by decide +kernel))) (hts _ (gmem 35 (by decide +kernel))) rfl (hl.1.trans hml.symm) rfl hd hf (by rw [gcats]; exact Nat.le_trans (Nat.le_of_eq (by show 2 * 0 + _ + 12 = _ + 12; omega)) hlo) (k p la e s m args below meth c G ad0 A X H locs ad ls had hl hP hD hS)
theorem gW_new {i ci : Nat} {fs : List Value} (q : gNew (gown K.1) i ci fs) (hd : decode K.2.2.1 pc = .ok (.new i, 3)) (hn : n0 ≤ h.length) (hb1 : h.length < 1000) (hwf : (h.all (gwf h.length) && (l.all (fun x => gwv h.length x.2) && st.all (gwv h.length))) = true) (hc : cs + 1 ≤ R.cells) (hs : ss + gNn ci ≤ R.slots) (k : gW K sc R n0 E (cs + 1) (ss + gNn ci) (pc + 3) l (.ref h.length :: st) (h ++ [cO ci fs])) : gW K sc R n0 E cs ss pc l st h := by
  intro p la e s m args below meth c G ad0 A X H locs ad ls had hl hP hD hS
  obtain ⟨hx, hb, hml, hown, hts, hK, hamb, hA, -⟩ := id X
  obtain ⟨q1, q2, q3, q4, q5, q6⟩ := q
  simp only [Bool.and_eq_true] at hwf
  obtain ⟨w1, w2, w3⟩ := hwf
  refine va_new (ci := ci) (fs := fs) (C := gown ci) (T := gTt ci) (N := gNn ci) hx hb hts (gin q1) (gyt ci) (gty q1) hown (hts _ q2) (hts _ q3) (hts _ q4) hK hP hD hS hA (gcl_at q1) q5 hc hs hd (fun a H1 hP1 hD1 hS1 => ?_)
  have ho := gadd1_o (ad := ad) (q := a) hb1
  have he : gmw G (gadd1 ad h.length a) (h ++ [cO ci fs]) = gmw G ad h ++ [(a, .inr (ci, fs))] := gmw_push hb1 w1 (by
    show (Sum.inr (ci, fs.map (gmv (gadd1 ad h.length a))) : va_E) = _
    rw [q6])
  have hr := k p la e s m args below meth c G ad0 A X H1 locs (gadd1 ad h.length a) ls (fun j hj => (ho j (hj.elim (fun z => Or.inl (Nat.lt_of_lt_of_le z hn)) Or.inr)).trans (had j hj)) (by rw [gml_congr ho w2]; exact hl) (by rw [he]; exact hP1) (by rw [he]; exact hD1) hS1
  have hst : (Value.ref h.length :: st).map (gmv (gadd1 ad h.length a)) = .ref a :: st.map (gmv ad) := by
    rw [List.map_cons, gms_congr ho w3]
    show Value.ref (gadd1 ad h.length a h.length) :: _ = _
    rw [show gadd1 ad h.length a h.length = a from if_pos rfl]
  rw [hst] at hr
  exact hr
theorem gK_int {G : gG} {cA : ClassId} {s : State} {ty : FieldType} (i : Nat) (cB : ClassId) (hi : (gTys G)[i]? = some (cB, ty)) (ht : ∀ C, ty ≠ .object C) (h : va_K G.1 gcl (gTys G ++ [(cA, ty)]) s) : cA = cB := by
  have h1 := (h.2 3 (cA, ty) rfl).2
  have hlt : i < (gTys G).length := (List.getElem?_eq_some_iff.mp hi).1
  have h2 := (h.2 i (cB, ty) (by rw [List.getElem?_append_left hlt]; exact hi)).2
  cases ty with
  | object C => exact absurd rfl (ht C)
  | _ => exact Option.some.inj (h1.symm.trans h2)
theorem gK_obj {G : gG} {cA : ClassId} {s : State} (h : va_K G.1 gcl (gTys G ++ [(cA, .object "GoldSheets$Dome")]) s) : cA = G.2.2.2 := by
  obtain ⟨-, -, -, -, -, h1⟩ := (h.2 3 (cA, .object "GoldSheets$Dome") rfl).2
  obtain ⟨-, -, -, -, -, h2⟩ := (h.2 2 (G.2.2.2, .object "GoldSheets$Dome") rfl).2
  exact Option.some.inj (h1.symm.trans h2)
/-- an array of ints -/
theorem gW_newI {x : Int32} {n : Nat} (hx : x = nI n) (hn3 : n ≤ 1000) (hd : decode K.2.2.1 pc = .ok (.newarray .int, 2)) (hn : n0 ≤ h.length) (hb1 : h.length < 1000) (hwf : (h.all (gwf h.length) && (l.all (fun x => gwv h.length x.2) && st.all (gwv h.length))) = true) (hc : cs + 1 ≤ R.cells) (hs : ss + n ≤ R.slots) (k : gW K sc R n0 E (cs + 1) (ss + n) (pc + 2) l (.ref h.length :: st) (h ++ [cI n (fun _ => 0)])) : gW K sc R n0 E cs ss pc l (.int x :: st) h := by
  intro p la e s m args below meth c G ad0 A X H locs ad ls had hl hP hD hS
  obtain ⟨hxx, hb, hml, hown, hts, hK, hamb, hA, -⟩ := id X
  simp only [Bool.and_eq_true] at hwf
  obtain ⟨w1, w2, w3⟩ := hwf
  refine va_newa (atype := .int) (ty := .int) (a0 := (n, .inl fun _ => 0)) hxx hb (hts _ (gmem 52 (by decide +kernel))) rfl hK hP hD hS hA (fun cA => rfl) (by rw [hx]; exact nI_pos (by omega)) (by rw [hx]; exact nI_clamp (by omega)) (by show n * 4 ≤ 536870912; omega) hc hs hd (fun a cA H1 hK1 hP1 hD1 hS1 => ?_)
  obtain rfl := gK_int 0 G.2.1 rfl (fun C q => nomatch q) hK1
  have ho := gadd1_o (ad := ad) (q := a) hb1
  have he : gmw G (gadd1 ad h.length a) (h ++ [cI n (fun _ => 0)]) = gmw G ad h ++ [(a, .inl (G.2.1, n, .inl fun _ => 0))] := gmw_push hb1 w1 rfl
  have hr := k p la e s m args below meth c G ad0 A X H1 locs (gadd1 ad h.length a) ls (fun j hj => (ho j (hj.elim (fun z => Or.inl (Nat.lt_of_lt_of_le z hn)) Or.inr)).trans (had j hj)) (by rw [gml_congr ho w2]; exact hl) (by rw [he]; exact hP1) (by rw [he]; exact hD1) hS1
  have hst : (Value.ref h.length :: st).map (gmv (gadd1 ad h.length a)) = .ref a :: st.map (gmv ad) := by
    rw [List.map_cons, gms_congr ho w3]
    show Value.ref (gadd1 ad h.length a h.length) :: _ = _
    rw [show gadd1 ad h.length a h.length = a from if_pos rfl]
  rw [hst] at hr
  exact hr
/-- an array of six domes, none there yet -/
theorem gW_newR {x : Int32} {i : Nat} (hx : x = nI 6) (hl0 : Cond.classLink (gown K.1) i "GoldSheets$Dome" ∈ gTs) (hd : decode K.2.2.1 pc = .ok (.anewarray i, 3)) (hn : n0 ≤ h.length) (hb1 : h.length < 1000) (hwf : (h.all (gwf h.length) && (l.all (fun x => gwv h.length x.2) && st.all (gwv h.length))) = true) (hc : cs + 1 ≤ R.cells) (hs : ss + 6 ≤ R.slots) (k : gW K sc R n0 E (cs + 1) (ss + 6) (pc + 3) l (.ref h.length :: st) (h ++ [cR [none, none, none, none, none, none]])) : gW K sc R n0 E cs ss pc l (.int x :: st) h := by
  intro p la e s m args below meth c G ad0 A X H locs ad ls had hl hP hD hS
  obtain ⟨hxx, hb, hml, hown, hts, hK, hamb, hA, -⟩ := id X
  simp only [Bool.and_eq_true] at hwf
  obtain ⟨w1, w2, w3⟩ := hwf
  refine va_newq (N' := 6) hxx hb hown (hts _ hl0) hamb.1.2.2.1 hK hP hD hS hA (by rw [hx]; exact nI_pos (by omega)) (by rw [hx]; exact nI_clamp (by omega)) (by decide) hc hs hd (fun a cA H1 hK1 hP1 hD1 hS1 => ?_)
  obtain rfl := gK_obj hK1
  have ho := gadd1_o (ad := ad) (q := a) hb1
  have hf : (fun i => (([none, none, none, none, none, none] : List (Option Nat)).getD i none).map (gadd1 ad h.length a)) = fun _ => none := by
    funext i
    rcases i with _ | _ | _ | _ | _ | _ | i <;> rfl
  have he : gmw G (gadd1 ad h.length a) (h ++ [cR [none, none, none, none, none, none]]) = gmw G ad h ++ [(a, .inl (G.2.2.2, 6, .inr (.inr (.inr (.inr fun _ => none)))))] := gmw_push hb1 w1 (by
    show (Sum.inl (G.2.2.2, 6, Sum.inr (Sum.inr (Sum.inr (Sum.inr _)))) : va_E) = _
    rw [hf])
  have hr := k p la e s m args below meth c G ad0 A X H1 locs (gadd1 ad h.length a) ls (fun j hj => (ho j (hj.elim (fun z => Or.inl (Nat.lt_of_lt_of_le z hn)) Or.inr)).trans (had j hj)) (by rw [gml_congr ho w2]; exact hl) (by rw [he]; exact hP1) (by rw [he]; exact hD1) hS1
  have hst : (Value.ref h.length :: st).map (gmv (gadd1 ad h.length a)) = .ref a :: st.map (gmv ad) := by
    rw [List.map_cons, gms_congr ho w3]
    show Value.ref (gadd1 ad h.length a h.length) :: _ = _
    rw [show gadd1 ad h.length a h.length = a from if_pos rfl]
  rw [hst] at hr
  exact hr
end GN
/-! a constructor's call: what the callee made stands behind the caller's cells -/
def ggrow (h : gH) (ps : List Nat) (n : Nat) (hc' : gH) : gH := gsets h ps ((hc'.take n).map (gre (gren ps h.length))) ++ (hc'.drop n).map (gre (gren ps h.length))
def gad2 (ad ad' : Nat → Nat) (n m : Nat) : Nat → Nat := fun j => if n ≤ j ∧ j < 1000 then ad' (m + (j - n)) else ad j
theorem gad2_o {ad ad' : Nat → Nat} {n m : Nat} : ∀ k, (k < n ∨ 1000 ≤ k) → gad2 ad ad' n m k = ad k := fun k hk => if_neg (by omega)
section GG
variable {h hc : gH} {ps : List Nat}
theorem gren_new {n k : Nat} (h1 : ps.length ≤ k) (h2 : k < 1000) : gren ps n k = n + (k - ps.length) := by
  unfold gren
  have : Nat.ble 1000 k = false := by
    cases hb : Nat.ble 1000 k with
    | false => rfl
    | true => exact absurd (Nat.le_of_ble_eq_true hb) (by omega)
  rw [this, List.getElem?_eq_none h1]
  rfl
/-- a cell of the grown heap: one that came back, or one that was not given -/
theorem ggrow_at {hc' : gH} (hcut : gCut h hc ps) (hlen : hc.length ≤ hc'.length) {j : Nat} {e : gC} (hj : (ggrow h ps hc.length hc')[j]? = some e) :
    (∃ k x, hc'[k]? = some x ∧ e = gre (gren ps h.length) x ∧ ((k < hc.length ∧ ps[k]? = some j ∧ j < h.length) ∨ (hc.length ≤ k ∧ j = h.length + (k - hc.length)))) ∨ (h[j]? = some e ∧ j ∉ ps) := by
  unfold ggrow at hj
  have hl0 : (gsets h ps ((hc'.take hc.length).map (gre (gren ps h.length)))).length = h.length := gsets_len _ _ _
  by_cases hjl : j < h.length
  · rw [List.getElem?_append_left (by rw [hl0]; exact hjl)] at hj
    rcases gsets_at ps _ h j e (by rw [List.length_map, List.length_take, hcut.len]; omega) hj with ⟨k, h1, h2⟩ | h1
    · refine Or.inl ?_
      rw [List.getElem?_map] at h2
      cases hx : (hc'.take hc.length)[k]? with
      | none => rw [hx] at h2; cases h2
      | some x =>
        rw [hx] at h2
        have hk : k < hc.length := by rw [← hcut.len]; exact (List.getElem?_eq_some_iff.mp h1).1
        rw [List.getElem?_take_of_lt hk] at hx
        exact ⟨k, x, hx, (Option.some.inj h2).symm, Or.inl ⟨hk, h1, hjl⟩⟩
    · exact Or.inr h1
  · rw [List.getElem?_append_right (by rw [hl0]; omega), hl0, List.getElem?_map, List.getElem?_drop] at hj
    refine Or.inl ?_
    cases hx : hc'[hc.length + (j - h.length)]? with
    | none => rw [hx] at hj; cases hj
    | some x =>
      rw [hx] at hj
      exact ⟨_, x, hx, (Option.some.inj hj).symm, Or.inr ⟨Nat.le_add_right _ _, by omega⟩⟩
theorem gCut.grow {G : gG} {ad ad' : Nat → Nat} {A : Nat → Prop} {H H1 : Heap} {hc' : gH} (hcut : gCut h hc ps) (hb : h.length + hc'.length < 1000) (hP : va_P G.1 gcl (gmw G ad h) H) (hD : va_D A (gmw G ad h)) (hlen : hc.length ≤ hc'.length) (hwf : hc'.all (gwf hc'.length) = true) (hwh : h.all (gwf h.length) = true)
    (had : ∀ k, (k < hc.length ∨ 1000 ≤ k) → ad' k = ad (gren ps h.length k)) (hk : ∀ q : Nat, q < H.size → ¬ va_A (gmw G (fun k => ad (gren ps h.length k)) hc) H.size q → H1[q]? = H[q]?) (hP1 : va_P G.1 gcl (gmw G ad' hc') H1) (hD1 : va_D (va_A (gmw G (fun k => ad (gren ps h.length k)) hc) H.size) (gmw G ad' hc')) (hAH : ∀ q, H.size ≤ q → A q) :
    va_P G.1 gcl (gmw G (gad2 ad ad' h.length hc.length) (ggrow h ps hc.length hc')) H1 ∧ va_D A (gmw G (gad2 ad ad' h.length hc.length) (ggrow h ps hc.length hc')) := by
  have hpl : ps.length = hc.length := hcut.len
  -- where a callee's cell lies, seen from the caller
  have hren : ∀ k, (k < hc'.length ∨ 1000 ≤ k) → gad2 ad ad' h.length hc.length (gren ps h.length k) = ad' k := by
    intro k hk'
    by_cases h1 : k < hc.length
    · obtain ⟨j, hj⟩ : ∃ j, ps[k]? = some j := ⟨_, List.getElem?_eq_getElem (by omega)⟩
      have hcell := hcut.at' (List.getElem?_eq_getElem h1)
      obtain ⟨j', hj', hh⟩ := hcell
      have hjj : j' = j := Option.some.inj (hj'.symm.trans hj)
      subst hjj
      have hlt : j' < h.length := (List.getElem?_eq_some_iff.mp hh).1
      rw [had k (Or.inl h1), gren_at hj (by omega)]
      exact gad2_o j' (Or.inl hlt)
    · rcases hk' with hk' | hk'
      · rw [gren_new (by omega) (by omega)]
        unfold gad2
        rw [if_pos (by omega)]
        exact congrArg ad' (by omega)
      · rw [gren_out hk', gad2_o k (Or.inr hk'), had k (Or.inr hk'), gren_out hk']
  -- addresses
  have hnew : ∀ k, hc.length ≤ k → k < hc'.length → H.size ≤ ad' k := by
    intro k h1 h2
    have hk' : (gmw G ad' hc')[k]? = some (ad' k, gmc G ad' hc'[k]) := by rw [gmw_at, List.getElem?_eq_getElem h2]; rfl
    rcases hD1.2 k _ hk' with ⟨k0, e0, hk0⟩ | hge
    · rw [gmw_at] at hk0
      cases hx : hc[k0]? with
      | none => rw [hx] at hk0; cases hk0
      | some x =>
        rw [hx] at hk0
        have hlt : k0 < hc.length := (List.getElem?_eq_some_iff.mp hx).1
        have hadr : ad (gren ps h.length k0) = ad' k := congrArg Prod.fst (Option.some.inj hk0)
        rw [← had k0 (Or.inl hlt)] at hadr
        have := hD1.1 k0 k (ad' k0, gmc G ad' hc'[k0]) (ad' k, gmc G ad' hc'[k]) (by rw [gmw_at, List.getElem?_eq_getElem (by omega)]; rfl) hk' hadr
        omega
    · exact hge
  have hold : ∀ j, j < h.length → ∃ e, (gmw G ad h)[j]? = some (gad2 ad ad' h.length hc.length j, e) := by
    intro j hj
    exact ⟨gmc G ad h[j], by rw [gmw_at, List.getElem?_eq_getElem hj, gad2_o j (Or.inl hj)]; rfl⟩
  have hglen : (ggrow h ps hc.length hc').length = h.length + (hc'.length - hc.length) := by
    unfold ggrow
    rw [List.length_append, gsets_len, List.length_map, List.length_drop]
  have hadn : ∀ j, h.length ≤ j → j < h.length + (hc'.length - hc.length) → gad2 ad ad' h.length hc.length j = ad' (hc.length + (j - h.length)) := by
    intro j h1 h2
    unfold gad2
    rw [if_pos (by omega)]
  refine ⟨fun j q hq => ?_, ?_⟩
  · rw [gmw_at] at hq
    cases hj : (ggrow h ps hc.length hc')[j]? with
    | none => rw [hj] at hq; cases hq
    | some e =>
      rw [hj] at hq
      cases hq
      rcases ggrow_at hcut hlen hj with ⟨k, x, hx, rfl, hpos⟩ | ⟨h1, h2⟩
      · have hlt : k < hc'.length := (List.getElem?_eq_some_iff.mp hx).1
        have h3 := hP1 k (ad' k, gmc G ad' x) (by rw [gmw_at, hx]; rfl)
        show va_at G.1 gcl (gad2 ad ad' h.length hc.length j, gmc G (gad2 ad ad' h.length hc.length) (gre (gren ps h.length) x)) H1
        rw [gmc_gre, gmc_congr hren (List.all_eq_true.mp hwf x (List.mem_of_getElem? hx))]
        have hadr : gad2 ad ad' h.length hc.length j = ad' k := by
          rw [← hren k (Or.inl hlt)]
          rcases hpos with ⟨p1, p2, p3⟩ | ⟨p1, p2⟩
          · rw [gren_at p2 (by omega)]
          · rw [gren_new (by omega) (by omega), p2, hpl]
        rw [hadr]
        exact h3
      · have hlt : j < h.length := (List.getElem?_eq_some_iff.mp h1).1
        have h3 := hP j (ad j, gmc G ad e) (by rw [gmw_at, h1]; rfl)
        show va_at G.1 gcl (gad2 ad ad' h.length hc.length j, gmc G (gad2 ad ad' h.length hc.length) e) H1
        rw [gad2_o j (Or.inl hlt), gmc_congr gad2_o (List.all_eq_true.mp hwh e (List.mem_of_getElem? h1))]
        refine h3.kept (hk _ h3.lt ?_)
        rintro (⟨k, e', hk'⟩ | hge)
        · rw [gmw_at] at hk'
          cases hy : hc[k]? with
          | none => rw [hy] at hk'; cases hk'
          | some y =>
            rw [hy] at hk'
            have hlt2 : k < hc.length := (List.getElem?_eq_some_iff.mp hy).1
            obtain ⟨i, i1, i2⟩ := hcut.at' hy
            have hadr : ad (gren ps h.length k) = ad j := congrArg Prod.fst (Option.some.inj hk')
            rw [gren_at i1 (by omega)] at hadr
            have := hD.1 i j (ad i, gmc G ad (gre (gren ps h.length) y)) (ad j, gmc G ad e) (by rw [gmw_at, i2]; rfl) (by rw [gmw_at, h1]; rfl) hadr
            subst this
            exact h2 (List.mem_of_getElem? i1)
        · exact absurd h3.lt (Nat.not_lt.mpr hge)
  · -- each place: an old address, or a new one
    have hadr : ∀ (j : Nat) (q : Nat × va_E), (gmw G (gad2 ad ad' h.length hc.length) (ggrow h ps hc.length hc'))[j]? = some q → q.1 = gad2 ad ad' h.length hc.length j ∧ j < h.length + (hc'.length - hc.length) := by
      intro j q hq
      have hlt : j < h.length + (hc'.length - hc.length) := by
        have := (List.getElem?_eq_some_iff.mp hq).1
        rwa [gmw_len, hglen] at this
      rw [gmw_at] at hq
      cases hj : (ggrow h ps hc.length hc')[j]? with
      | none => rw [hj] at hq; cases hq
      | some e =>
        rw [hj] at hq
        cases hq
        exact ⟨rfl, hlt⟩
    have hlow : ∀ j, j < h.length → gad2 ad ad' h.length hc.length j < H.size := by
      intro j hj
      obtain ⟨e, he⟩ := hold j hj
      exact (hP j _ he).lt
    have hhigh : ∀ j, h.length ≤ j → j < h.length + (hc'.length - hc.length) → H.size ≤ gad2 ad ad' h.length hc.length j := by
      intro j h1 h2
      rw [hadn j h1 h2]
      exact hnew _ (by omega) (by omega)
    refine ⟨fun i j x y hx hy hxy => ?_, fun k q hq => ?_⟩
    · obtain ⟨x1, x2⟩ := hadr i x hx
      obtain ⟨y1, y2⟩ := hadr j y hy
      rw [x1, y1] at hxy
      by_cases hi : i < h.length
      · by_cases hj : j < h.length
        · obtain ⟨e1, k1⟩ := hold i hi
          obtain ⟨e2, k2⟩ := hold j hj
          exact hD.1 i j _ _ k1 k2 hxy
        · have := hlow i hi
          have := hhigh j (by omega) y2
          omega
      · by_cases hj : j < h.length
        · have := hlow j hj
          have := hhigh i (by omega) x2
          omega
        · rw [hadn i (by omega) x2, hadn j (by omega) y2] at hxy
          have h1 : (gmw G ad' hc')[hc.length + (i - h.length)]? = some (ad' (hc.length + (i - h.length)), gmc G ad' hc'[hc.length + (i - h.length)]) := by rw [gmw_at, List.getElem?_eq_getElem (by omega)]; rfl
          have h2 : (gmw G ad' hc')[hc.length + (j - h.length)]? = some (ad' (hc.length + (j - h.length)), gmc G ad' hc'[hc.length + (j - h.length)]) := by rw [gmw_at, List.getElem?_eq_getElem (by omega)]; rfl
          have := hD1.1 _ _ _ _ h1 h2 hxy
          omega
    · obtain ⟨x1, x2⟩ := hadr k q hq
      rw [x1]
      by_cases hi : k < h.length
      · obtain ⟨e1, k1⟩ := hold k hi
        exact hD.2 k _ k1
      · exact hAH _ (hhigh k (by omega) x2)
end GG
section GI
variable {K : gK} {sc : Nat × (Nat → Int32)} {R R' : Room} {n0 : Nat} {E : gO → gH → Prop} {cs ss pc : Nat} {l : gL} {st st0 : List Value} {h hc hc' h' : gH}
variable {o' : Nat} {y' : MethodName} {cc' : ByteArray} {nL' : Nat}
/-- a constructor without arguments is called -/
theorem gW_callI {i r0 : Nat} (hM : gM (o', y', cc', nL', none, []) R' [.ref r0] hc (gD (.inl none) hc')) (lk : gLkI (gown K.1) i 0 (o', y', cc', nL', none, [])) (ps : List Nat) (hd : decode K.2.2.1 pc = .ok (.invokespecial i, 3)) (hst : st0 = .ref (gren ps h.length r0) :: st) (hcut : gCut h hc ps) (hb : h.length + hc'.length < 1000) (hlen : hc.length ≤ hc'.length) (hr0 : r0 < hc.length)
    (hn : n0 ≤ h.length) (hwf : (hc'.all (gwf hc'.length) && (h.all (gwf h.length) && (l.all (fun x => gwv h.length x.2) && st.all (gwv h.length)))) = true) (hsum : (st.map fun v => v.category).sum ≤ 8) (hR : R'.frames + 1 ≤ R.frames ∧ 8 + (nL' + 11) + R'.locals ≤ R.locals) (hf : cs + R'.cells ≤ R.cells ∧ ss + R'.slots ≤ R.slots) (hh : ggrow h ps hc.length hc' = h') (k : gW K sc R n0 E (cs + R'.cells) (ss + R'.slots) (pc + 3) l st h') : gW K sc R n0 E cs ss pc l st0 h := by
  intro p la e s m args below meth c G ad0 A X H locs ad ls had hl hP hD hS
  obtain ⟨hx, hb', hml, hown, hts, hK, hamb, hA, hla, hlk, hrt, hnm, htb⟩ := id X
  obtain ⟨l0, l1, l2, l3, l4, l5, l6, l7⟩ := lk
  simp only [Bool.and_eq_true] at hwf
  obtain ⟨w0, w1, w2, w3⟩ := hwf
  have hsum' : 2 * (F0 m pc ls (st0.map (gmv ad))).monitorRoom + ((st.map (gmv ad)).map fun v => v.category).sum ≤ 8 := by rw [gcats]; exact Nat.le_trans (Nat.le_of_eq (Nat.zero_add _)) hsum
  have hG : GoodIn gTs (gwd (o', y', cc', nL', none, []) :: gTs) := gTs_in fun w hw => (List.mem_cons.mp hw).elim (fun q => q ▸ l4) id
  have hMM := hM la hla G sc (fun k => ad (gren ps h.length k)) H.size
  have hbc : hc.length ≤ 1000 := by omega
  have hp : PreS s H (va_Pc ([Value.ref r0].map (gmv fun k => ad (gren ps h.length k))) (fun U => U.heap.size = H.size ∧ va_P G.1 gcl (gmw G (fun k => ad (gren ps h.length k)) hc) U.heap ∧ va_K G.1 gcl (gTys G) U ∧ va_D (fun _ => True) (gmw G (fun k => ad (gren ps h.length k)) hc) ∧ gAmb sc (fun k => ad (gren ps h.length k)) (va_A (gmw G (fun k => ad (gren ps h.length k)) hc) H.size) U)) ([Value.ref r0].map (gmv fun k => ad (gren ps h.length k))) :=
    ⟨gM_blind, fun U hU hW => ⟨rfl, gcall_pre X had hP hD hS hcut hbc U hU hW⟩⟩
  have hstk : st0.map (gmv ad) = ([] : List Value).reverse ++ .ref (ad (gren ps h.length r0)) :: st.map (gmv ad) := by
    rw [hst]
    rfl
  have hAA := hcut.wA hbc hD hS hA
  have fin : vx_Run p la e R s m args below meth c H locs cs ss R'.cells R'.slots (F0 m pc ls (st0.map (gmv ad))) (st.map (gmv ad)) (gQ G (fun k => ad (gren ps h.length k)) hc.length (va_A (gmw G (fun k => ad (gren ps h.length k)) hc) H.size) (gD (.inl none) hc') ([Value.ref r0].map (gmv fun k => ad (gren ps h.length k))).toArray) (gXC G (fun k => ad (gren ps h.length k)) hc.length (va_A (gmw G (fun k => ad (gren ps h.length k)) hc) H.size) (gD (.inl none) hc')) (va_A (gmw G (fun k => ad (gren ps h.length k)) hc) H.size) → W p la e R s m args below meth c H locs cs ss (vx_MQ below (gQ G ad0 n0 A E) (gXC G ad0 n0 A E) args s R.cells R.slots A) (F0 m pc ls (st0.map (gmv ad))) := by
    intro hr T hT Xs
    rcases hr T hT Xs with ⟨v, st₀, t, T', L, h0, X', hL, e1, e2, ⟨⟨ad', v', hx', hv, hEc, hlen', had', hP1, hD1⟩, hF⟩, stp⟩ | ⟨q, st₀, t, T', L, Ex, ce, h0, X', hL, e1, e2, ⟨⟨hx', hEc, -⟩, -⟩, -⟩
    · obtain ⟨g1, g2⟩ := hEc
      subst g2
      cases g1
      cases hv
      obtain ⟨k1, k2, k3⟩ := vx_keep h0 e1 hS (fun q _ z => hAA q z) hAA hL hF
      rw [← e1] at hP1
      obtain ⟨hP2, hD2⟩ := hcut.grow hb hP hD hlen w0 w1 had' k2 hP1 hD1 (fun q hq => hA q (Nat.le_trans hS.1 hq))
      rw [hh] at hP2 hD2
      have ho := gad2_o (ad := ad) (ad' := ad') (n := h.length) (m := hc.length)
      obtain ⟨t2, a1, b1⟩ := k p la e s m args below meth c G ad0 A X T'.heap (locs ++ L) (gad2 ad ad' h.length hc.length) ls (fun j hj => (ho j (hj.elim (fun z => Or.inl (Nat.lt_of_lt_of_le z hn)) Or.inr)).trans (had j hj)) (by rw [gml_congr ho w2]; exact hl) hP2 hD2 k3 T' rfl X'
      refine ⟨t2, stp t2 ?_, b1⟩
      rw [gms_congr ho w3] at a1
      exact a1
    · cases hEc.1
  rcases l1 with l1 | l1
  · exact fin (vx_runI ⟨hx, hb', hml, hown, hts⟩ hMM (cwI 0 hts hG rfl rfl rfl (hts _ l3) (hts _ l1) (hts _ l2) l5 ⟨l6, l7, l0⟩ hR) hp rfl rfl hl.1 hstk hsum' hd hf)
  · exact fin (vx_runIN ⟨hx, hb', hml, hown, hts⟩ hMM ⟨va_cnB 0 hts hG rfl rfl rfl (hamb.2.2.2.2 _ l1) (hts _ l3) ⟨l6, l7, l0⟩ hR, l5, hts _ l2⟩ hp rfl rfl hl.1 hstk hsum' hd hf)
end GI
