/-! names, fields, links and methods of the claim by their places in the tables: printed by wip/whole/names.py -/
def gTs : List Cond := lw_tbl.filter goodWord
theorem gmem {w : Cond} (i : Nat) (h : (decide (lw_tbl[i]? = some w) && goodWord w) = true) : w ∈ gTs := by
  simp only [Bool.and_eq_true, decide_eq_true_eq] at h
  exact List.mem_filter.mpr ⟨List.mem_of_getElem? h.1, h.2⟩
theorem gmems (ws : List Cond) (ps : List Nat) (h : (decide (ws.map some = ps.map (fun i => lw_tbl[i]?)) && ws.all goodWord) = true) : ∀ w ∈ ws, w ∈ gTs := by
  simp only [Bool.and_eq_true, decide_eq_true_eq] at h
  intro w hw
  have h1 : some w ∈ ps.map (fun i => lw_tbl[i]?) := by rw [← h.1]; exact List.mem_map_of_mem hw
  obtain ⟨i, -, hi⟩ := List.mem_map.mp h1
  exact List.mem_filter.mpr ⟨List.mem_of_getElem? hi, List.all_eq_true.mp h.2 w hw⟩
def gIsN (w : Cond) : Bool := match w with | .fieldLinkNest .. => true | .methodLinkNest .. => true | .castable .. => true | .declares .. => true | _ => false
def gNs : List Cond := lw_tbl.filter gIsN
theorem gmemN {w : Cond} (i : Nat) (h : (decide (lw_tbl[i]? = some w) && gIsN w) = true) : w ∈ gNs := by
  simp only [Bool.and_eq_true, decide_eq_true_eq] at h
  exact List.mem_filter.mpr ⟨List.mem_of_getElem? h.1, h.2⟩
theorem gNs_warm {s U : State} (hW : s.WarmedH U.vm) (h : ∀ w ∈ gNs, va_Nw w s) : ∀ w ∈ gNs, va_Nw w U := by
  intro w hw
  have h1 := h w hw
  have h2 := (List.mem_filter.mp hw).2
  cases w with
  | fieldLinkNest a b c d e f => exact va_Nw.warmF hW h1
  | methodLinkNest a b c d => exact va_Nw.warmM hW h1
  | castable a b => exact va_Nw.warmC hW h1
  | declares a => exact va_Nw.warmD hW h1
  | _ => cases h2
theorem gNs_of {args : Array Value} {s : State} (h : ∀ w ∈ lw_tbl, w.before args s = true) : ∀ w ∈ gNs, va_Nw w s := by
  intro w hw
  have h1 := h w (List.mem_filter.mp hw).1
  have h2 := (List.mem_filter.mp hw).2
  cases w with
  | fieldLinkNest a b c d e f => exact va_Nw.of rfl h1
  | methodLinkNest a b c d => exact va_Nw.of rfl h1
  | castable a b => exact va_Nw.of rfl h1
  | declares a => exact va_Nw.of rfl h1
  | _ => cases h2
theorem gNs_use {args : Array Value} {s : State} (h : ∀ w ∈ gNs, va_Nw w s) : ∀ w ∈ gNs, w.before args s = true := by
  intro w hw
  have h1 := h w hw
  have h2 := (List.mem_filter.mp hw).2
  cases w with
  | fieldLinkNest a b c d e f => exact va_Nw.use rfl h1
  | methodLinkNest a b c d => exact va_Nw.use rfl h1
  | castable a b => exact va_Nw.use rfl h1
  | declares a => exact va_Nw.use rfl h1
  | _ => cases h2
theorem gTs_good : GoodIn lw_tbl gTs := fun w hw => ⟨(List.mem_filter.mp hw).1, good_of_word (List.mem_filter.mp hw).2⟩
theorem gTs_self : GoodIn gTs gTs := fun w hw => ⟨hw, good_of_word (List.mem_filter.mp hw).2⟩
def gown (i : Nat) : String := match i with
  | 0 => "GoldSheets$Trays"
  | 1 => "GoldSheets$Sections"
  | 2 => "GoldSheets$Dome"
  | 3 => "GoldSheets$History"
  | 4 => "GoldSheets$SectionText"
  | 5 => "GoldSheets"
  | 6 => "GoldSheetsModel"
  | _ => "GoldSheetsLaw"
def gTTr : u_T := fun k => match k with
  | _ => ("GoldSheets$Trays", "cubes", "[I", true)
def gTSe : u_T := fun k => match k with
  | 0 => ("GoldSheets$Sections", "cells", "[I", true)
  | 1 => ("GoldSheets$Sections", "size", "I", false)
  | _ => ("GoldSheets$Sections", "came", "I", false)
def gTDo : u_T := fun k => match k with
  | 0 => ("GoldSheets$Dome", "trays", "LGoldSheets$Trays;", true)
  | 1 => ("GoldSheets$Dome", "sections", "LGoldSheets$Sections;", true)
  | 2 => ("GoldSheets$Dome", "settings", "[I", true)
  | 3 => ("GoldSheets$Dome", "sheets", "[I", true)
  | 4 => ("GoldSheets$Dome", "cut", "[I", true)
  | 5 => ("GoldSheets$Dome", "laid", "[I", true)
  | 6 => ("GoldSheets$Dome", "swept", "[I", true)
  | 7 => ("GoldSheets$Dome", "day", "I", false)
  | 8 => ("GoldSheets$Dome", "done", "I", false)
  | 9 => ("GoldSheets$Dome", "late", "I", false)
  | 10 => ("GoldSheets$Dome", "lateDays", "I", false)
  | _ => ("GoldSheets$Dome", "sorted", "I", false)
def gTHi : u_T := fun k => match k with
  | 0 => ("GoldSheets$History", "saved", "[LGoldSheets$Dome;", true)
  | _ => ("GoldSheets$History", "size", "I", false)
def gTTx : u_T := fun k => match k with
  | 0 => ("GoldSheets$SectionText", "codes", "[I", true)
  | 1 => ("GoldSheets$SectionText", "length", "I", false)
  | 2 => ("GoldSheets$SectionText", "tones", "[I", true)
  | 3 => ("GoldSheets$SectionText", "cubes", "[I", true)
  | 4 => ("GoldSheets$SectionText", "days", "[I", true)
  | 5 => ("GoldSheets$SectionText", "parts", "I", false)
  | 6 => ("GoldSheets$SectionText", "stage", "I", false)
  | 7 => ("GoldSheets$SectionText", "partTone", "I", false)
  | 8 => ("GoldSheets$SectionText", "partCubes", "I", false)
  | _ => ("GoldSheets$SectionText", "partDay", "I", false)
def gTGs : u_T := fun k => match k with
  | 0 => ("GoldSheets", "dome", "LGoldSheets$Dome;", true)
  | 1 => ("GoldSheets", "trial", "LGoldSheets$Dome;", true)
  | 2 => ("GoldSheets", "history", "LGoldSheets$History;", true)
  | 3 => ("GoldSheets", "text", "LGoldSheets$SectionText;", true)
  | _ => ("GoldSheets", "doneBehind", "[I", true)
def gTMo : u_T := fun k => match k with
  | 0 => ("GoldSheetsModel", "thrown", "I", false)
  | 1 => ("GoldSheetsModel", "z", "[I", true)
  | 2 => ("GoldSheetsModel", "saved", "[I", true)
  | 3 => ("GoldSheetsModel", "savedMany", "I", false)
  | 4 => ("GoldSheetsModel", "spare", "[I", true)
  | 5 => ("GoldSheetsModel", "buffer", "[I", true)
  | 6 => ("GoldSheetsModel", "typed", "I", false)
  | 7 => ("GoldSheetsModel", "order", "[I", true)
  | 8 => ("GoldSheetsModel", "setters", "I", false)
  | 9 => ("GoldSheetsModel", "parts", "[I", true)
  | 10 => ("GoldSheetsModel", "partMany", "I", false)
  | 11 => ("GoldSheetsModel", "spot", "I", false)
  | 12 => ("GoldSheetsModel", "wrong", "I", false)
  | _ => ("GoldSheetsModel", "hash", "J", false)
def gTt (i : Nat) : u_T := match i with
  | 0 => gTTr
  | 1 => gTSe
  | 2 => gTDo
  | 3 => gTHi
  | 4 => gTTx
  | 5 => gTGs
  | _ => gTMo
def gNn (i : Nat) : Nat := match i with
  | 0 => 1
  | 1 => 3
  | 2 => 12
  | 3 => 2
  | 4 => 10
  | 5 => 5
  | _ => 14
abbrev gcl : List vw_C := [(gown 0, gTTr, 1), (gown 1, gTSe, 3), (gown 2, gTDo, 12), (gown 3, gTHi, 2), (gown 4, gTTx, 10), (gown 5, gTGs, 5), (gown 6, gTMo, 14)]
theorem gcl_at {i : Nat} (h : i < 7) : gcl[i]? = some (gown i, gTt i, gNn i) := by
  rcases (show i = 0 ∨ i = 1 ∨ i = 2 ∨ i = 3 ∨ i = 4 ∨ i = 5 ∨ i = 6 by omega) with rfl | rfl | rfl | rfl | rfl | rfl | rfl <;> rfl
theorem ginTr : ∀ w ∈ u_ws (gown 0) gTTr 1, w ∈ gTs := gmems _ [107] (by decide +kernel)
theorem ginSe : ∀ w ∈ u_ws (gown 1) gTSe 3, w ∈ gTs := gmems _ [122, 124, 126] (by decide +kernel)
theorem ginDo : ∀ w ∈ u_ws (gown 2) gTDo 12, w ∈ gTs := gmems _ [164, 166, 168, 170, 172, 174, 176, 178, 180, 182, 184, 186] (by decide +kernel)
theorem ginHi : ∀ w ∈ u_ws (gown 3) gTHi 2, w ∈ gTs := gmems _ [201, 203] (by decide +kernel)
theorem ginTx : ∀ w ∈ u_ws (gown 4) gTTx 10, w ∈ gTs := gmems _ [228, 230, 232, 234, 236, 238, 240, 242, 244, 246] (by decide +kernel)
theorem ginGs : ∀ w ∈ u_ws (gown 5) gTGs 5, w ∈ gTs := gmems _ [254, 256, 258, 260, 262] (by decide +kernel)
theorem ginMo : ∀ w ∈ u_ws (gown 6) gTMo 14, w ∈ gTs := gmems _ [881, 883, 885, 887, 889, 891, 893, 895, 897, 899, 901, 903, 905, 907] (by decide +kernel)
theorem gin {i : Nat} (h : i < 7) : ∀ w ∈ u_ws (gown i) (gTt i) (gNn i), w ∈ gTs := by
  rcases (show i = 0 ∨ i = 1 ∨ i = 2 ∨ i = 3 ∨ i = 4 ∨ i = 5 ∨ i = 6 by omega) with rfl | rfl | rfl | rfl | rfl | rfl | rfl
  · exact ginTr
  · exact ginSe
  · exact ginDo
  · exact ginHi
  · exact ginTx
  · exact ginGs
  · exact ginMo
def gyTr : Nat → FieldType := fun k => match k with
  | _ => (.array .int)
def gySe : Nat → FieldType := fun k => match k with
  | 0 => (.array .int)
  | 1 => .int
  | _ => .int
def gyDo : Nat → FieldType := fun k => match k with
  | 0 => (.object "GoldSheets$Trays")
  | 1 => (.object "GoldSheets$Sections")
  | 2 => (.array .int)
  | 3 => (.array .int)
  | 4 => (.array .int)
  | 5 => (.array .int)
  | 6 => (.array .int)
  | 7 => .int
  | 8 => .int
  | 9 => .int
  | 10 => .int
  | _ => .int
def gyHi : Nat → FieldType := fun k => match k with
  | 0 => (.array (.object "GoldSheets$Dome"))
  | _ => .int
def gyTx : Nat → FieldType := fun k => match k with
  | 0 => (.array .int)
  | 1 => .int
  | 2 => (.array .int)
  | 3 => (.array .int)
  | 4 => (.array .int)
  | 5 => .int
  | 6 => .int
  | 7 => .int
  | 8 => .int
  | _ => .int
def gyGs : Nat → FieldType := fun k => match k with
  | 0 => (.object "GoldSheets$Dome")
  | 1 => (.object "GoldSheets$Dome")
  | 2 => (.object "GoldSheets$History")
  | 3 => (.object "GoldSheets$SectionText")
  | _ => (.array .int)
def gyMo : Nat → FieldType := fun k => match k with
  | 0 => .int
  | 1 => (.array .int)
  | 2 => (.array .int)
  | 3 => .int
  | 4 => (.array .int)
  | 5 => (.array .int)
  | 6 => .int
  | 7 => (.array .int)
  | 8 => .int
  | 9 => (.array .int)
  | 10 => .int
  | 11 => .int
  | 12 => .int
  | _ => .long
def gyt (i : Nat) : Nat → FieldType := match i with
  | 0 => gyTr
  | 1 => gySe
  | 2 => gyDo
  | 3 => gyHi
  | 4 => gyTx
  | 5 => gyGs
  | _ => gyMo
theorem gty {i : Nat} (h : i < 7) : ∀ k, k < gNn i → parseFieldDescriptor (gTt i k).2.2.1 = some (gyt i k) := by
  rcases (show i = 0 ∨ i = 1 ∨ i = 2 ∨ i = 3 ∨ i = 4 ∨ i = 5 ∨ i = 6 by omega) with rfl | rfl | rfl | rfl | rfl | rfl | rfl <;> decide +kernel
theorem gnm {i : Nat} (h : i < 7) : ∀ a, a < gNn i → ∀ b, b < gNn i → a ≠ b → (gTt i a).2.1 ≠ (gTt i b).2.1 := by
  rcases (show i = 0 ∨ i = 1 ∨ i = 2 ∨ i = 3 ∨ i = 4 ∨ i = 5 ∨ i = 6 by omega) with rfl | rfl | rfl | rfl | rfl | rfl | rfl <;> decide +kernel
/-- a field link: own class, pool index, class, field -/
abbrev gFR : Type := Nat × Nat × Nat × Nat
def gFok (r : gFR) : Prop := (Cond.fieldLink (gown r.1) r.2.1 (gown r.2.2.1) (gTt r.2.2.1 r.2.2.2).2.1 (gTt r.2.2.1 r.2.2.2).2.2.1 ∈ gTs ∨ (r.1 ≠ r.2.2.1 ∧ Cond.fieldLinkNest (gown r.1) r.2.1 (gown r.2.2.1) (gTt r.2.2.1 r.2.2.2).2.1 (gTt r.2.2.1 r.2.2.2).2.2.1 "GoldSheets" ∈ gNs)) ∧ r.2.2.1 < 7 ∧ r.2.2.2 < gNn r.2.2.1 ∧ (gTt r.2.2.1 r.2.2.2).1 = gown r.2.2.1
def gFTr : List (Nat × Nat × Nat) := [(9, 0, 0)]
def gFSe : List (Nat × Nat × Nat) := [(9, 1, 0), (19, 1, 1), (23, 1, 2)]
def gFDo : List (Nat × Nat × Nat) := [(121, 1, 1), (12, 2, 0), (21, 2, 1), (25, 2, 2), (29, 2, 3), (32, 2, 4), (35, 2, 5), (38, 2, 6), (55, 2, 7), (59, 2, 8), (62, 2, 9), (65, 2, 10), (68, 2, 11)]
def gFHi : List (Nat × Nat × Nat) := [(11, 3, 0), (18, 3, 1)]
def gFTx : List (Nat × Nat × Nat) := [(11, 4, 0), (24, 4, 1), (15, 4, 2), (18, 4, 3), (21, 4, 4), (28, 4, 5), (31, 4, 6), (63, 4, 7), (60, 4, 8), (69, 4, 9)]
def gFGs : List (Nat × Nat × Nat) := [(89, 1, 1), (175, 2, 0), (85, 2, 1), (229, 2, 2), (45, 2, 3), (198, 2, 4), (123, 2, 5), (201, 2, 6), (118, 2, 7), (209, 2, 8), (212, 2, 9), (215, 2, 10), (224, 2, 11), (169, 3, 1), (296, 4, 0), (133, 4, 1), (160, 4, 2), (163, 4, 3), (166, 4, 4), (155, 4, 5), (10, 5, 0), (16, 5, 1), (22, 5, 2), (29, 5, 3), (33, 5, 4)]
def gFMo : List (Nat × Nat × Nat) := [(28, 6, 0), (7, 6, 1), (13, 6, 2), (36, 6, 3), (16, 6, 4), (19, 6, 5), (129, 6, 6), (22, 6, 7), (105, 6, 8), (25, 6, 9), (145, 6, 10), (132, 6, 11), (135, 6, 12), (208, 6, 13)]
def gFl (o : Nat) : List (Nat × Nat × Nat) := match o with
  | 0 => gFTr
  | 1 => gFSe
  | 2 => gFDo
  | 3 => gFHi
  | 4 => gFTx
  | 5 => gFGs
  | 6 => gFMo
  | _ => []
def gfind (i : Nat) : List (Nat × Nat × Nat) → Option (Nat × Nat) | [] => none | q :: r => cond (Nat.beq q.1 i) (some q.2) (gfind i r)
theorem gfind_mem {i : Nat} {x : Nat × Nat} : ∀ {l : List (Nat × Nat × Nat)}, gfind i l = some x → (i, x) ∈ l
  | [], h => nomatch h
  | q :: r, h => by
    unfold gfind at h
    cases hb : Nat.beq q.1 i with
    | true =>
      rw [hb] at h
      have h1 : q.2 = x := Option.some.inj h
      have h2 : q.1 = i := Nat.eq_of_beq_eq_true hb
      rw [← h1, ← h2]
      exact List.mem_cons_self
    | false =>
      rw [hb] at h
      exact List.mem_cons_of_mem _ (gfind_mem h)
theorem gfk_0_9 : gFok (0, 9, 0, 0) := ⟨Or.inl (gmem 106 (by decide +kernel)), by decide, by decide, by decide +kernel⟩
theorem gfoTr : ∀ q ∈ gFTr, gFok (0, q) := by
  unfold gFTr
  exact List.forall_mem_cons.mpr ⟨gfk_0_9, fun _ h => absurd h List.not_mem_nil⟩
theorem gfk_1_9 : gFok (1, 9, 1, 0) := ⟨Or.inl (gmem 117 (by decide +kernel)), by decide, by decide, by decide +kernel⟩
theorem gfk_1_19 : gFok (1, 19, 1, 1) := ⟨Or.inl (gmem 118 (by decide +kernel)), by decide, by decide, by decide +kernel⟩
theorem gfk_1_23 : gFok (1, 23, 1, 2) := ⟨Or.inl (gmem 121 (by decide +kernel)), by decide, by decide, by decide +kernel⟩
theorem gfoSe : ∀ q ∈ gFSe, gFok (1, q) := by
  unfold gFSe
  exact List.forall_mem_cons.mpr ⟨gfk_1_9, List.forall_mem_cons.mpr ⟨gfk_1_19, List.forall_mem_cons.mpr ⟨gfk_1_23, fun _ h => absurd h List.not_mem_nil⟩⟩⟩
theorem gfk_2_121 : gFok (2, 121, 1, 1) := ⟨Or.inr ⟨by decide, gmemN 120 (by decide +kernel)⟩, by decide, by decide, by decide +kernel⟩
theorem gfk_2_12 : gFok (2, 12, 2, 0) := ⟨Or.inl (gmem 140 (by decide +kernel)), by decide, by decide, by decide +kernel⟩
theorem gfk_2_21 : gFok (2, 21, 2, 1) := ⟨Or.inl (gmem 142 (by decide +kernel)), by decide, by decide, by decide +kernel⟩
theorem gfk_2_25 : gFok (2, 25, 2, 2) := ⟨Or.inl (gmem 144 (by decide +kernel)), by decide, by decide, by decide +kernel⟩
theorem gfk_2_29 : gFok (2, 29, 2, 3) := ⟨Or.inl (gmem 146 (by decide +kernel)), by decide, by decide, by decide +kernel⟩
theorem gfk_2_32 : gFok (2, 32, 2, 4) := ⟨Or.inl (gmem 148 (by decide +kernel)), by decide, by decide, by decide +kernel⟩
theorem gfk_2_35 : gFok (2, 35, 2, 5) := ⟨Or.inl (gmem 150 (by decide +kernel)), by decide, by decide, by decide +kernel⟩
theorem gfk_2_38 : gFok (2, 38, 2, 6) := ⟨Or.inl (gmem 152 (by decide +kernel)), by decide, by decide, by decide +kernel⟩
theorem gfk_2_55 : gFok (2, 55, 2, 7) := ⟨Or.inl (gmem 154 (by decide +kernel)), by decide, by decide, by decide +kernel⟩
theorem gfk_2_59 : gFok (2, 59, 2, 8) := ⟨Or.inl (gmem 156 (by decide +kernel)), by decide, by decide, by decide +kernel⟩
theorem gfk_2_62 : gFok (2, 62, 2, 9) := ⟨Or.inl (gmem 158 (by decide +kernel)), by decide, by decide, by decide +kernel⟩
theorem gfk_2_65 : gFok (2, 65, 2, 10) := ⟨Or.inl (gmem 160 (by decide +kernel)), by decide, by decide, by decide +kernel⟩
theorem gfk_2_68 : gFok (2, 68, 2, 11) := ⟨Or.inl (gmem 162 (by decide +kernel)), by decide, by decide, by decide +kernel⟩
theorem gfoDo : ∀ q ∈ gFDo, gFok (2, q) := by
  unfold gFDo
  exact List.forall_mem_cons.mpr ⟨gfk_2_121, List.forall_mem_cons.mpr ⟨gfk_2_12, List.forall_mem_cons.mpr ⟨gfk_2_21, List.forall_mem_cons.mpr ⟨gfk_2_25, List.forall_mem_cons.mpr ⟨gfk_2_29, List.forall_mem_cons.mpr ⟨gfk_2_32, List.forall_mem_cons.mpr ⟨gfk_2_35, List.forall_mem_cons.mpr ⟨gfk_2_38, List.forall_mem_cons.mpr ⟨gfk_2_55, List.forall_mem_cons.mpr ⟨gfk_2_59, List.forall_mem_cons.mpr ⟨gfk_2_62, List.forall_mem_cons.mpr ⟨gfk_2_65, List.forall_mem_cons.mpr ⟨gfk_2_68, fun _ h => absurd h List.not_mem_nil⟩⟩⟩⟩⟩⟩⟩⟩⟩⟩⟩⟩⟩
theorem gfk_3_11 : gFok (3, 11, 3, 0) := ⟨Or.inl (gmem 198 (by decide +kernel)), by decide, by decide, by decide +kernel⟩
theorem gfk_3_18 : gFok (3, 18, 3, 1) := ⟨Or.inl (gmem 199 (by decide +kernel)), by decide, by decide, by decide +kernel⟩
theorem gfoHi : ∀ q ∈ gFHi, gFok (3, q) := by
  unfold gFHi
  exact List.forall_mem_cons.mpr ⟨gfk_3_11, List.forall_mem_cons.mpr ⟨gfk_3_18, fun _ h => absurd h List.not_mem_nil⟩⟩
theorem gfk_4_11 : gFok (4, 11, 4, 0) := ⟨Or.inl (gmem 212 (by decide +kernel)), by decide, by decide, by decide +kernel⟩
theorem gfk_4_24 : gFok (4, 24, 4, 1) := ⟨Or.inl (gmem 214 (by decide +kernel)), by decide, by decide, by decide +kernel⟩
theorem gfk_4_15 : gFok (4, 15, 4, 2) := ⟨Or.inl (gmem 216 (by decide +kernel)), by decide, by decide, by decide +kernel⟩
theorem gfk_4_18 : gFok (4, 18, 4, 3) := ⟨Or.inl (gmem 218 (by decide +kernel)), by decide, by decide, by decide +kernel⟩
theorem gfk_4_21 : gFok (4, 21, 4, 4) := ⟨Or.inl (gmem 220 (by decide +kernel)), by decide, by decide, by decide +kernel⟩
theorem gfk_4_28 : gFok (4, 28, 4, 5) := ⟨Or.inl (gmem 222 (by decide +kernel)), by decide, by decide, by decide +kernel⟩
theorem gfk_4_31 : gFok (4, 31, 4, 6) := ⟨Or.inl (gmem 224 (by decide +kernel)), by decide, by decide, by decide +kernel⟩
theorem gfk_4_63 : gFok (4, 63, 4, 7) := ⟨Or.inl (gmem 225 (by decide +kernel)), by decide, by decide, by decide +kernel⟩
theorem gfk_4_60 : gFok (4, 60, 4, 8) := ⟨Or.inl (gmem 226 (by decide +kernel)), by decide, by decide, by decide +kernel⟩
theorem gfk_4_69 : gFok (4, 69, 4, 9) := ⟨Or.inl (gmem 227 (by decide +kernel)), by decide, by decide, by decide +kernel⟩
theorem gfoTx : ∀ q ∈ gFTx, gFok (4, q) := by
  unfold gFTx
  exact List.forall_mem_cons.mpr ⟨gfk_4_11, List.forall_mem_cons.mpr ⟨gfk_4_24, List.forall_mem_cons.mpr ⟨gfk_4_15, List.forall_mem_cons.mpr ⟨gfk_4_18, List.forall_mem_cons.mpr ⟨gfk_4_21, List.forall_mem_cons.mpr ⟨gfk_4_28, List.forall_mem_cons.mpr ⟨gfk_4_31, List.forall_mem_cons.mpr ⟨gfk_4_63, List.forall_mem_cons.mpr ⟨gfk_4_60, List.forall_mem_cons.mpr ⟨gfk_4_69, fun _ h => absurd h List.not_mem_nil⟩⟩⟩⟩⟩⟩⟩⟩⟩⟩
theorem gfk_5_89 : gFok (5, 89, 1, 1) := ⟨Or.inr ⟨by decide, gmemN 119 (by decide +kernel)⟩, by decide, by decide, by decide +kernel⟩
theorem gfk_5_175 : gFok (5, 175, 2, 0) := ⟨Or.inr ⟨by decide, gmemN 141 (by decide +kernel)⟩, by decide, by decide, by decide +kernel⟩
theorem gfk_5_85 : gFok (5, 85, 2, 1) := ⟨Or.inr ⟨by decide, gmemN 143 (by decide +kernel)⟩, by decide, by decide, by decide +kernel⟩
theorem gfk_5_229 : gFok (5, 229, 2, 2) := ⟨Or.inr ⟨by decide, gmemN 145 (by decide +kernel)⟩, by decide, by decide, by decide +kernel⟩
theorem gfk_5_45 : gFok (5, 45, 2, 3) := ⟨Or.inr ⟨by decide, gmemN 147 (by decide +kernel)⟩, by decide, by decide, by decide +kernel⟩
theorem gfk_5_198 : gFok (5, 198, 2, 4) := ⟨Or.inr ⟨by decide, gmemN 149 (by decide +kernel)⟩, by decide, by decide, by decide +kernel⟩
theorem gfk_5_123 : gFok (5, 123, 2, 5) := ⟨Or.inr ⟨by decide, gmemN 151 (by decide +kernel)⟩, by decide, by decide, by decide +kernel⟩
theorem gfk_5_201 : gFok (5, 201, 2, 6) := ⟨Or.inr ⟨by decide, gmemN 153 (by decide +kernel)⟩, by decide, by decide, by decide +kernel⟩
theorem gfk_5_118 : gFok (5, 118, 2, 7) := ⟨Or.inr ⟨by decide, gmemN 155 (by decide +kernel)⟩, by decide, by decide, by decide +kernel⟩
theorem gfk_5_209 : gFok (5, 209, 2, 8) := ⟨Or.inr ⟨by decide, gmemN 157 (by decide +kernel)⟩, by decide, by decide, by decide +kernel⟩
theorem gfk_5_212 : gFok (5, 212, 2, 9) := ⟨Or.inr ⟨by decide, gmemN 159 (by decide +kernel)⟩, by decide, by decide, by decide +kernel⟩
theorem gfk_5_215 : gFok (5, 215, 2, 10) := ⟨Or.inr ⟨by decide, gmemN 161 (by decide +kernel)⟩, by decide, by decide, by decide +kernel⟩
theorem gfk_5_224 : gFok (5, 224, 2, 11) := ⟨Or.inr ⟨by decide, gmemN 163 (by decide +kernel)⟩, by decide, by decide, by decide +kernel⟩
theorem gfk_5_169 : gFok (5, 169, 3, 1) := ⟨Or.inr ⟨by decide, gmemN 200 (by decide +kernel)⟩, by decide, by decide, by decide +kernel⟩
theorem gfk_5_296 : gFok (5, 296, 4, 0) := ⟨Or.inr ⟨by decide, gmemN 213 (by decide +kernel)⟩, by decide, by decide, by decide +kernel⟩
theorem gfk_5_133 : gFok (5, 133, 4, 1) := ⟨Or.inr ⟨by decide, gmemN 215 (by decide +kernel)⟩, by decide, by decide, by decide +kernel⟩
theorem gfk_5_160 : gFok (5, 160, 4, 2) := ⟨Or.inr ⟨by decide, gmemN 217 (by decide +kernel)⟩, by decide, by decide, by decide +kernel⟩
theorem gfk_5_163 : gFok (5, 163, 4, 3) := ⟨Or.inr ⟨by decide, gmemN 219 (by decide +kernel)⟩, by decide, by decide, by decide +kernel⟩
theorem gfk_5_166 : gFok (5, 166, 4, 4) := ⟨Or.inr ⟨by decide, gmemN 221 (by decide +kernel)⟩, by decide, by decide, by decide +kernel⟩
theorem gfk_5_155 : gFok (5, 155, 4, 5) := ⟨Or.inr ⟨by decide, gmemN 223 (by decide +kernel)⟩, by decide, by decide, by decide +kernel⟩
theorem gfk_5_10 : gFok (5, 10, 5, 0) := ⟨Or.inl (gmem 249 (by decide +kernel)), by decide, by decide, by decide +kernel⟩
theorem gfk_5_16 : gFok (5, 16, 5, 1) := ⟨Or.inl (gmem 250 (by decide +kernel)), by decide, by decide, by decide +kernel⟩
theorem gfk_5_22 : gFok (5, 22, 5, 2) := ⟨Or.inl (gmem 251 (by decide +kernel)), by decide, by decide, by decide +kernel⟩
theorem gfk_5_29 : gFok (5, 29, 5, 3) := ⟨Or.inl (gmem 252 (by decide +kernel)), by decide, by decide, by decide +kernel⟩
theorem gfk_5_33 : gFok (5, 33, 5, 4) := ⟨Or.inl (gmem 253 (by decide +kernel)), by decide, by decide, by decide +kernel⟩
theorem gfoGs : ∀ q ∈ gFGs, gFok (5, q) := by
  unfold gFGs
  exact List.forall_mem_cons.mpr ⟨gfk_5_89, List.forall_mem_cons.mpr ⟨gfk_5_175, List.forall_mem_cons.mpr ⟨gfk_5_85, List.forall_mem_cons.mpr ⟨gfk_5_229, List.forall_mem_cons.mpr ⟨gfk_5_45, List.forall_mem_cons.mpr ⟨gfk_5_198, List.forall_mem_cons.mpr ⟨gfk_5_123, List.forall_mem_cons.mpr ⟨gfk_5_201, List.forall_mem_cons.mpr ⟨gfk_5_118, List.forall_mem_cons.mpr ⟨gfk_5_209, List.forall_mem_cons.mpr ⟨gfk_5_212, List.forall_mem_cons.mpr ⟨gfk_5_215, List.forall_mem_cons.mpr ⟨gfk_5_224, List.forall_mem_cons.mpr ⟨gfk_5_169, List.forall_mem_cons.mpr ⟨gfk_5_296, List.forall_mem_cons.mpr ⟨gfk_5_133, List.forall_mem_cons.mpr ⟨gfk_5_160, List.forall_mem_cons.mpr ⟨gfk_5_163, List.forall_mem_cons.mpr ⟨gfk_5_166, List.forall_mem_cons.mpr ⟨gfk_5_155, List.forall_mem_cons.mpr ⟨gfk_5_10, List.forall_mem_cons.mpr ⟨gfk_5_16, List.forall_mem_cons.mpr ⟨gfk_5_22, List.forall_mem_cons.mpr ⟨gfk_5_29, List.forall_mem_cons.mpr ⟨gfk_5_33, fun _ h => absurd h List.not_mem_nil⟩⟩⟩⟩⟩⟩⟩⟩⟩⟩⟩⟩⟩⟩⟩⟩⟩⟩⟩⟩⟩⟩⟩⟩⟩
theorem gfk_6_28 : gFok (6, 28, 6, 0) := ⟨Or.inl (gmem 867 (by decide +kernel)), by decide, by decide, by decide +kernel⟩
theorem gfk_6_7 : gFok (6, 7, 6, 1) := ⟨Or.inl (gmem 868 (by decide +kernel)), by decide, by decide, by decide +kernel⟩
theorem gfk_6_13 : gFok (6, 13, 6, 2) := ⟨Or.inl (gmem 869 (by decide +kernel)), by decide, by decide, by decide +kernel⟩
theorem gfk_6_36 : gFok (6, 36, 6, 3) := ⟨Or.inl (gmem 870 (by decide +kernel)), by decide, by decide, by decide +kernel⟩
theorem gfk_6_16 : gFok (6, 16, 6, 4) := ⟨Or.inl (gmem 871 (by decide +kernel)), by decide, by decide, by decide +kernel⟩
theorem gfk_6_19 : gFok (6, 19, 6, 5) := ⟨Or.inl (gmem 872 (by decide +kernel)), by decide, by decide, by decide +kernel⟩
theorem gfk_6_129 : gFok (6, 129, 6, 6) := ⟨Or.inl (gmem 873 (by decide +kernel)), by decide, by decide, by decide +kernel⟩
theorem gfk_6_22 : gFok (6, 22, 6, 7) := ⟨Or.inl (gmem 874 (by decide +kernel)), by decide, by decide, by decide +kernel⟩
theorem gfk_6_105 : gFok (6, 105, 6, 8) := ⟨Or.inl (gmem 875 (by decide +kernel)), by decide, by decide, by decide +kernel⟩
theorem gfk_6_25 : gFok (6, 25, 6, 9) := ⟨Or.inl (gmem 876 (by decide +kernel)), by decide, by decide, by decide +kernel⟩
theorem gfk_6_145 : gFok (6, 145, 6, 10) := ⟨Or.inl (gmem 877 (by decide +kernel)), by decide, by decide, by decide +kernel⟩
theorem gfk_6_132 : gFok (6, 132, 6, 11) := ⟨Or.inl (gmem 878 (by decide +kernel)), by decide, by decide, by decide +kernel⟩
theorem gfk_6_135 : gFok (6, 135, 6, 12) := ⟨Or.inl (gmem 879 (by decide +kernel)), by decide, by decide, by decide +kernel⟩
theorem gfk_6_208 : gFok (6, 208, 6, 13) := ⟨Or.inl (gmem 880 (by decide +kernel)), by decide, by decide, by decide +kernel⟩
theorem gfoMo : ∀ q ∈ gFMo, gFok (6, q) := by
  unfold gFMo
  exact List.forall_mem_cons.mpr ⟨gfk_6_28, List.forall_mem_cons.mpr ⟨gfk_6_7, List.forall_mem_cons.mpr ⟨gfk_6_13, List.forall_mem_cons.mpr ⟨gfk_6_36, List.forall_mem_cons.mpr ⟨gfk_6_16, List.forall_mem_cons.mpr ⟨gfk_6_19, List.forall_mem_cons.mpr ⟨gfk_6_129, List.forall_mem_cons.mpr ⟨gfk_6_22, List.forall_mem_cons.mpr ⟨gfk_6_105, List.forall_mem_cons.mpr ⟨gfk_6_25, List.forall_mem_cons.mpr ⟨gfk_6_145, List.forall_mem_cons.mpr ⟨gfk_6_132, List.forall_mem_cons.mpr ⟨gfk_6_135, List.forall_mem_cons.mpr ⟨gfk_6_208, fun _ h => absurd h List.not_mem_nil⟩⟩⟩⟩⟩⟩⟩⟩⟩⟩⟩⟩⟩⟩
theorem gF_ok {o i : Nat} {x : Nat × Nat} (h : gfind i (gFl o) = some x) : gFok (o, i, x) := by
  have hm := gfind_mem h
  unfold gFl at hm
  split at hm
  · exact gfoTr _ hm
  · exact gfoSe _ hm
  · exact gfoDo _ hm
  · exact gfoHi _ hm
  · exact gfoTx _ hm
  · exact gfoGs _ hm
  · exact gfoMo _ hm
  · exact absurd hm List.not_mem_nil
/-- a method: own class, name, code, locals, answer, handlers -/
abbrev gK : Type := Nat × MethodName × ByteArray × Nat × Option FieldType × List (Nat × Nat × Nat × Nat)
abbrev K_Gs_init : gK := (5, ⟨"GoldSheets", "<init>", "()V"⟩, prog_1_method_1_code, 1, none, [])
abbrev K_Do_init : gK := (2, ⟨"GoldSheets$Dome", "<init>", "()V"⟩, prog_2_method_1_code, 2, none, [])
abbrev K_Tr_init : gK := (0, ⟨"GoldSheets$Trays", "<init>", "()V"⟩, prog_6_method_1_code, 1, none, [])
abbrev K_Se_init : gK := (1, ⟨"GoldSheets$Sections", "<init>", "()V"⟩, prog_5_method_1_code, 1, none, [])
abbrev K_Gs_copyRow : gK := (5, ⟨"GoldSheets", "copyRow", "([I[I)V"⟩, prog_1_method_41_code, 2, none, [])
abbrev K_Hi_init : gK := (3, ⟨"GoldSheets$History", "<init>", "()V"⟩, prog_3_method_1_code, 2, none, [])
abbrev K_Tx_init : gK := (4, ⟨"GoldSheets$SectionText", "<init>", "()V"⟩, prog_4_method_1_code, 1, none, [])
abbrev K_Gs_clearBuffer : gK := (5, ⟨"GoldSheets", "clearBuffer", "()I"⟩, prog_1_method_11_code, 2, (some FieldType.int), [])
abbrev K_Tx_erase : gK := (4, ⟨"GoldSheets$SectionText", "erase", "()V"⟩, prog_4_method_2_code, 1, none, [])
abbrev K_Gs_firstError : gK := (5, ⟨"GoldSheets", "firstError", "()I"⟩, prog_1_method_12_code, 1, (some FieldType.int), [])
abbrev K_Tx_read : gK := (4, ⟨"GoldSheets$SectionText", "read", "()I"⟩, prog_4_method_4_code, 2, (some FieldType.int), [])
abbrev K_Tx_accepts : gK := (4, ⟨"GoldSheets$SectionText", "accepts", "(I)Z"⟩, prog_4_method_6_code, 2, (some FieldType.boolean), [])
abbrev K_Tx_acceptsFirstDigit : gK := (4, ⟨"GoldSheets$SectionText", "acceptsFirstDigit", "(I)Z"⟩, prog_4_method_7_code, 2, (some FieldType.boolean), [])
abbrev K_Tx_acceptsInCubes : gK := (4, ⟨"GoldSheets$SectionText", "acceptsInCubes", "(I)Z"⟩, prog_4_method_8_code, 3, (some FieldType.boolean), [])
abbrev K_Tx_isDigit : gK := (4, ⟨"GoldSheets$SectionText", "isDigit", "(I)Z"⟩, prog_4_method_12_code, 1, (some FieldType.boolean), [])
abbrev K_Tx_acceptsAt : gK := (4, ⟨"GoldSheets$SectionText", "acceptsAt", "(I)Z"⟩, prog_4_method_9_code, 2, (some FieldType.boolean), [])
abbrev K_Tx_acceptsDayDigit : gK := (4, ⟨"GoldSheets$SectionText", "acceptsDayDigit", "(I)Z"⟩, prog_4_method_10_code, 2, (some FieldType.boolean), [])
abbrev K_Tx_acceptsInDay : gK := (4, ⟨"GoldSheets$SectionText", "acceptsInDay", "(I)Z"⟩, prog_4_method_11_code, 3, (some FieldType.boolean), [])
abbrev K_Tx_keepPart : gK := (4, ⟨"GoldSheets$SectionText", "keepPart", "()V"⟩, prog_4_method_13_code, 1, none, [])
abbrev K_Gs_laidShare : gK := (5, ⟨"GoldSheets", "laidShare", "()D"⟩, prog_1_method_25_code, 2, (some FieldType.double), [])
abbrev K_Gs_sumOf : gK := (5, ⟨"GoldSheets", "sumOf", "([I)I"⟩, prog_1_method_40_code, 6, (some FieldType.int), [])
abbrev K_Gs_digest : gK := (5, ⟨"GoldSheets", "digest", "()J"⟩, prog_1_method_26_code, 4, (some FieldType.long), [])
abbrev K_Gs_count : gK := (5, ⟨"GoldSheets", "count", "(I)I"⟩, prog_1_method_18_code, 2, (some FieldType.int), [])
abbrev K_Tr_mixedTrays : gK := (0, ⟨"GoldSheets$Trays", "mixedTrays", "()I"⟩, prog_6_method_8_code, 3, (some FieldType.int), [])
abbrev K_Tr_tonesIn : gK := (0, ⟨"GoldSheets$Trays", "tonesIn", "(I)I"⟩, prog_6_method_7_code, 4, (some FieldType.int), [])
abbrev K_Tr_emptyTrays : gK := (0, ⟨"GoldSheets$Trays", "emptyTrays", "()I"⟩, prog_6_method_9_code, 3, (some FieldType.int), [])
abbrev K_Gs_setting : gK := (5, ⟨"GoldSheets", "setting", "(I)I"⟩, prog_1_method_19_code, 2, (some FieldType.int), [])
abbrev K_Gs_requireIndex : gK := (5, ⟨"GoldSheets", "requireIndex", "(II)V"⟩, prog_1_method_35_code, 2, none, [])
abbrev K_Gs_valueAt : gK := (5, ⟨"GoldSheets", "valueAt", "([II)I"⟩, prog_1_method_38_code, 2, (some FieldType.int), [])
abbrev K_Gs_hashOfTrays : gK := (5, ⟨"GoldSheets", "hashOfTrays", "(J)J"⟩, prog_1_method_27_code, 7, (some FieldType.long), [])
abbrev K_Gs_tray : gK := (5, ⟨"GoldSheets", "tray", "(II)I"⟩, prog_1_method_15_code, 3, (some FieldType.int), [])
abbrev K_Tr_heldInAll : gK := (0, ⟨"GoldSheets$Trays", "heldInAll", "(I)I"⟩, prog_6_method_5_code, 4, (some FieldType.int), [])
abbrev K_Tr_held : gK := (0, ⟨"GoldSheets$Trays", "held", "(II)I"⟩, prog_6_method_3_code, 4, (some FieldType.int), [])
abbrev K_Gs_hashOfSections : gK := (5, ⟨"GoldSheets", "hashOfSections", "(J)J"⟩, prog_1_method_28_code, 7, (some FieldType.long), [])
abbrev K_Gs_foreseeSections : gK := (5, ⟨"GoldSheets", "foreseeSections", "()V"⟩, prog_1_method_31_code, 2, none, [])
abbrev K_Do_copyFrom : gK := (2, ⟨"GoldSheets$Dome", "copyFrom", "(LGoldSheets$Dome;)V"⟩, prog_2_method_2_code, 2, none, [])
abbrev K_Tr_copyFrom : gK := (0, ⟨"GoldSheets$Trays", "copyFrom", "(LGoldSheets$Trays;)V"⟩, prog_6_method_2_code, 2, none, [])
abbrev K_Se_copyFrom : gK := (1, ⟨"GoldSheets$Sections", "copyFrom", "(LGoldSheets$Sections;)V"⟩, prog_5_method_2_code, 2, none, [])
abbrev K_Do_passDay : gK := (2, ⟨"GoldSheets$Dome", "passDay", "()V"⟩, prog_2_method_9_code, 3, none, [])
abbrev K_Tr_sortOut : gK := (0, ⟨"GoldSheets$Trays", "sortOut", "(II)V"⟩, prog_6_method_14_code, 6, none, [])
abbrev K_Tr_mostOf : gK := (0, ⟨"GoldSheets$Trays", "mostOf", "(I)I"⟩, prog_6_method_15_code, 4, (some FieldType.int), [])
abbrev K_Tr_lowestEmpty : gK := (0, ⟨"GoldSheets$Trays", "lowestEmpty", "()I"⟩, prog_6_method_16_code, 2, (some FieldType.int), [])
abbrev K_Tr_pour : gK := (0, ⟨"GoldSheets$Trays", "pour", "(IIII)I"⟩, prog_6_method_12_code, 6, (some FieldType.int), [])
abbrev K_Tr_change : gK := (0, ⟨"GoldSheets$Trays", "change", "(III)V"⟩, prog_6_method_4_code, 4, none, [])
abbrev K_Do_canBeLaid : gK := (2, ⟨"GoldSheets$Dome", "canBeLaid", "(I)Z"⟩, prog_2_method_10_code, 2, (some FieldType.boolean), [])
abbrev K_Se_valueOf : gK := (1, ⟨"GoldSheets$Sections", "valueOf", "(II)I"⟩, prog_5_method_3_code, 4, (some FieldType.int), [])
abbrev K_Tr_readyOf : gK := (0, ⟨"GoldSheets$Trays", "readyOf", "(I)I"⟩, prog_6_method_11_code, 4, (some FieldType.int), [])
abbrev K_Do_layOnce : gK := (2, ⟨"GoldSheets$Dome", "layOnce", "(I)V"⟩, prog_2_method_11_code, 6, none, [])
abbrev K_Do_takenFor : gK := (2, ⟨"GoldSheets$Dome", "takenFor", "(I)I"⟩, prog_2_method_14_code, 3, (some FieldType.int), [])
abbrev K_Tr_takeReady : gK := (0, ⟨"GoldSheets$Trays", "takeReady", "(II)I"⟩, prog_6_method_17_code, 6, (some FieldType.int), [])
abbrev K_Se_lay : gK := (1, ⟨"GoldSheets$Sections", "lay", "(II)V"⟩, prog_5_method_9_code, 3, none, [])
abbrev K_Se_put : gK := (1, ⟨"GoldSheets$Sections", "put", "(III)V"⟩, prog_5_method_4_code, 4, none, [])
abbrev K_Gs_addAt : gK := (5, ⟨"GoldSheets", "addAt", "([III)V"⟩, prog_1_method_39_code, 3, none, [])
abbrev K_Do_dismissDone : gK := (2, ⟨"GoldSheets$Dome", "dismissDone", "()V"⟩, prog_2_method_12_code, 2, none, [])
abbrev K_Do_countDone : gK := (2, ⟨"GoldSheets$Dome", "countDone", "(I)V"⟩, prog_2_method_13_code, 2, none, [])
abbrev K_Se_remove : gK := (1, ⟨"GoldSheets$Sections", "remove", "(I)V"⟩, prog_5_method_8_code, 4, none, [])
abbrev K_Se_arrange : gK := (1, ⟨"GoldSheets$Sections", "arrange", "(I)V"⟩, prog_5_method_10_code, 5, none, [])
abbrev K_Se_comesBefore : gK := (1, ⟨"GoldSheets$Sections", "comesBefore", "(III)Z"⟩, prog_5_method_11_code, 6, (some FieldType.boolean), [])
abbrev K_Se_swap : gK := (1, ⟨"GoldSheets$Sections", "swap", "(II)V"⟩, prog_5_method_12_code, 5, none, [])
abbrev K_Gs_noteDone : gK := (5, ⟨"GoldSheets", "noteDone", "(I)V"⟩, prog_1_method_32_code, 4, none, [])
abbrev K_Se_placeOf : gK := (1, ⟨"GoldSheets$Sections", "placeOf", "(I)I"⟩, prog_5_method_5_code, 3, (some FieldType.int), [])
abbrev K_Gs_sectionOf : gK := (5, ⟨"GoldSheets", "sectionOf", "(II)I"⟩, prog_1_method_16_code, 3, (some FieldType.int), [])
abbrev K_Gs_requireRange : gK := (5, ⟨"GoldSheets", "requireRange", "(III)V"⟩, prog_1_method_36_code, 3, none, [])
abbrev K_Gs_hashOfTones : gK := (5, ⟨"GoldSheets", "hashOfTones", "(J)J"⟩, prog_1_method_29_code, 7, (some FieldType.long), [])
abbrev K_Gs_tone : gK := (5, ⟨"GoldSheets", "tone", "(II)I"⟩, prog_1_method_17_code, 3, (some FieldType.int), [])
abbrev K_Tr_heldOf : gK := (0, ⟨"GoldSheets$Trays", "heldOf", "(I)I"⟩, prog_6_method_10_code, 4, (some FieldType.int), [])
abbrev K_Se_wantedOf : gK := (1, ⟨"GoldSheets$Sections", "wantedOf", "(I)I"⟩, prog_5_method_6_code, 4, (some FieldType.int), [])
abbrev K_Gs_missing : gK := (5, ⟨"GoldSheets", "missing", "(I)I"⟩, prog_1_method_21_code, 2, (some FieldType.int), [])
abbrev K_Do_missingSheets : gK := (2, ⟨"GoldSheets$Dome", "missingSheets", "(I)I"⟩, prog_2_method_15_code, 5, (some FieldType.int), [])
abbrev K_Gs_taken : gK := (5, ⟨"GoldSheets", "taken", "(I)I"⟩, prog_1_method_20_code, 2, (some FieldType.int), [])
abbrev K_Gs_ifPassed : gK := (5, ⟨"GoldSheets", "ifPassed", "(II)I"⟩, prog_1_method_22_code, 3, (some FieldType.int), [])
abbrev K_Gs_passTrial : gK := (5, ⟨"GoldSheets", "passTrial", "(II)V"⟩, prog_1_method_33_code, 4, none, [])
abbrev K_Do_changeSetting : gK := (2, ⟨"GoldSheets$Dome", "changeSetting", "(II)I"⟩, prog_2_method_8_code, 4, (some FieldType.int), [])
abbrev K_Gs_bestOrder : gK := (5, ⟨"GoldSheets", "bestOrder", "(I)I"⟩, prog_1_method_24_code, 4, (some FieldType.int), [])
abbrev K_Gs_bitsOf : gK := (5, ⟨"GoldSheets", "bitsOf", "(D)J"⟩, prog_1_method_37_code, 6, (some FieldType.long), [])
abbrev K_Gs_hashOfText : gK := (5, ⟨"GoldSheets", "hashOfText", "(J)J"⟩, prog_1_method_30_code, 6, (some FieldType.long), [])
abbrev K_Lw_store : gK := (7, ⟨"GoldSheetsLaw", "store", "(LGoldSheets;II[J)I"⟩, method_3_code, 5, (some FieldType.int), [((0 : Nat), (10 : Nat), (13 : Nat), (13 : Nat)), ((0 : Nat), (10 : Nat), (17 : Nat), (15 : Nat)), ((0 : Nat), (10 : Nat), (21 : Nat), (17 : Nat))])
abbrev K_Gs_store : gK := (5, ⟨"GoldSheets", "store", "(II)I"⟩, prog_1_method_2_code, 3, (some FieldType.int), [])
abbrev K_Hi_save : gK := (3, ⟨"GoldSheets$History", "save", "(LGoldSheets$Dome;)V"⟩, prog_3_method_2_code, 3, none, [])
abbrev K_Hi_dropOldest : gK := (3, ⟨"GoldSheets$History", "dropOldest", "()V"⟩, prog_3_method_5_code, 3, none, [])
abbrev K_Hi_slotAt : gK := (3, ⟨"GoldSheets$History", "slotAt", "(I)LGoldSheets$Dome;"⟩, prog_3_method_4_code, 2, (some (FieldType.object "GoldSheets$Dome")), [])
abbrev K_Lw_cut : gK := (7, ⟨"GoldSheetsLaw", "cut", "(LGoldSheets;II[J)I"⟩, method_4_code, 5, (some FieldType.int), [((0 : Nat), (10 : Nat), (13 : Nat), (13 : Nat)), ((0 : Nat), (10 : Nat), (17 : Nat), (17 : Nat))])
abbrev K_Gs_cut : gK := (5, ⟨"GoldSheets", "cut", "(II)I"⟩, prog_1_method_3_code, 3, (some FieldType.int), [])
abbrev K_Do_cutSheet : gK := (2, ⟨"GoldSheets$Dome", "cutSheet", "(II)I"⟩, prog_2_method_3_code, 5, (some FieldType.int), [])
abbrev K_Tr_freeIn : gK := (0, ⟨"GoldSheets$Trays", "freeIn", "(II)I"⟩, prog_6_method_6_code, 3, (some FieldType.int), [])
abbrev K_Lw_tip : gK := (7, ⟨"GoldSheetsLaw", "tip", "(LGoldSheets;II[J)I"⟩, method_5_code, 5, (some FieldType.int), [((0 : Nat), (10 : Nat), (13 : Nat), (13 : Nat)), ((0 : Nat), (10 : Nat), (17 : Nat), (15 : Nat))])
abbrev K_Gs_tip : gK := (5, ⟨"GoldSheets", "tip", "(II)I"⟩, prog_1_method_4_code, 3, (some FieldType.int), [])
abbrev K_Do_tipTray : gK := (2, ⟨"GoldSheets$Dome", "tipTray", "(II)I"⟩, prog_2_method_4_code, 5, (some FieldType.int), [])
abbrev K_Lw_sweep : gK := (7, ⟨"GoldSheetsLaw", "sweep", "(LGoldSheets;I[J)I"⟩, method_6_code, 4, (some FieldType.int), [((0 : Nat), (9 : Nat), (12 : Nat), (13 : Nat))])
abbrev K_Gs_sweep : gK := (5, ⟨"GoldSheets", "sweep", "(I)I"⟩, prog_1_method_5_code, 2, (some FieldType.int), [])
abbrev K_Do_sweepTray : gK := (2, ⟨"GoldSheets$Dome", "sweepTray", "(I)I"⟩, prog_2_method_5_code, 5, (some FieldType.int), [])
abbrev K_Tr_clear : gK := (0, ⟨"GoldSheets$Trays", "clear", "(II)I"⟩, prog_6_method_13_code, 4, (some FieldType.int), [])
abbrev K_Lw_section : gK := (7, ⟨"GoldSheetsLaw", "section", "(LGoldSheets;III[J)I"⟩, method_7_code, 6, (some FieldType.int), [((0 : Nat), (12 : Nat), (15 : Nat), (13 : Nat)), ((0 : Nat), (12 : Nat), (19 : Nat), (15 : Nat)), ((0 : Nat), (12 : Nat), (23 : Nat), (17 : Nat))])
abbrev K_Gs_section : gK := (5, ⟨"GoldSheets", "section", "(III)I"⟩, prog_1_method_6_code, 4, (some FieldType.int), [])
abbrev K_Do_addSection : gK := (2, ⟨"GoldSheets$Dome", "addSection", "(III)I"⟩, prog_2_method_6_code, 5, (some FieldType.int), [])
abbrev K_Se_add : gK := (1, ⟨"GoldSheets$Sections", "add", "(III)I"⟩, prog_5_method_7_code, 5, (some FieldType.int), [])
abbrev K_Lw_drop : gK := (7, ⟨"GoldSheetsLaw", "drop", "(LGoldSheets;I[J)I"⟩, method_8_code, 4, (some FieldType.int), [((0 : Nat), (9 : Nat), (12 : Nat), (13 : Nat))])
abbrev K_Gs_drop : gK := (5, ⟨"GoldSheets", "drop", "(I)I"⟩, prog_1_method_7_code, 3, (some FieldType.int), [])
abbrev K_Gs_requireSection : gK := (5, ⟨"GoldSheets", "requireSection", "(I)I"⟩, prog_1_method_34_code, 3, (some FieldType.int), [])
abbrev K_Do_dropSection : gK := (2, ⟨"GoldSheets$Dome", "dropSection", "(I)I"⟩, prog_2_method_7_code, 4, (some FieldType.int), [])
abbrev K_Lw_set : gK := (7, ⟨"GoldSheetsLaw", "set", "(LGoldSheets;II[J)I"⟩, method_9_code, 5, (some FieldType.int), [((0 : Nat), (10 : Nat), (13 : Nat), (13 : Nat)), ((0 : Nat), (10 : Nat), (17 : Nat), (15 : Nat))])
abbrev K_Gs_set : gK := (5, ⟨"GoldSheets", "set", "(II)I"⟩, prog_1_method_8_code, 3, (some FieldType.int), [])
abbrev K_Lw_pass : gK := (7, ⟨"GoldSheetsLaw", "pass", "(LGoldSheets;I[J)I"⟩, method_10_code, 4, (some FieldType.int), [((0 : Nat), (9 : Nat), (12 : Nat), (15 : Nat)), ((0 : Nat), (9 : Nat), (15 : Nat), (17 : Nat))])
abbrev K_Gs_pass : gK := (5, ⟨"GoldSheets", "pass", "(I)I"⟩, prog_1_method_9_code, 4, (some FieldType.int), [])
abbrev K_Lw_append : gK := (7, ⟨"GoldSheetsLaw", "append", "(LGoldSheets;I[J)I"⟩, method_11_code, 4, (some FieldType.int), [((0 : Nat), (9 : Nat), (12 : Nat), (15 : Nat)), ((0 : Nat), (9 : Nat), (15 : Nat), (17 : Nat))])
abbrev K_Gs_append : gK := (5, ⟨"GoldSheets", "append", "(I)I"⟩, prog_1_method_10_code, 2, (some FieldType.int), [])
abbrev K_Tx_add : gK := (4, ⟨"GoldSheets$SectionText", "add", "(I)V"⟩, prog_4_method_3_code, 2, none, [])
abbrev K_Lw_addAll : gK := (7, ⟨"GoldSheetsLaw", "addAll", "(LGoldSheets;[J)I"⟩, method_12_code, 3, (some FieldType.int), [((0 : Nat), (8 : Nat), (11 : Nat), (15 : Nat)), ((0 : Nat), (8 : Nat), (14 : Nat), (17 : Nat))])
abbrev K_Gs_addAll : gK := (5, ⟨"GoldSheets", "addAll", "()I"⟩, prog_1_method_13_code, 2, (some FieldType.int), [])
abbrev K_Tx_readSections : gK := (4, ⟨"GoldSheets$SectionText", "readSections", "()Z"⟩, prog_4_method_5_code, 1, (some FieldType.boolean), [])
abbrev K_Lw_undo : gK := (7, ⟨"GoldSheetsLaw", "undo", "(LGoldSheets;[J)I"⟩, method_13_code, 3, (some FieldType.int), [((0 : Nat), (8 : Nat), (11 : Nat), (17 : Nat))])
abbrev K_Gs_undo : gK := (5, ⟨"GoldSheets", "undo", "()I"⟩, prog_1_method_14_code, 1, (some FieldType.int), [])
abbrev K_Hi_restoreTo : gK := (3, ⟨"GoldSheets$History", "restoreTo", "(LGoldSheets$Dome;)V"⟩, prog_3_method_3_code, 3, none, [])
abbrev K_Lw_tray : gK := (7, ⟨"GoldSheetsLaw", "tray", "(LGoldSheets;II[J)I"⟩, method_14_code, 5, (some FieldType.int), [((0 : Nat), (10 : Nat), (13 : Nat), (13 : Nat))])
abbrev K_Lw_sectionOf : gK := (7, ⟨"GoldSheetsLaw", "sectionOf", "(LGoldSheets;II[J)I"⟩, method_15_code, 5, (some FieldType.int), [((0 : Nat), (10 : Nat), (13 : Nat), (15 : Nat))])
abbrev K_Lw_tone : gK := (7, ⟨"GoldSheetsLaw", "tone", "(LGoldSheets;II[J)I"⟩, method_16_code, 5, (some FieldType.int), [((0 : Nat), (10 : Nat), (13 : Nat), (13 : Nat)), ((0 : Nat), (10 : Nat), (17 : Nat), (15 : Nat))])
abbrev K_Lw_count : gK := (7, ⟨"GoldSheetsLaw", "count", "(LGoldSheets;I[J)I"⟩, method_17_code, 4, (some FieldType.int), [((0 : Nat), (9 : Nat), (12 : Nat), (15 : Nat))])
abbrev K_Lw_setting : gK := (7, ⟨"GoldSheetsLaw", "setting", "(LGoldSheets;I[J)I"⟩, method_18_code, 4, (some FieldType.int), [((0 : Nat), (9 : Nat), (12 : Nat), (13 : Nat))])
abbrev K_Lw_taken : gK := (7, ⟨"GoldSheetsLaw", "taken", "(LGoldSheets;I[J)I"⟩, method_19_code, 4, (some FieldType.int), [((0 : Nat), (9 : Nat), (12 : Nat), (15 : Nat))])
abbrev K_Lw_missing : gK := (7, ⟨"GoldSheetsLaw", "missing", "(LGoldSheets;I[J)I"⟩, method_20_code, 4, (some FieldType.int), [((0 : Nat), (9 : Nat), (12 : Nat), (13 : Nat))])
abbrev K_Lw_ifPassed : gK := (7, ⟨"GoldSheetsLaw", "ifPassed", "(LGoldSheets;II[J)I"⟩, method_21_code, 5, (some FieldType.int), [((0 : Nat), (10 : Nat), (13 : Nat), (15 : Nat))])
abbrev K_Lw_doneIn : gK := (7, ⟨"GoldSheetsLaw", "doneIn", "(LGoldSheets;I[J)I"⟩, method_22_code, 4, (some FieldType.int), [((0 : Nat), (9 : Nat), (12 : Nat), (13 : Nat))])
abbrev K_Gs_doneIn : gK := (5, ⟨"GoldSheets", "doneIn", "(I)I"⟩, prog_1_method_23_code, 3, (some FieldType.int), [])
abbrev K_Lw_bestOrder : gK := (7, ⟨"GoldSheetsLaw", "bestOrder", "(LGoldSheets;I[J)I"⟩, method_23_code, 4, (some FieldType.int), [((0 : Nat), (9 : Nat), (12 : Nat), (15 : Nat))])
abbrev K_Mo_init : gK := (6, ⟨"GoldSheetsModel", "<init>", "()V"⟩, prog_8_method_1_code, 2, none, [])
abbrev K_Mo_thrown : gK := (6, ⟨"GoldSheetsModel", "thrown", "()I"⟩, prog_8_method_2_code, 1, (some FieldType.int), [])
abbrev K_Mo_undo : gK := (6, ⟨"GoldSheetsModel", "undo", "()I"⟩, prog_8_method_10_code, 2, (some FieldType.int), [])
abbrev K_Mo_store : gK := (6, ⟨"GoldSheetsModel", "store", "(II)I"⟩, prog_8_method_19_code, 3, (some FieldType.int), [])
abbrev K_Mo_isTone : gK := (6, ⟨"GoldSheetsModel", "isTone", "(I)Z"⟩, prog_8_method_4_code, 1, (some FieldType.boolean), [])
abbrev K_Mo_in : gK := (6, ⟨"GoldSheetsModel", "in", "(III)Z"⟩, prog_8_method_3_code, 3, (some FieldType.boolean), [])
abbrev K_Mo_save : gK := (6, ⟨"GoldSheetsModel", "save", "()V"⟩, prog_8_method_9_code, 2, none, [])
abbrev K_Mo_cut : gK := (6, ⟨"GoldSheetsModel", "cut", "(II)I"⟩, prog_8_method_20_code, 5, (some FieldType.int), [])
abbrev K_Mo_isTray : gK := (6, ⟨"GoldSheetsModel", "isTray", "(I)Z"⟩, prog_8_method_5_code, 1, (some FieldType.boolean), [])
abbrev K_Mo_room : gK := (6, ⟨"GoldSheetsModel", "room", "(I)I"⟩, prog_8_method_15_code, 3, (some FieldType.int), [])
abbrev K_Mo_inTray : gK := (6, ⟨"GoldSheetsModel", "inTray", "(I)I"⟩, prog_8_method_13_code, 4, (some FieldType.int), [])
abbrev K_Mo_cubes : gK := (6, ⟨"GoldSheetsModel", "cubes", "(II)I"⟩, prog_8_method_6_code, 3, (some FieldType.int), [])
abbrev K_Mo_tip : gK := (6, ⟨"GoldSheetsModel", "tip", "(II)I"⟩, prog_8_method_21_code, 5, (some FieldType.int), [])
abbrev K_Mo_pour : gK := (6, ⟨"GoldSheetsModel", "pour", "(III)I"⟩, prog_8_method_16_code, 5, (some FieldType.int), [])
abbrev K_Mo_sweep : gK := (6, ⟨"GoldSheetsModel", "sweep", "(I)I"⟩, prog_8_method_22_code, 4, (some FieldType.int), [])
abbrev K_Mo_section : gK := (6, ⟨"GoldSheetsModel", "section", "(III)I"⟩, prog_8_method_24_code, 4, (some FieldType.int), [])
abbrev K_Mo_sectionAdded : gK := (6, ⟨"GoldSheetsModel", "sectionAdded", "(III)I"⟩, prog_8_method_23_code, 5, (some FieldType.int), [])
abbrev K_Mo_lay : gK := (6, ⟨"GoldSheetsModel", "lay", "(III)V"⟩, prog_8_method_8_code, 4, none, [])
abbrev K_Mo_drop : gK := (6, ⟨"GoldSheetsModel", "drop", "(I)I"⟩, prog_8_method_27_code, 4, (some FieldType.int), [])
abbrev K_Mo_placeOf : gK := (6, ⟨"GoldSheetsModel", "placeOf", "(I)I"⟩, prog_8_method_25_code, 4, (some FieldType.int), [])
abbrev K_Mo_its : gK := (6, ⟨"GoldSheetsModel", "its", "(II)I"⟩, prog_8_method_7_code, 3, (some FieldType.int), [])
abbrev K_Mo_takeOut : gK := (6, ⟨"GoldSheetsModel", "takeOut", "(I)V"⟩, prog_8_method_26_code, 3, none, [])
abbrev K_Mo_set : gK := (6, ⟨"GoldSheetsModel", "set", "(II)I"⟩, prog_8_method_29_code, 4, (some FieldType.int), [])
abbrev K_Mo_isValue : gK := (6, ⟨"GoldSheetsModel", "isValue", "(II)Z"⟩, prog_8_method_28_code, 2, (some FieldType.boolean), [])
abbrev K_Mo_pass : gK := (6, ⟨"GoldSheetsModel", "pass", "(I)I"⟩, prog_8_method_40_code, 2, (some FieldType.int), [])
abbrev K_Mo_days : gK := (6, ⟨"GoldSheetsModel", "days", "(I)I"⟩, prog_8_method_39_code, 4, (some FieldType.int), [])
abbrev K_Mo_work : gK := (6, ⟨"GoldSheetsModel", "work", "()I"⟩, prog_8_method_38_code, 3, (some FieldType.int), [])
abbrev K_Mo_tonesIn : gK := (6, ⟨"GoldSheetsModel", "tonesIn", "(I)I"⟩, prog_8_method_14_code, 4, (some FieldType.int), [])
abbrev K_Mo_sort : gK := (6, ⟨"GoldSheetsModel", "sort", "(I)V"⟩, prog_8_method_18_code, 5, none, [])
abbrev K_Mo_emptyTray : gK := (6, ⟨"GoldSheetsModel", "emptyTray", "()I"⟩, prog_8_method_17_code, 3, (some FieldType.int), [])
abbrev K_Mo_layOrder : gK := (6, ⟨"GoldSheetsModel", "layOrder", "()V"⟩, prog_8_method_31_code, 3, none, [])
abbrev K_Mo_isAhead : gK := (6, ⟨"GoldSheetsModel", "isAhead", "(II)Z"⟩, prog_8_method_30_code, 4, (some FieldType.boolean), [])
abbrev K_Mo_workOn : gK := (6, ⟨"GoldSheetsModel", "workOn", "(I)I"⟩, prog_8_method_36_code, 3, (some FieldType.int), [])
abbrev K_Mo_inTrays : gK := (6, ⟨"GoldSheetsModel", "inTrays", "(IZ)I"⟩, prog_8_method_34_code, 5, (some FieldType.int), [])
abbrev K_Mo_layCubes : gK := (6, ⟨"GoldSheetsModel", "layCubes", "(I)I"⟩, prog_8_method_35_code, 7, (some FieldType.int), [])
abbrev K_Mo_takenFor : gK := (6, ⟨"GoldSheetsModel", "takenFor", "(I)I"⟩, prog_8_method_33_code, 3, (some FieldType.int), [])
abbrev K_Mo_broken : gK := (6, ⟨"GoldSheetsModel", "broken", "(I)I"⟩, prog_8_method_32_code, 2, (some FieldType.int), [])
abbrev K_Mo_endDone : gK := (6, ⟨"GoldSheetsModel", "endDone", "()V"⟩, prog_8_method_37_code, 3, none, [])
abbrev K_Mo_append : gK := (6, ⟨"GoldSheetsModel", "append", "(I)I"⟩, prog_8_method_41_code, 2, (some FieldType.int), [])
abbrev K_Mo_clearBuffer : gK := (6, ⟨"GoldSheetsModel", "clearBuffer", "()I"⟩, prog_8_method_42_code, 2, (some FieldType.int), [])
abbrev K_Mo_firstError : gK := (6, ⟨"GoldSheetsModel", "firstError", "()I"⟩, prog_8_method_48_code, 2, (some FieldType.int), [])
abbrev K_Mo_readBuffer : gK := (6, ⟨"GoldSheetsModel", "readBuffer", "()I"⟩, prog_8_method_47_code, 2, (some FieldType.int), [])
abbrev K_Mo_readPart : gK := (6, ⟨"GoldSheetsModel", "readPart", "()V"⟩, prog_8_method_46_code, 2, none, [])
abbrev K_Mo_number : gK := (6, ⟨"GoldSheetsModel", "number", "(II)I"⟩, prog_8_method_45_code, 5, (some FieldType.int), [])
abbrev K_Mo_letter : gK := (6, ⟨"GoldSheetsModel", "letter", "()I"⟩, prog_8_method_43_code, 1, (some FieldType.int), [])
abbrev K_Mo_wants : gK := (6, ⟨"GoldSheetsModel", "wants", "(Z)V"⟩, prog_8_method_44_code, 2, none, [])
abbrev K_Mo_addAll : gK := (6, ⟨"GoldSheetsModel", "addAll", "()I"⟩, prog_8_method_49_code, 2, (some FieldType.int), [])
abbrev K_Mo_tray : gK := (6, ⟨"GoldSheetsModel", "tray", "(II)I"⟩, prog_8_method_50_code, 3, (some FieldType.int), [])
abbrev K_Mo_sectionOf : gK := (6, ⟨"GoldSheetsModel", "sectionOf", "(II)I"⟩, prog_8_method_52_code, 3, (some FieldType.int), [])
abbrev K_Mo_toldSection : gK := (6, ⟨"GoldSheetsModel", "toldSection", "(II)I"⟩, prog_8_method_51_code, 4, (some FieldType.int), [])
abbrev K_Mo_tone : gK := (6, ⟨"GoldSheetsModel", "tone", "(II)I"⟩, prog_8_method_55_code, 3, (some FieldType.int), [])
abbrev K_Mo_toldTone : gK := (6, ⟨"GoldSheetsModel", "toldTone", "(II)I"⟩, prog_8_method_54_code, 3, (some FieldType.int), [])
abbrev K_Mo_wanted : gK := (6, ⟨"GoldSheetsModel", "wanted", "(I)I"⟩, prog_8_method_53_code, 4, (some FieldType.int), [])
abbrev K_Mo_count : gK := (6, ⟨"GoldSheetsModel", "count", "(I)I"⟩, prog_8_method_59_code, 2, (some FieldType.int), [])
abbrev K_Mo_counted : gK := (6, ⟨"GoldSheetsModel", "counted", "(I)I"⟩, prog_8_method_58_code, 2, (some FieldType.int), [])
abbrev K_Mo_trays : gK := (6, ⟨"GoldSheetsModel", "trays", "(Z)I"⟩, prog_8_method_56_code, 4, (some FieldType.int), [])
abbrev K_Mo_allOf : gK := (6, ⟨"GoldSheetsModel", "allOf", "(I)I"⟩, prog_8_method_57_code, 4, (some FieldType.int), [])
abbrev K_Mo_setting : gK := (6, ⟨"GoldSheetsModel", "setting", "(I)I"⟩, prog_8_method_60_code, 2, (some FieldType.int), [])
abbrev K_Mo_taken : gK := (6, ⟨"GoldSheetsModel", "taken", "(I)I"⟩, prog_8_method_61_code, 2, (some FieldType.int), [])
abbrev K_Mo_missing : gK := (6, ⟨"GoldSheetsModel", "missing", "(I)I"⟩, prog_8_method_63_code, 2, (some FieldType.int), [])
abbrev K_Mo_lacks : gK := (6, ⟨"GoldSheetsModel", "lacks", "(I)I"⟩, prog_8_method_62_code, 4, (some FieldType.int), [])
abbrev K_Mo_ifPassed : gK := (6, ⟨"GoldSheetsModel", "ifPassed", "(II)I"⟩, prog_8_method_65_code, 3, (some FieldType.int), [])
abbrev K_Mo_wouldPass : gK := (6, ⟨"GoldSheetsModel", "wouldPass", "(II)I"⟩, prog_8_method_64_code, 5, (some FieldType.int), [])
abbrev K_Mo_putAside : gK := (6, ⟨"GoldSheetsModel", "putAside", "()V"⟩, prog_8_method_11_code, 2, none, [])
abbrev K_Mo_bringBack : gK := (6, ⟨"GoldSheetsModel", "bringBack", "()V"⟩, prog_8_method_12_code, 2, none, [])
abbrev K_Mo_doneIn : gK := (6, ⟨"GoldSheetsModel", "doneIn", "(I)I"⟩, prog_8_method_67_code, 2, (some FieldType.int), [])
abbrev K_Mo_daysTo : gK := (6, ⟨"GoldSheetsModel", "daysTo", "(I)I"⟩, prog_8_method_66_code, 4, (some FieldType.int), [])
abbrev K_Mo_bestOrder : gK := (6, ⟨"GoldSheetsModel", "bestOrder", "(I)I"⟩, prog_8_method_69_code, 2, (some FieldType.int), [])
abbrev K_Mo_bestFor : gK := (6, ⟨"GoldSheetsModel", "bestFor", "(I)I"⟩, prog_8_method_68_code, 7, (some FieldType.int), [])
abbrev K_Mo_laidShare : gK := (6, ⟨"GoldSheetsModel", "laidShare", "()D"⟩, prog_8_method_71_code, 1, (some FieldType.double), [])
abbrev K_Mo_share : gK := (6, ⟨"GoldSheetsModel", "share", "()D"⟩, prog_8_method_70_code, 1, (some FieldType.double), [])
abbrev K_Mo_digest : gK := (6, ⟨"GoldSheetsModel", "digest", "()J"⟩, prog_8_method_75_code, 3, (some FieldType.long), [])
abbrev K_Mo_mix : gK := (6, ⟨"GoldSheetsModel", "mix", "(J)V"⟩, prog_8_method_73_code, 3, none, [])
abbrev K_Mo_mixSections : gK := (6, ⟨"GoldSheetsModel", "mixSections", "()V"⟩, prog_8_method_74_code, 3, none, [])
abbrev K_Mo_bitsOf : gK := (6, ⟨"GoldSheetsModel", "bitsOf", "(D)J"⟩, prog_8_method_72_code, 6, (some FieldType.long), [])
def gwd (K : gK) : Cond := match K.2.2.2.2.2 with
  | [] => .code K.2.1 K.2.2.1 K.2.2.2.1 K.2.2.2.2.1
  | _ => .codeWith K.2.1 K.2.2.1 K.2.2.2.1 K.2.2.2.2.1 K.2.2.2.2.2
def gLkV (own : String) (i n : Nat) (K : gK) : Prop := (parseMethodDescriptor K.2.1.desc).map (fun d => d.parameters.length) = some n ∧ Cond.methodLink own i K.2.1 ∈ gTs ∧ Cond.instanceMethod K.2.1 ∈ gTs ∧ Cond.selects K.2.1.cls K.2.1 K.2.1 ∈ gTs ∧ Cond.initialized K.2.1.cls ∈ gTs ∧ gwd K ∈ gTs ∧ K.2.1.cls ≠ "java/lang/invoke/MethodHandle" ∧ K.2.1.cls ≠ "java/lang/invoke/VarHandle"
def gLkS (own : String) (i n : Nat) (K : gK) : Prop := (parseMethodDescriptor K.2.1.desc).map (fun d => d.parameters.length) = some n ∧ (Cond.methodLink own i K.2.1 ∈ gTs ∨ Cond.methodLinkNest own i K.2.1 "GoldSheets" ∈ gNs) ∧ Cond.static K.2.1 ∈ gTs ∧ Cond.initialized K.2.1.cls ∈ gTs ∧ gwd K ∈ gTs ∧ K.2.1.cls ≠ "java/lang/invoke/MethodHandle" ∧ K.2.1.cls ≠ "java/lang/invoke/VarHandle"
def gLkI (own : String) (i n : Nat) (K : gK) : Prop := (parseMethodDescriptor K.2.1.desc).map (fun d => d.parameters.length) = some n ∧ (Cond.methodLink own i K.2.1 ∈ gTs ∨ Cond.methodLinkNest own i K.2.1 "GoldSheets" ∈ gNs) ∧ Cond.instanceMethod K.2.1 ∈ gTs ∧ Cond.initialized K.2.1.cls ∈ gTs ∧ gwd K ∈ gTs ∧ K.2.1.name = "<init>" ∧ K.2.1.cls ≠ "java/lang/invoke/MethodHandle" ∧ K.2.1.cls ≠ "java/lang/invoke/VarHandle"
theorem lk_Lw_82 : gLkI "GoldSheetsLaw" 82 0 K_Gs_init := ⟨by decide +kernel, Or.inl (gmem 88 (by decide +kernel)), gmem 89 (by decide +kernel), gmem 71 (by decide +kernel), gmem 90 (by decide +kernel), by decide +kernel, by decide +kernel, by decide +kernel⟩
theorem lk_Gs_9 : gLkI "GoldSheets" 9 0 K_Do_init := ⟨by decide +kernel, Or.inl (gmem 96 (by decide +kernel)), gmem 97 (by decide +kernel), gmem 72 (by decide +kernel), gmem 98 (by decide +kernel), by decide +kernel, by decide +kernel, by decide +kernel⟩
theorem lk_Do_11 : gLkI "GoldSheets$Dome" 11 0 K_Tr_init := ⟨by decide +kernel, Or.inr (gmemN 102 (by decide +kernel)), gmem 103 (by decide +kernel), gmem 73 (by decide +kernel), gmem 104 (by decide +kernel), by decide +kernel, by decide +kernel, by decide +kernel⟩
theorem lk_Do_20 : gLkI "GoldSheets$Dome" 20 0 K_Se_init := ⟨by decide +kernel, Or.inr (gmemN 113 (by decide +kernel)), gmem 114 (by decide +kernel), gmem 74 (by decide +kernel), gmem 115 (by decide +kernel), by decide +kernel, by decide +kernel, by decide +kernel⟩
theorem lk_Do_44 : gLkS "GoldSheets$Dome" 44 2 K_Gs_copyRow := ⟨by decide +kernel, Or.inr (gmemN 131 (by decide +kernel)), gmem 132 (by decide +kernel), gmem 71 (by decide +kernel), gmem 133 (by decide +kernel), by decide +kernel, by decide +kernel⟩
theorem lk_Gs_21 : gLkI "GoldSheets" 21 0 K_Hi_init := ⟨by decide +kernel, Or.inl (gmem 191 (by decide +kernel)), gmem 192 (by decide +kernel), gmem 77 (by decide +kernel), gmem 193 (by decide +kernel), by decide +kernel, by decide +kernel, by decide +kernel⟩
theorem lk_Hi_17 : gLkI "GoldSheets$History" 17 0 K_Do_init := ⟨by decide +kernel, Or.inl (gmem 197 (by decide +kernel)), gmem 97 (by decide +kernel), gmem 72 (by decide +kernel), gmem 98 (by decide +kernel), by decide +kernel, by decide +kernel, by decide +kernel⟩
theorem lk_Gs_28 : gLkI "GoldSheets" 28 0 K_Tx_init := ⟨by decide +kernel, Or.inr (gmemN 208 (by decide +kernel)), gmem 209 (by decide +kernel), gmem 78 (by decide +kernel), gmem 210 (by decide +kernel), by decide +kernel, by decide +kernel, by decide +kernel⟩
theorem lk_Lw_121 : gLkV "GoldSheetsLaw" 121 0 K_Gs_clearBuffer := ⟨by decide +kernel, gmem 265 (by decide +kernel), gmem 266 (by decide +kernel), gmem 267 (by decide +kernel), gmem 71 (by decide +kernel), gmem 268 (by decide +kernel), by decide +kernel, by decide +kernel⟩
theorem lk_Gs_142 : gLkV "GoldSheets" 142 0 K_Tx_erase := ⟨by decide +kernel, gmem 269 (by decide +kernel), gmem 270 (by decide +kernel), gmem 271 (by decide +kernel), gmem 78 (by decide +kernel), gmem 272 (by decide +kernel), by decide +kernel, by decide +kernel⟩
theorem lk_Lw_125 : gLkV "GoldSheetsLaw" 125 0 K_Gs_firstError := ⟨by decide +kernel, gmem 273 (by decide +kernel), gmem 274 (by decide +kernel), gmem 275 (by decide +kernel), gmem 71 (by decide +kernel), gmem 276 (by decide +kernel), by decide +kernel, by decide +kernel⟩
theorem lk_Gs_145 : gLkV "GoldSheets" 145 0 K_Tx_read := ⟨by decide +kernel, gmem 277 (by decide +kernel), gmem 278 (by decide +kernel), gmem 279 (by decide +kernel), gmem 78 (by decide +kernel), gmem 280 (by decide +kernel), by decide +kernel, by decide +kernel⟩
theorem lk_Tx_34 : gLkV "GoldSheets$SectionText" 34 1 K_Tx_accepts := ⟨by decide +kernel, gmem 281 (by decide +kernel), gmem 283 (by decide +kernel), gmem 0 (by decide +kernel), gmem 78 (by decide +kernel), gmem 284 (by decide +kernel), by decide +kernel, by decide +kernel⟩
theorem lk_Tx_45 : gLkV "GoldSheets$SectionText" 45 1 K_Tx_acceptsFirstDigit := ⟨by decide +kernel, gmem 285 (by decide +kernel), gmem 287 (by decide +kernel), gmem 1 (by decide +kernel), gmem 78 (by decide +kernel), gmem 288 (by decide +kernel), by decide +kernel, by decide +kernel⟩
theorem lk_Tx_48 : gLkV "GoldSheets$SectionText" 48 1 K_Tx_acceptsInCubes := ⟨by decide +kernel, gmem 289 (by decide +kernel), gmem 291 (by decide +kernel), gmem 2 (by decide +kernel), gmem 78 (by decide +kernel), gmem 292 (by decide +kernel), by decide +kernel, by decide +kernel⟩
theorem lk_Tx_66 : gLkS "GoldSheets$SectionText" 66 1 K_Tx_isDigit := ⟨by decide +kernel, Or.inl (gmem 293 (by decide +kernel)), gmem 294 (by decide +kernel), gmem 78 (by decide +kernel), gmem 295 (by decide +kernel), by decide +kernel, by decide +kernel⟩
theorem lk_Tx_51 : gLkV "GoldSheets$SectionText" 51 1 K_Tx_acceptsAt := ⟨by decide +kernel, gmem 296 (by decide +kernel), gmem 298 (by decide +kernel), gmem 3 (by decide +kernel), gmem 78 (by decide +kernel), gmem 299 (by decide +kernel), by decide +kernel, by decide +kernel⟩
theorem lk_Tx_54 : gLkV "GoldSheets$SectionText" 54 1 K_Tx_acceptsDayDigit := ⟨by decide +kernel, gmem 300 (by decide +kernel), gmem 302 (by decide +kernel), gmem 4 (by decide +kernel), gmem 78 (by decide +kernel), gmem 303 (by decide +kernel), by decide +kernel, by decide +kernel⟩
theorem lk_Tx_57 : gLkV "GoldSheets$SectionText" 57 1 K_Tx_acceptsInDay := ⟨by decide +kernel, gmem 304 (by decide +kernel), gmem 306 (by decide +kernel), gmem 5 (by decide +kernel), gmem 78 (by decide +kernel), gmem 307 (by decide +kernel), by decide +kernel, by decide +kernel⟩
theorem lk_Tx_42 : gLkV "GoldSheets$SectionText" 42 0 K_Tx_keepPart := ⟨by decide +kernel, gmem 308 (by decide +kernel), gmem 310 (by decide +kernel), gmem 6 (by decide +kernel), gmem 78 (by decide +kernel), gmem 311 (by decide +kernel), by decide +kernel, by decide +kernel⟩
theorem lk_Lw_166 : gLkV "GoldSheetsLaw" 166 0 K_Gs_laidShare := ⟨by decide +kernel, gmem 312 (by decide +kernel), gmem 313 (by decide +kernel), gmem 314 (by decide +kernel), gmem 71 (by decide +kernel), gmem 315 (by decide +kernel), by decide +kernel, by decide +kernel⟩
theorem lk_Gs_126 : gLkS "GoldSheets" 126 1 K_Gs_sumOf := ⟨by decide +kernel, Or.inl (gmem 316 (by decide +kernel)), gmem 317 (by decide +kernel), gmem 71 (by decide +kernel), gmem 318 (by decide +kernel), by decide +kernel, by decide +kernel⟩
theorem lk_Lw_171 : gLkV "GoldSheetsLaw" 171 0 K_Gs_digest := ⟨by decide +kernel, gmem 319 (by decide +kernel), gmem 320 (by decide +kernel), gmem 321 (by decide +kernel), gmem 71 (by decide +kernel), gmem 322 (by decide +kernel), by decide +kernel, by decide +kernel⟩
theorem lk_Gs_248 : gLkV "GoldSheets" 248 1 K_Gs_count := ⟨by decide +kernel, gmem 325 (by decide +kernel), gmem 326 (by decide +kernel), gmem 327 (by decide +kernel), gmem 71 (by decide +kernel), gmem 328 (by decide +kernel), by decide +kernel, by decide +kernel⟩
theorem lk_Gs_218 : gLkV "GoldSheets" 218 0 K_Tr_mixedTrays := ⟨by decide +kernel, gmem 329 (by decide +kernel), gmem 330 (by decide +kernel), gmem 331 (by decide +kernel), gmem 73 (by decide +kernel), gmem 332 (by decide +kernel), by decide +kernel, by decide +kernel⟩
theorem lk_Tr_32 : gLkV "GoldSheets$Trays" 32 1 K_Tr_tonesIn := ⟨by decide +kernel, gmem 333 (by decide +kernel), gmem 334 (by decide +kernel), gmem 335 (by decide +kernel), gmem 73 (by decide +kernel), gmem 336 (by decide +kernel), by decide +kernel, by decide +kernel⟩
theorem lk_Gs_221 : gLkV "GoldSheets" 221 0 K_Tr_emptyTrays := ⟨by decide +kernel, gmem 337 (by decide +kernel), gmem 338 (by decide +kernel), gmem 339 (by decide +kernel), gmem 73 (by decide +kernel), gmem 340 (by decide +kernel), by decide +kernel, by decide +kernel⟩
theorem lk_Gs_251 : gLkV "GoldSheets" 251 1 K_Gs_setting := ⟨by decide +kernel, gmem 409 (by decide +kernel), gmem 410 (by decide +kernel), gmem 411 (by decide +kernel), gmem 71 (by decide +kernel), gmem 412 (by decide +kernel), by decide +kernel, by decide +kernel⟩
theorem lk_Gs_37 : gLkS "GoldSheets" 37 2 K_Gs_requireIndex := ⟨by decide +kernel, Or.inl (gmem 413 (by decide +kernel)), gmem 414 (by decide +kernel), gmem 71 (by decide +kernel), gmem 415 (by decide +kernel), by decide +kernel, by decide +kernel⟩
theorem lk_Gs_48 : gLkS "GoldSheets" 48 2 K_Gs_valueAt := ⟨by decide +kernel, Or.inl (gmem 432 (by decide +kernel)), gmem 433 (by decide +kernel), gmem 71 (by decide +kernel), gmem 434 (by decide +kernel), by decide +kernel, by decide +kernel⟩
theorem lk_Gs_254 : gLkV "GoldSheets" 254 1 K_Gs_hashOfTrays := ⟨by decide +kernel, gmem 435 (by decide +kernel), gmem 437 (by decide +kernel), gmem 8 (by decide +kernel), gmem 71 (by decide +kernel), gmem 438 (by decide +kernel), by decide +kernel, by decide +kernel⟩
theorem lk_Gs_284 : gLkV "GoldSheets" 284 2 K_Gs_tray := ⟨by decide +kernel, gmem 439 (by decide +kernel), gmem 440 (by decide +kernel), gmem 441 (by decide +kernel), gmem 71 (by decide +kernel), gmem 442 (by decide +kernel), by decide +kernel, by decide +kernel⟩
theorem lk_Gs_179 : gLkV "GoldSheets" 179 1 K_Tr_heldInAll := ⟨by decide +kernel, gmem 443 (by decide +kernel), gmem 444 (by decide +kernel), gmem 445 (by decide +kernel), gmem 73 (by decide +kernel), gmem 446 (by decide +kernel), by decide +kernel, by decide +kernel⟩
theorem lk_Tr_19 : gLkV "GoldSheets$Trays" 19 2 K_Tr_held := ⟨by decide +kernel, gmem 447 (by decide +kernel), gmem 448 (by decide +kernel), gmem 449 (by decide +kernel), gmem 73 (by decide +kernel), gmem 450 (by decide +kernel), by decide +kernel, by decide +kernel⟩
theorem lk_Gs_184 : gLkV "GoldSheets" 184 2 K_Tr_held := ⟨by decide +kernel, gmem 451 (by decide +kernel), gmem 448 (by decide +kernel), gmem 449 (by decide +kernel), gmem 73 (by decide +kernel), gmem 450 (by decide +kernel), by decide +kernel, by decide +kernel⟩
theorem lk_Gs_258 : gLkV "GoldSheets" 258 1 K_Gs_hashOfSections := ⟨by decide +kernel, gmem 452 (by decide +kernel), gmem 454 (by decide +kernel), gmem 9 (by decide +kernel), gmem 71 (by decide +kernel), gmem 455 (by decide +kernel), by decide +kernel, by decide +kernel⟩
theorem lk_Gs_241 : gLkV "GoldSheets" 241 0 K_Gs_foreseeSections := ⟨by decide +kernel, gmem 456 (by decide +kernel), gmem 458 (by decide +kernel), gmem 10 (by decide +kernel), gmem 71 (by decide +kernel), gmem 459 (by decide +kernel), by decide +kernel, by decide +kernel⟩
theorem lk_Gs_299 : gLkV "GoldSheets" 299 1 K_Do_copyFrom := ⟨by decide +kernel, gmem 460 (by decide +kernel), gmem 461 (by decide +kernel), gmem 462 (by decide +kernel), gmem 72 (by decide +kernel), gmem 463 (by decide +kernel), by decide +kernel, by decide +kernel⟩
theorem lk_Do_48 : gLkV "GoldSheets$Dome" 48 1 K_Tr_copyFrom := ⟨by decide +kernel, gmem 464 (by decide +kernel), gmem 465 (by decide +kernel), gmem 466 (by decide +kernel), gmem 73 (by decide +kernel), gmem 467 (by decide +kernel), by decide +kernel, by decide +kernel⟩
theorem lk_Tr_15 : gLkS "GoldSheets$Trays" 15 2 K_Gs_copyRow := ⟨by decide +kernel, Or.inr (gmemN 468 (by decide +kernel)), gmem 132 (by decide +kernel), gmem 71 (by decide +kernel), gmem 133 (by decide +kernel), by decide +kernel, by decide +kernel⟩
theorem lk_Do_52 : gLkV "GoldSheets$Dome" 52 1 K_Se_copyFrom := ⟨by decide +kernel, gmem 469 (by decide +kernel), gmem 470 (by decide +kernel), gmem 471 (by decide +kernel), gmem 74 (by decide +kernel), gmem 472 (by decide +kernel), by decide +kernel, by decide +kernel⟩
theorem lk_Se_15 : gLkS "GoldSheets$Sections" 15 2 K_Gs_copyRow := ⟨by decide +kernel, Or.inr (gmemN 473 (by decide +kernel)), gmem 132 (by decide +kernel), gmem 71 (by decide +kernel), gmem 133 (by decide +kernel), by decide +kernel, by decide +kernel⟩
theorem lk_Gs_130 : gLkV "GoldSheets" 130 0 K_Do_passDay := ⟨by decide +kernel, gmem 474 (by decide +kernel), gmem 475 (by decide +kernel), gmem 476 (by decide +kernel), gmem 72 (by decide +kernel), gmem 477 (by decide +kernel), by decide +kernel, by decide +kernel⟩
theorem lk_Do_113 : gLkV "GoldSheets$Dome" 113 1 K_Tr_tonesIn := ⟨by decide +kernel, gmem 478 (by decide +kernel), gmem 334 (by decide +kernel), gmem 335 (by decide +kernel), gmem 73 (by decide +kernel), gmem 336 (by decide +kernel), by decide +kernel, by decide +kernel⟩
theorem lk_Do_117 : gLkV "GoldSheets$Dome" 117 2 K_Tr_sortOut := ⟨by decide +kernel, gmem 479 (by decide +kernel), gmem 480 (by decide +kernel), gmem 481 (by decide +kernel), gmem 73 (by decide +kernel), gmem 482 (by decide +kernel), by decide +kernel, by decide +kernel⟩
theorem lk_Tr_42 : gLkV "GoldSheets$Trays" 42 1 K_Tr_mostOf := ⟨by decide +kernel, gmem 483 (by decide +kernel), gmem 485 (by decide +kernel), gmem 11 (by decide +kernel), gmem 73 (by decide +kernel), gmem 486 (by decide +kernel), by decide +kernel, by decide +kernel⟩
theorem lk_Tr_45 : gLkV "GoldSheets$Trays" 45 0 K_Tr_lowestEmpty := ⟨by decide +kernel, gmem 487 (by decide +kernel), gmem 489 (by decide +kernel), gmem 12 (by decide +kernel), gmem 73 (by decide +kernel), gmem 490 (by decide +kernel), by decide +kernel, by decide +kernel⟩
theorem lk_Tr_49 : gLkV "GoldSheets$Trays" 49 4 K_Tr_pour := ⟨by decide +kernel, gmem 491 (by decide +kernel), gmem 492 (by decide +kernel), gmem 493 (by decide +kernel), gmem 73 (by decide +kernel), gmem 494 (by decide +kernel), by decide +kernel, by decide +kernel⟩
theorem lk_Tr_38 : gLkV "GoldSheets$Trays" 38 3 K_Tr_change := ⟨by decide +kernel, gmem 496 (by decide +kernel), gmem 497 (by decide +kernel), gmem 498 (by decide +kernel), gmem 73 (by decide +kernel), gmem 499 (by decide +kernel), by decide +kernel, by decide +kernel⟩
theorem lk_Do_124 : gLkV "GoldSheets$Dome" 124 1 K_Do_canBeLaid := ⟨by decide +kernel, gmem 500 (by decide +kernel), gmem 502 (by decide +kernel), gmem 13 (by decide +kernel), gmem 72 (by decide +kernel), gmem 503 (by decide +kernel), by decide +kernel, by decide +kernel⟩
theorem lk_Do_103 : gLkV "GoldSheets$Dome" 103 2 K_Se_valueOf := ⟨by decide +kernel, gmem 504 (by decide +kernel), gmem 505 (by decide +kernel), gmem 506 (by decide +kernel), gmem 74 (by decide +kernel), gmem 507 (by decide +kernel), by decide +kernel, by decide +kernel⟩
theorem lk_Do_134 : gLkV "GoldSheets$Dome" 134 1 K_Tr_readyOf := ⟨by decide +kernel, gmem 508 (by decide +kernel), gmem 509 (by decide +kernel), gmem 510 (by decide +kernel), gmem 73 (by decide +kernel), gmem 511 (by decide +kernel), by decide +kernel, by decide +kernel⟩
theorem lk_Do_128 : gLkV "GoldSheets$Dome" 128 1 K_Do_layOnce := ⟨by decide +kernel, gmem 512 (by decide +kernel), gmem 514 (by decide +kernel), gmem 14 (by decide +kernel), gmem 72 (by decide +kernel), gmem 515 (by decide +kernel), by decide +kernel, by decide +kernel⟩
theorem lk_Do_137 : gLkV "GoldSheets$Dome" 137 1 K_Do_takenFor := ⟨by decide +kernel, gmem 516 (by decide +kernel), gmem 517 (by decide +kernel), gmem 518 (by decide +kernel), gmem 72 (by decide +kernel), gmem 519 (by decide +kernel), by decide +kernel, by decide +kernel⟩
theorem lk_Do_140 : gLkV "GoldSheets$Dome" 140 2 K_Tr_takeReady := ⟨by decide +kernel, gmem 521 (by decide +kernel), gmem 522 (by decide +kernel), gmem 523 (by decide +kernel), gmem 73 (by decide +kernel), gmem 524 (by decide +kernel), by decide +kernel, by decide +kernel⟩
theorem lk_Do_143 : gLkV "GoldSheets$Dome" 143 2 K_Se_lay := ⟨by decide +kernel, gmem 525 (by decide +kernel), gmem 526 (by decide +kernel), gmem 527 (by decide +kernel), gmem 74 (by decide +kernel), gmem 528 (by decide +kernel), by decide +kernel, by decide +kernel⟩
theorem lk_Se_26 : gLkV "GoldSheets$Sections" 26 2 K_Se_valueOf := ⟨by decide +kernel, gmem 529 (by decide +kernel), gmem 505 (by decide +kernel), gmem 506 (by decide +kernel), gmem 74 (by decide +kernel), gmem 507 (by decide +kernel), by decide +kernel, by decide +kernel⟩
theorem lk_Se_30 : gLkV "GoldSheets$Sections" 30 3 K_Se_put := ⟨by decide +kernel, gmem 530 (by decide +kernel), gmem 532 (by decide +kernel), gmem 15 (by decide +kernel), gmem 74 (by decide +kernel), gmem 533 (by decide +kernel), by decide +kernel, by decide +kernel⟩
theorem lk_Do_84 : gLkS "GoldSheets$Dome" 84 3 K_Gs_addAt := ⟨by decide +kernel, Or.inr (gmemN 534 (by decide +kernel)), gmem 535 (by decide +kernel), gmem 71 (by decide +kernel), gmem 536 (by decide +kernel), by decide +kernel, by decide +kernel⟩
theorem lk_Do_131 : gLkV "GoldSheets$Dome" 131 0 K_Do_dismissDone := ⟨by decide +kernel, gmem 537 (by decide +kernel), gmem 539 (by decide +kernel), gmem 16 (by decide +kernel), gmem 72 (by decide +kernel), gmem 540 (by decide +kernel), by decide +kernel, by decide +kernel⟩
theorem lk_Do_146 : gLkV "GoldSheets$Dome" 146 1 K_Do_countDone := ⟨by decide +kernel, gmem 541 (by decide +kernel), gmem 543 (by decide +kernel), gmem 17 (by decide +kernel), gmem 72 (by decide +kernel), gmem 544 (by decide +kernel), by decide +kernel, by decide +kernel⟩
theorem lk_Do_106 : gLkV "GoldSheets$Dome" 106 1 K_Se_remove := ⟨by decide +kernel, gmem 545 (by decide +kernel), gmem 546 (by decide +kernel), gmem 547 (by decide +kernel), gmem 74 (by decide +kernel), gmem 548 (by decide +kernel), by decide +kernel, by decide +kernel⟩
theorem lk_Do_99 : gLkV "GoldSheets$Dome" 99 1 K_Se_arrange := ⟨by decide +kernel, gmem 549 (by decide +kernel), gmem 550 (by decide +kernel), gmem 551 (by decide +kernel), gmem 74 (by decide +kernel), gmem 552 (by decide +kernel), by decide +kernel, by decide +kernel⟩
theorem lk_Se_34 : gLkV "GoldSheets$Sections" 34 3 K_Se_comesBefore := ⟨by decide +kernel, gmem 553 (by decide +kernel), gmem 555 (by decide +kernel), gmem 18 (by decide +kernel), gmem 74 (by decide +kernel), gmem 556 (by decide +kernel), by decide +kernel, by decide +kernel⟩
theorem lk_Se_38 : gLkV "GoldSheets$Sections" 38 2 K_Se_swap := ⟨by decide +kernel, gmem 557 (by decide +kernel), gmem 559 (by decide +kernel), gmem 19 (by decide +kernel), gmem 74 (by decide +kernel), gmem 560 (by decide +kernel), by decide +kernel, by decide +kernel⟩
theorem lk_Gs_302 : gLkV "GoldSheets" 302 1 K_Gs_noteDone := ⟨by decide +kernel, gmem 561 (by decide +kernel), gmem 563 (by decide +kernel), gmem 20 (by decide +kernel), gmem 71 (by decide +kernel), gmem 564 (by decide +kernel), by decide +kernel, by decide +kernel⟩
theorem lk_Gs_189 : gLkV "GoldSheets" 189 2 K_Se_valueOf := ⟨by decide +kernel, gmem 565 (by decide +kernel), gmem 505 (by decide +kernel), gmem 506 (by decide +kernel), gmem 74 (by decide +kernel), gmem 507 (by decide +kernel), by decide +kernel, by decide +kernel⟩
theorem lk_Gs_305 : gLkV "GoldSheets" 305 1 K_Se_placeOf := ⟨by decide +kernel, gmem 566 (by decide +kernel), gmem 567 (by decide +kernel), gmem 568 (by decide +kernel), gmem 74 (by decide +kernel), gmem 569 (by decide +kernel), by decide +kernel, by decide +kernel⟩
theorem lk_Gs_287 : gLkV "GoldSheets" 287 2 K_Gs_sectionOf := ⟨by decide +kernel, gmem 570 (by decide +kernel), gmem 571 (by decide +kernel), gmem 572 (by decide +kernel), gmem 71 (by decide +kernel), gmem 573 (by decide +kernel), by decide +kernel, by decide +kernel⟩
theorem lk_Gs_41 : gLkS "GoldSheets" 41 3 K_Gs_requireRange := ⟨by decide +kernel, Or.inl (gmem 575 (by decide +kernel)), gmem 576 (by decide +kernel), gmem 71 (by decide +kernel), gmem 577 (by decide +kernel), by decide +kernel, by decide +kernel⟩
theorem lk_Gs_261 : gLkV "GoldSheets" 261 1 K_Gs_hashOfTones := ⟨by decide +kernel, gmem 579 (by decide +kernel), gmem 581 (by decide +kernel), gmem 21 (by decide +kernel), gmem 71 (by decide +kernel), gmem 582 (by decide +kernel), by decide +kernel, by decide +kernel⟩
theorem lk_Gs_290 : gLkV "GoldSheets" 290 2 K_Gs_tone := ⟨by decide +kernel, gmem 583 (by decide +kernel), gmem 584 (by decide +kernel), gmem 585 (by decide +kernel), gmem 71 (by decide +kernel), gmem 586 (by decide +kernel), by decide +kernel, by decide +kernel⟩
theorem lk_Gs_192 : gLkV "GoldSheets" 192 1 K_Tr_heldOf := ⟨by decide +kernel, gmem 587 (by decide +kernel), gmem 588 (by decide +kernel), gmem 589 (by decide +kernel), gmem 73 (by decide +kernel), gmem 590 (by decide +kernel), by decide +kernel, by decide +kernel⟩
theorem lk_Gs_195 : gLkV "GoldSheets" 195 1 K_Tr_readyOf := ⟨by decide +kernel, gmem 591 (by decide +kernel), gmem 509 (by decide +kernel), gmem 510 (by decide +kernel), gmem 73 (by decide +kernel), gmem 511 (by decide +kernel), by decide +kernel, by decide +kernel⟩
theorem lk_Gs_204 : gLkV "GoldSheets" 204 1 K_Se_wantedOf := ⟨by decide +kernel, gmem 592 (by decide +kernel), gmem 593 (by decide +kernel), gmem 594 (by decide +kernel), gmem 74 (by decide +kernel), gmem 595 (by decide +kernel), by decide +kernel, by decide +kernel⟩
theorem lk_Gs_293 : gLkV "GoldSheets" 293 1 K_Gs_missing := ⟨by decide +kernel, gmem 597 (by decide +kernel), gmem 598 (by decide +kernel), gmem 599 (by decide +kernel), gmem 71 (by decide +kernel), gmem 600 (by decide +kernel), by decide +kernel, by decide +kernel⟩
theorem lk_Gs_235 : gLkV "GoldSheets" 235 1 K_Do_missingSheets := ⟨by decide +kernel, gmem 601 (by decide +kernel), gmem 602 (by decide +kernel), gmem 603 (by decide +kernel), gmem 72 (by decide +kernel), gmem 604 (by decide +kernel), by decide +kernel, by decide +kernel⟩
theorem lk_Do_109 : gLkS "GoldSheets$Dome" 109 2 K_Gs_valueAt := ⟨by decide +kernel, Or.inr (gmemN 605 (by decide +kernel)), gmem 433 (by decide +kernel), gmem 71 (by decide +kernel), gmem 434 (by decide +kernel), by decide +kernel, by decide +kernel⟩
theorem lk_Do_149 : gLkV "GoldSheets$Dome" 149 1 K_Tr_heldOf := ⟨by decide +kernel, gmem 606 (by decide +kernel), gmem 588 (by decide +kernel), gmem 589 (by decide +kernel), gmem 73 (by decide +kernel), gmem 590 (by decide +kernel), by decide +kernel, by decide +kernel⟩
theorem lk_Gs_264 : gLkV "GoldSheets" 264 1 K_Gs_taken := ⟨by decide +kernel, gmem 607 (by decide +kernel), gmem 608 (by decide +kernel), gmem 609 (by decide +kernel), gmem 71 (by decide +kernel), gmem 610 (by decide +kernel), by decide +kernel, by decide +kernel⟩
theorem lk_Gs_232 : gLkV "GoldSheets" 232 1 K_Do_takenFor := ⟨by decide +kernel, gmem 611 (by decide +kernel), gmem 517 (by decide +kernel), gmem 518 (by decide +kernel), gmem 72 (by decide +kernel), gmem 519 (by decide +kernel), by decide +kernel, by decide +kernel⟩
theorem lk_Gs_267 : gLkV "GoldSheets" 267 2 K_Gs_ifPassed := ⟨by decide +kernel, gmem 612 (by decide +kernel), gmem 613 (by decide +kernel), gmem 614 (by decide +kernel), gmem 71 (by decide +kernel), gmem 615 (by decide +kernel), by decide +kernel, by decide +kernel⟩
theorem lk_Gs_238 : gLkV "GoldSheets" 238 2 K_Gs_passTrial := ⟨by decide +kernel, gmem 616 (by decide +kernel), gmem 618 (by decide +kernel), gmem 22 (by decide +kernel), gmem 71 (by decide +kernel), gmem 619 (by decide +kernel), by decide +kernel, by decide +kernel⟩
theorem lk_Gs_115 : gLkV "GoldSheets" 115 2 K_Do_changeSetting := ⟨by decide +kernel, gmem 620 (by decide +kernel), gmem 621 (by decide +kernel), gmem 622 (by decide +kernel), gmem 72 (by decide +kernel), gmem 623 (by decide +kernel), by decide +kernel, by decide +kernel⟩
theorem lk_Gs_270 : gLkV "GoldSheets" 270 1 K_Gs_bestOrder := ⟨by decide +kernel, gmem 624 (by decide +kernel), gmem 625 (by decide +kernel), gmem 626 (by decide +kernel), gmem 71 (by decide +kernel), gmem 627 (by decide +kernel), by decide +kernel, by decide +kernel⟩
theorem lk_Gs_273 : gLkV "GoldSheets" 273 0 K_Gs_laidShare := ⟨by decide +kernel, gmem 628 (by decide +kernel), gmem 313 (by decide +kernel), gmem 314 (by decide +kernel), gmem 71 (by decide +kernel), gmem 315 (by decide +kernel), by decide +kernel, by decide +kernel⟩
theorem lk_Gs_277 : gLkS "GoldSheets" 277 1 K_Gs_bitsOf := ⟨by decide +kernel, Or.inl (gmem 629 (by decide +kernel)), gmem 630 (by decide +kernel), gmem 71 (by decide +kernel), gmem 631 (by decide +kernel), by decide +kernel, by decide +kernel⟩
theorem lk_Gs_281 : gLkV "GoldSheets" 281 1 K_Gs_hashOfText := ⟨by decide +kernel, gmem 635 (by decide +kernel), gmem 637 (by decide +kernel), gmem 23 (by decide +kernel), gmem 71 (by decide +kernel), gmem 638 (by decide +kernel), by decide +kernel, by decide +kernel⟩
theorem lk_Lw_86 : gLkS "GoldSheetsLaw" 86 4 K_Lw_store := ⟨by decide +kernel, Or.inl (gmem 639 (by decide +kernel)), gmem 640 (by decide +kernel), gmem 70 (by decide +kernel), gmem 641 (by decide +kernel), by decide +kernel, by decide +kernel⟩
theorem lk_Lw_7 : gLkV "GoldSheetsLaw" 7 2 K_Gs_store := ⟨by decide +kernel, gmem 645 (by decide +kernel), gmem 646 (by decide +kernel), gmem 647 (by decide +kernel), gmem 71 (by decide +kernel), gmem 648 (by decide +kernel), by decide +kernel, by decide +kernel⟩
theorem lk_Gs_59 : gLkV "GoldSheets" 59 1 K_Hi_save := ⟨by decide +kernel, gmem 665 (by decide +kernel), gmem 666 (by decide +kernel), gmem 667 (by decide +kernel), gmem 77 (by decide +kernel), gmem 668 (by decide +kernel), by decide +kernel, by decide +kernel⟩
theorem lk_Hi_22 : gLkV "GoldSheets$History" 22 0 K_Hi_dropOldest := ⟨by decide +kernel, gmem 669 (by decide +kernel), gmem 671 (by decide +kernel), gmem 24 (by decide +kernel), gmem 77 (by decide +kernel), gmem 672 (by decide +kernel), by decide +kernel, by decide +kernel⟩
theorem lk_Hi_25 : gLkV "GoldSheets$History" 25 1 K_Hi_slotAt := ⟨by decide +kernel, gmem 673 (by decide +kernel), gmem 675 (by decide +kernel), gmem 25 (by decide +kernel), gmem 77 (by decide +kernel), gmem 676 (by decide +kernel), by decide +kernel, by decide +kernel⟩
theorem lk_Hi_29 : gLkV "GoldSheets$History" 29 1 K_Do_copyFrom := ⟨by decide +kernel, gmem 677 (by decide +kernel), gmem 461 (by decide +kernel), gmem 462 (by decide +kernel), gmem 72 (by decide +kernel), gmem 463 (by decide +kernel), by decide +kernel, by decide +kernel⟩
theorem lk_Gs_63 : gLkS "GoldSheets" 63 3 K_Gs_addAt := ⟨by decide +kernel, Or.inl (gmem 678 (by decide +kernel)), gmem 535 (by decide +kernel), gmem 71 (by decide +kernel), gmem 536 (by decide +kernel), by decide +kernel, by decide +kernel⟩
theorem lk_Lw_95 : gLkS "GoldSheetsLaw" 95 4 K_Lw_cut := ⟨by decide +kernel, Or.inl (gmem 679 (by decide +kernel)), gmem 680 (by decide +kernel), gmem 70 (by decide +kernel), gmem 681 (by decide +kernel), by decide +kernel, by decide +kernel⟩
theorem lk_Lw_19 : gLkV "GoldSheetsLaw" 19 2 K_Gs_cut := ⟨by decide +kernel, gmem 682 (by decide +kernel), gmem 683 (by decide +kernel), gmem 684 (by decide +kernel), gmem 71 (by decide +kernel), gmem 685 (by decide +kernel), by decide +kernel, by decide +kernel⟩
theorem lk_Gs_69 : gLkV "GoldSheets" 69 2 K_Do_cutSheet := ⟨by decide +kernel, gmem 687 (by decide +kernel), gmem 688 (by decide +kernel), gmem 689 (by decide +kernel), gmem 72 (by decide +kernel), gmem 690 (by decide +kernel), by decide +kernel, by decide +kernel⟩
theorem lk_Do_71 : gLkV "GoldSheets$Dome" 71 2 K_Tr_freeIn := ⟨by decide +kernel, gmem 691 (by decide +kernel), gmem 692 (by decide +kernel), gmem 693 (by decide +kernel), gmem 73 (by decide +kernel), gmem 694 (by decide +kernel), by decide +kernel, by decide +kernel⟩
theorem lk_Tr_23 : gLkV "GoldSheets$Trays" 23 1 K_Tr_heldInAll := ⟨by decide +kernel, gmem 695 (by decide +kernel), gmem 444 (by decide +kernel), gmem 445 (by decide +kernel), gmem 73 (by decide +kernel), gmem 446 (by decide +kernel), by decide +kernel, by decide +kernel⟩
theorem lk_Do_80 : gLkV "GoldSheets$Dome" 80 3 K_Tr_change := ⟨by decide +kernel, gmem 699 (by decide +kernel), gmem 497 (by decide +kernel), gmem 498 (by decide +kernel), gmem 73 (by decide +kernel), gmem 499 (by decide +kernel), by decide +kernel, by decide +kernel⟩
theorem lk_Lw_98 : gLkS "GoldSheetsLaw" 98 4 K_Lw_tip := ⟨by decide +kernel, Or.inl (gmem 700 (by decide +kernel)), gmem 701 (by decide +kernel), gmem 70 (by decide +kernel), gmem 702 (by decide +kernel), by decide +kernel, by decide +kernel⟩
theorem lk_Lw_22 : gLkV "GoldSheetsLaw" 22 2 K_Gs_tip := ⟨by decide +kernel, gmem 703 (by decide +kernel), gmem 704 (by decide +kernel), gmem 705 (by decide +kernel), gmem 71 (by decide +kernel), gmem 706 (by decide +kernel), by decide +kernel, by decide +kernel⟩
theorem lk_Gs_78 : gLkV "GoldSheets" 78 2 K_Do_tipTray := ⟨by decide +kernel, gmem 708 (by decide +kernel), gmem 709 (by decide +kernel), gmem 710 (by decide +kernel), gmem 72 (by decide +kernel), gmem 711 (by decide +kernel), by decide +kernel, by decide +kernel⟩
theorem lk_Do_88 : gLkV "GoldSheets$Dome" 88 4 K_Tr_pour := ⟨by decide +kernel, gmem 712 (by decide +kernel), gmem 492 (by decide +kernel), gmem 493 (by decide +kernel), gmem 73 (by decide +kernel), gmem 494 (by decide +kernel), by decide +kernel, by decide +kernel⟩
theorem lk_Lw_101 : gLkS "GoldSheetsLaw" 101 3 K_Lw_sweep := ⟨by decide +kernel, Or.inl (gmem 713 (by decide +kernel)), gmem 714 (by decide +kernel), gmem 70 (by decide +kernel), gmem 715 (by decide +kernel), by decide +kernel, by decide +kernel⟩
theorem lk_Lw_25 : gLkV "GoldSheetsLaw" 25 1 K_Gs_sweep := ⟨by decide +kernel, gmem 716 (by decide +kernel), gmem 717 (by decide +kernel), gmem 718 (by decide +kernel), gmem 71 (by decide +kernel), gmem 719 (by decide +kernel), by decide +kernel, by decide +kernel⟩
theorem lk_Gs_81 : gLkV "GoldSheets" 81 1 K_Do_sweepTray := ⟨by decide +kernel, gmem 720 (by decide +kernel), gmem 721 (by decide +kernel), gmem 722 (by decide +kernel), gmem 72 (by decide +kernel), gmem 723 (by decide +kernel), by decide +kernel, by decide +kernel⟩
theorem lk_Do_92 : gLkV "GoldSheets$Dome" 92 2 K_Tr_clear := ⟨by decide +kernel, gmem 724 (by decide +kernel), gmem 725 (by decide +kernel), gmem 726 (by decide +kernel), gmem 73 (by decide +kernel), gmem 727 (by decide +kernel), by decide +kernel, by decide +kernel⟩
theorem lk_Lw_105 : gLkS "GoldSheetsLaw" 105 5 K_Lw_section := ⟨by decide +kernel, Or.inl (gmem 728 (by decide +kernel)), gmem 729 (by decide +kernel), gmem 70 (by decide +kernel), gmem 730 (by decide +kernel), by decide +kernel, by decide +kernel⟩
theorem lk_Lw_29 : gLkV "GoldSheetsLaw" 29 3 K_Gs_section := ⟨by decide +kernel, gmem 731 (by decide +kernel), gmem 732 (by decide +kernel), gmem 733 (by decide +kernel), gmem 71 (by decide +kernel), gmem 734 (by decide +kernel), by decide +kernel, by decide +kernel⟩
theorem lk_Gs_97 : gLkV "GoldSheets" 97 3 K_Do_addSection := ⟨by decide +kernel, gmem 736 (by decide +kernel), gmem 737 (by decide +kernel), gmem 738 (by decide +kernel), gmem 72 (by decide +kernel), gmem 739 (by decide +kernel), by decide +kernel, by decide +kernel⟩
theorem lk_Do_95 : gLkV "GoldSheets$Dome" 95 3 K_Se_add := ⟨by decide +kernel, gmem 740 (by decide +kernel), gmem 741 (by decide +kernel), gmem 742 (by decide +kernel), gmem 74 (by decide +kernel), gmem 743 (by decide +kernel), by decide +kernel, by decide +kernel⟩
theorem lk_Lw_109 : gLkS "GoldSheetsLaw" 109 3 K_Lw_drop := ⟨by decide +kernel, Or.inl (gmem 744 (by decide +kernel)), gmem 745 (by decide +kernel), gmem 70 (by decide +kernel), gmem 746 (by decide +kernel), by decide +kernel, by decide +kernel⟩
theorem lk_Lw_33 : gLkV "GoldSheetsLaw" 33 1 K_Gs_drop := ⟨by decide +kernel, gmem 747 (by decide +kernel), gmem 748 (by decide +kernel), gmem 749 (by decide +kernel), gmem 71 (by decide +kernel), gmem 750 (by decide +kernel), by decide +kernel, by decide +kernel⟩
theorem lk_Gs_101 : gLkV "GoldSheets" 101 1 K_Gs_requireSection := ⟨by decide +kernel, gmem 751 (by decide +kernel), gmem 753 (by decide +kernel), gmem 26 (by decide +kernel), gmem 71 (by decide +kernel), gmem 754 (by decide +kernel), by decide +kernel, by decide +kernel⟩
theorem lk_Gs_104 : gLkV "GoldSheets" 104 1 K_Do_dropSection := ⟨by decide +kernel, gmem 756 (by decide +kernel), gmem 757 (by decide +kernel), gmem 758 (by decide +kernel), gmem 72 (by decide +kernel), gmem 759 (by decide +kernel), by decide +kernel, by decide +kernel⟩
theorem lk_Lw_112 : gLkS "GoldSheetsLaw" 112 4 K_Lw_set := ⟨by decide +kernel, Or.inl (gmem 760 (by decide +kernel)), gmem 761 (by decide +kernel), gmem 70 (by decide +kernel), gmem 762 (by decide +kernel), by decide +kernel, by decide +kernel⟩
theorem lk_Lw_36 : gLkV "GoldSheetsLaw" 36 2 K_Gs_set := ⟨by decide +kernel, gmem 763 (by decide +kernel), gmem 764 (by decide +kernel), gmem 765 (by decide +kernel), gmem 71 (by decide +kernel), gmem 766 (by decide +kernel), by decide +kernel, by decide +kernel⟩
theorem lk_Lw_115 : gLkS "GoldSheetsLaw" 115 3 K_Lw_pass := ⟨by decide +kernel, Or.inl (gmem 772 (by decide +kernel)), gmem 773 (by decide +kernel), gmem 70 (by decide +kernel), gmem 774 (by decide +kernel), by decide +kernel, by decide +kernel⟩
theorem lk_Lw_39 : gLkV "GoldSheetsLaw" 39 1 K_Gs_pass := ⟨by decide +kernel, gmem 775 (by decide +kernel), gmem 776 (by decide +kernel), gmem 777 (by decide +kernel), gmem 71 (by decide +kernel), gmem 778 (by decide +kernel), by decide +kernel, by decide +kernel⟩
theorem lk_Lw_118 : gLkS "GoldSheetsLaw" 118 3 K_Lw_append := ⟨by decide +kernel, Or.inl (gmem 780 (by decide +kernel)), gmem 781 (by decide +kernel), gmem 70 (by decide +kernel), gmem 782 (by decide +kernel), by decide +kernel, by decide +kernel⟩
theorem lk_Lw_42 : gLkV "GoldSheetsLaw" 42 1 K_Gs_append := ⟨by decide +kernel, gmem 783 (by decide +kernel), gmem 784 (by decide +kernel), gmem 785 (by decide +kernel), gmem 71 (by decide +kernel), gmem 786 (by decide +kernel), by decide +kernel, by decide +kernel⟩
theorem lk_Gs_138 : gLkV "GoldSheets" 138 1 K_Tx_add := ⟨by decide +kernel, gmem 788 (by decide +kernel), gmem 789 (by decide +kernel), gmem 790 (by decide +kernel), gmem 78 (by decide +kernel), gmem 791 (by decide +kernel), by decide +kernel, by decide +kernel⟩
theorem lk_Lw_129 : gLkS "GoldSheetsLaw" 129 2 K_Lw_addAll := ⟨by decide +kernel, Or.inl (gmem 792 (by decide +kernel)), gmem 793 (by decide +kernel), gmem 70 (by decide +kernel), gmem 794 (by decide +kernel), by decide +kernel, by decide +kernel⟩
theorem lk_Lw_45 : gLkV "GoldSheetsLaw" 45 0 K_Gs_addAll := ⟨by decide +kernel, gmem 795 (by decide +kernel), gmem 796 (by decide +kernel), gmem 797 (by decide +kernel), gmem 71 (by decide +kernel), gmem 798 (by decide +kernel), by decide +kernel, by decide +kernel⟩
theorem lk_Gs_149 : gLkV "GoldSheets" 149 0 K_Tx_readSections := ⟨by decide +kernel, gmem 799 (by decide +kernel), gmem 800 (by decide +kernel), gmem 801 (by decide +kernel), gmem 78 (by decide +kernel), gmem 802 (by decide +kernel), by decide +kernel, by decide +kernel⟩
theorem lk_Tx_38 : gLkV "GoldSheets$SectionText" 38 0 K_Tx_read := ⟨by decide +kernel, gmem 803 (by decide +kernel), gmem 278 (by decide +kernel), gmem 279 (by decide +kernel), gmem 78 (by decide +kernel), gmem 280 (by decide +kernel), by decide +kernel, by decide +kernel⟩
theorem lk_Lw_133 : gLkS "GoldSheetsLaw" 133 2 K_Lw_undo := ⟨by decide +kernel, Or.inl (gmem 806 (by decide +kernel)), gmem 807 (by decide +kernel), gmem 70 (by decide +kernel), gmem 808 (by decide +kernel), by decide +kernel, by decide +kernel⟩
theorem lk_Lw_49 : gLkV "GoldSheetsLaw" 49 0 K_Gs_undo := ⟨by decide +kernel, gmem 809 (by decide +kernel), gmem 810 (by decide +kernel), gmem 811 (by decide +kernel), gmem 71 (by decide +kernel), gmem 812 (by decide +kernel), by decide +kernel, by decide +kernel⟩
theorem lk_Gs_172 : gLkV "GoldSheets" 172 1 K_Hi_restoreTo := ⟨by decide +kernel, gmem 814 (by decide +kernel), gmem 815 (by decide +kernel), gmem 816 (by decide +kernel), gmem 77 (by decide +kernel), gmem 817 (by decide +kernel), by decide +kernel, by decide +kernel⟩
theorem lk_Lw_136 : gLkS "GoldSheetsLaw" 136 4 K_Lw_tray := ⟨by decide +kernel, Or.inl (gmem 818 (by decide +kernel)), gmem 819 (by decide +kernel), gmem 70 (by decide +kernel), gmem 820 (by decide +kernel), by decide +kernel, by decide +kernel⟩
theorem lk_Lw_52 : gLkV "GoldSheetsLaw" 52 2 K_Gs_tray := ⟨by decide +kernel, gmem 821 (by decide +kernel), gmem 440 (by decide +kernel), gmem 441 (by decide +kernel), gmem 71 (by decide +kernel), gmem 442 (by decide +kernel), by decide +kernel, by decide +kernel⟩
theorem lk_Lw_139 : gLkS "GoldSheetsLaw" 139 4 K_Lw_sectionOf := ⟨by decide +kernel, Or.inl (gmem 822 (by decide +kernel)), gmem 823 (by decide +kernel), gmem 70 (by decide +kernel), gmem 824 (by decide +kernel), by decide +kernel, by decide +kernel⟩
theorem lk_Lw_55 : gLkV "GoldSheetsLaw" 55 2 K_Gs_sectionOf := ⟨by decide +kernel, gmem 825 (by decide +kernel), gmem 571 (by decide +kernel), gmem 572 (by decide +kernel), gmem 71 (by decide +kernel), gmem 573 (by decide +kernel), by decide +kernel, by decide +kernel⟩
theorem lk_Lw_142 : gLkS "GoldSheetsLaw" 142 4 K_Lw_tone := ⟨by decide +kernel, Or.inl (gmem 826 (by decide +kernel)), gmem 827 (by decide +kernel), gmem 70 (by decide +kernel), gmem 828 (by decide +kernel), by decide +kernel, by decide +kernel⟩
theorem lk_Lw_58 : gLkV "GoldSheetsLaw" 58 2 K_Gs_tone := ⟨by decide +kernel, gmem 829 (by decide +kernel), gmem 584 (by decide +kernel), gmem 585 (by decide +kernel), gmem 71 (by decide +kernel), gmem 586 (by decide +kernel), by decide +kernel, by decide +kernel⟩
theorem lk_Lw_145 : gLkS "GoldSheetsLaw" 145 3 K_Lw_count := ⟨by decide +kernel, Or.inl (gmem 830 (by decide +kernel)), gmem 831 (by decide +kernel), gmem 70 (by decide +kernel), gmem 832 (by decide +kernel), by decide +kernel, by decide +kernel⟩
theorem lk_Lw_61 : gLkV "GoldSheetsLaw" 61 1 K_Gs_count := ⟨by decide +kernel, gmem 833 (by decide +kernel), gmem 326 (by decide +kernel), gmem 327 (by decide +kernel), gmem 71 (by decide +kernel), gmem 328 (by decide +kernel), by decide +kernel, by decide +kernel⟩
theorem lk_Lw_148 : gLkS "GoldSheetsLaw" 148 3 K_Lw_setting := ⟨by decide +kernel, Or.inl (gmem 834 (by decide +kernel)), gmem 835 (by decide +kernel), gmem 70 (by decide +kernel), gmem 836 (by decide +kernel), by decide +kernel, by decide +kernel⟩
theorem lk_Lw_64 : gLkV "GoldSheetsLaw" 64 1 K_Gs_setting := ⟨by decide +kernel, gmem 837 (by decide +kernel), gmem 410 (by decide +kernel), gmem 411 (by decide +kernel), gmem 71 (by decide +kernel), gmem 412 (by decide +kernel), by decide +kernel, by decide +kernel⟩
theorem lk_Lw_151 : gLkS "GoldSheetsLaw" 151 3 K_Lw_taken := ⟨by decide +kernel, Or.inl (gmem 838 (by decide +kernel)), gmem 839 (by decide +kernel), gmem 70 (by decide +kernel), gmem 840 (by decide +kernel), by decide +kernel, by decide +kernel⟩
theorem lk_Lw_67 : gLkV "GoldSheetsLaw" 67 1 K_Gs_taken := ⟨by decide +kernel, gmem 841 (by decide +kernel), gmem 608 (by decide +kernel), gmem 609 (by decide +kernel), gmem 71 (by decide +kernel), gmem 610 (by decide +kernel), by decide +kernel, by decide +kernel⟩
theorem lk_Lw_154 : gLkS "GoldSheetsLaw" 154 3 K_Lw_missing := ⟨by decide +kernel, Or.inl (gmem 842 (by decide +kernel)), gmem 843 (by decide +kernel), gmem 70 (by decide +kernel), gmem 844 (by decide +kernel), by decide +kernel, by decide +kernel⟩
theorem lk_Lw_70 : gLkV "GoldSheetsLaw" 70 1 K_Gs_missing := ⟨by decide +kernel, gmem 845 (by decide +kernel), gmem 598 (by decide +kernel), gmem 599 (by decide +kernel), gmem 71 (by decide +kernel), gmem 600 (by decide +kernel), by decide +kernel, by decide +kernel⟩
theorem lk_Lw_157 : gLkS "GoldSheetsLaw" 157 4 K_Lw_ifPassed := ⟨by decide +kernel, Or.inl (gmem 846 (by decide +kernel)), gmem 847 (by decide +kernel), gmem 70 (by decide +kernel), gmem 848 (by decide +kernel), by decide +kernel, by decide +kernel⟩
theorem lk_Lw_73 : gLkV "GoldSheetsLaw" 73 2 K_Gs_ifPassed := ⟨by decide +kernel, gmem 849 (by decide +kernel), gmem 613 (by decide +kernel), gmem 614 (by decide +kernel), gmem 71 (by decide +kernel), gmem 615 (by decide +kernel), by decide +kernel, by decide +kernel⟩
theorem lk_Lw_160 : gLkS "GoldSheetsLaw" 160 3 K_Lw_doneIn := ⟨by decide +kernel, Or.inl (gmem 850 (by decide +kernel)), gmem 851 (by decide +kernel), gmem 70 (by decide +kernel), gmem 852 (by decide +kernel), by decide +kernel, by decide +kernel⟩
theorem lk_Lw_76 : gLkV "GoldSheetsLaw" 76 1 K_Gs_doneIn := ⟨by decide +kernel, gmem 853 (by decide +kernel), gmem 854 (by decide +kernel), gmem 855 (by decide +kernel), gmem 71 (by decide +kernel), gmem 856 (by decide +kernel), by decide +kernel, by decide +kernel⟩
theorem lk_Lw_163 : gLkS "GoldSheetsLaw" 163 3 K_Lw_bestOrder := ⟨by decide +kernel, Or.inl (gmem 857 (by decide +kernel)), gmem 858 (by decide +kernel), gmem 70 (by decide +kernel), gmem 859 (by decide +kernel), by decide +kernel, by decide +kernel⟩
theorem lk_Lw_79 : gLkV "GoldSheetsLaw" 79 1 K_Gs_bestOrder := ⟨by decide +kernel, gmem 860 (by decide +kernel), gmem 625 (by decide +kernel), gmem 626 (by decide +kernel), gmem 71 (by decide +kernel), gmem 627 (by decide +kernel), by decide +kernel, by decide +kernel⟩
theorem lk_Lw_85 : gLkI "GoldSheetsLaw" 85 0 K_Mo_init := ⟨by decide +kernel, Or.inl (gmem 863 (by decide +kernel)), gmem 864 (by decide +kernel), gmem 79 (by decide +kernel), gmem 865 (by decide +kernel), by decide +kernel, by decide +kernel, by decide +kernel⟩
theorem lk_Lw_92 : gLkV "GoldSheetsLaw" 92 0 K_Mo_thrown := ⟨by decide +kernel, gmem 910 (by decide +kernel), gmem 911 (by decide +kernel), gmem 912 (by decide +kernel), gmem 79 (by decide +kernel), gmem 913 (by decide +kernel), by decide +kernel, by decide +kernel⟩
theorem lk_Lw_135 : gLkV "GoldSheetsLaw" 135 0 K_Mo_undo := ⟨by decide +kernel, gmem 914 (by decide +kernel), gmem 915 (by decide +kernel), gmem 916 (by decide +kernel), gmem 79 (by decide +kernel), gmem 917 (by decide +kernel), by decide +kernel, by decide +kernel⟩
theorem lk_Lw_91 : gLkV "GoldSheetsLaw" 91 2 K_Mo_store := ⟨by decide +kernel, gmem 918 (by decide +kernel), gmem 919 (by decide +kernel), gmem 920 (by decide +kernel), gmem 79 (by decide +kernel), gmem 921 (by decide +kernel), by decide +kernel, by decide +kernel⟩
theorem lk_Mo_58 : gLkS "GoldSheetsModel" 58 1 K_Mo_isTone := ⟨by decide +kernel, Or.inl (gmem 922 (by decide +kernel)), gmem 923 (by decide +kernel), gmem 79 (by decide +kernel), gmem 924 (by decide +kernel), by decide +kernel, by decide +kernel⟩
theorem lk_Mo_32 : gLkS "GoldSheetsModel" 32 3 K_Mo_in := ⟨by decide +kernel, Or.inl (gmem 925 (by decide +kernel)), gmem 926 (by decide +kernel), gmem 79 (by decide +kernel), gmem 927 (by decide +kernel), by decide +kernel, by decide +kernel⟩
theorem lk_Mo_62 : gLkV "GoldSheetsModel" 62 0 K_Mo_save := ⟨by decide +kernel, gmem 928 (by decide +kernel), gmem 930 (by decide +kernel), gmem 27 (by decide +kernel), gmem 79 (by decide +kernel), gmem 931 (by decide +kernel), by decide +kernel, by decide +kernel⟩
theorem lk_Lw_97 : gLkV "GoldSheetsLaw" 97 2 K_Mo_cut := ⟨by decide +kernel, gmem 932 (by decide +kernel), gmem 933 (by decide +kernel), gmem 934 (by decide +kernel), gmem 79 (by decide +kernel), gmem 935 (by decide +kernel), by decide +kernel, by decide +kernel⟩
theorem lk_Mo_65 : gLkS "GoldSheetsModel" 65 1 K_Mo_isTray := ⟨by decide +kernel, Or.inl (gmem 936 (by decide +kernel)), gmem 937 (by decide +kernel), gmem 79 (by decide +kernel), gmem 938 (by decide +kernel), by decide +kernel, by decide +kernel⟩
theorem lk_Mo_47 : gLkV "GoldSheetsModel" 47 1 K_Mo_room := ⟨by decide +kernel, gmem 939 (by decide +kernel), gmem 941 (by decide +kernel), gmem 28 (by decide +kernel), gmem 79 (by decide +kernel), gmem 942 (by decide +kernel), by decide +kernel, by decide +kernel⟩
theorem lk_Mo_43 : gLkV "GoldSheetsModel" 43 1 K_Mo_inTray := ⟨by decide +kernel, gmem 943 (by decide +kernel), gmem 945 (by decide +kernel), gmem 29 (by decide +kernel), gmem 79 (by decide +kernel), gmem 946 (by decide +kernel), by decide +kernel, by decide +kernel⟩
theorem lk_Mo_39 : gLkV "GoldSheetsModel" 39 2 K_Mo_cubes := ⟨by decide +kernel, gmem 947 (by decide +kernel), gmem 949 (by decide +kernel), gmem 30 (by decide +kernel), gmem 79 (by decide +kernel), gmem 950 (by decide +kernel), by decide +kernel, by decide +kernel⟩
theorem lk_Lw_100 : gLkV "GoldSheetsLaw" 100 2 K_Mo_tip := ⟨by decide +kernel, gmem 951 (by decide +kernel), gmem 952 (by decide +kernel), gmem 953 (by decide +kernel), gmem 79 (by decide +kernel), gmem 954 (by decide +kernel), by decide +kernel, by decide +kernel⟩
theorem lk_Mo_54 : gLkV "GoldSheetsModel" 54 3 K_Mo_pour := ⟨by decide +kernel, gmem 955 (by decide +kernel), gmem 957 (by decide +kernel), gmem 31 (by decide +kernel), gmem 79 (by decide +kernel), gmem 958 (by decide +kernel), by decide +kernel, by decide +kernel⟩
theorem lk_Lw_104 : gLkV "GoldSheetsLaw" 104 1 K_Mo_sweep := ⟨by decide +kernel, gmem 959 (by decide +kernel), gmem 960 (by decide +kernel), gmem 961 (by decide +kernel), gmem 79 (by decide +kernel), gmem 962 (by decide +kernel), by decide +kernel, by decide +kernel⟩
theorem lk_Lw_108 : gLkV "GoldSheetsLaw" 108 3 K_Mo_section := ⟨by decide +kernel, gmem 963 (by decide +kernel), gmem 964 (by decide +kernel), gmem 965 (by decide +kernel), gmem 79 (by decide +kernel), gmem 966 (by decide +kernel), by decide +kernel, by decide +kernel⟩
theorem lk_Mo_72 : gLkV "GoldSheetsModel" 72 3 K_Mo_sectionAdded := ⟨by decide +kernel, gmem 967 (by decide +kernel), gmem 969 (by decide +kernel), gmem 32 (by decide +kernel), gmem 79 (by decide +kernel), gmem 970 (by decide +kernel), by decide +kernel, by decide +kernel⟩
theorem lk_Mo_68 : gLkV "GoldSheetsModel" 68 3 K_Mo_lay := ⟨by decide +kernel, gmem 971 (by decide +kernel), gmem 973 (by decide +kernel), gmem 33 (by decide +kernel), gmem 79 (by decide +kernel), gmem 974 (by decide +kernel), by decide +kernel, by decide +kernel⟩
theorem lk_Lw_111 : gLkV "GoldSheetsLaw" 111 1 K_Mo_drop := ⟨by decide +kernel, gmem 975 (by decide +kernel), gmem 976 (by decide +kernel), gmem 977 (by decide +kernel), gmem 79 (by decide +kernel), gmem 978 (by decide +kernel), by decide +kernel, by decide +kernel⟩
theorem lk_Mo_78 : gLkV "GoldSheetsModel" 78 1 K_Mo_placeOf := ⟨by decide +kernel, gmem 979 (by decide +kernel), gmem 981 (by decide +kernel), gmem 34 (by decide +kernel), gmem 79 (by decide +kernel), gmem 982 (by decide +kernel), by decide +kernel, by decide +kernel⟩
theorem lk_Mo_75 : gLkV "GoldSheetsModel" 75 2 K_Mo_its := ⟨by decide +kernel, gmem 983 (by decide +kernel), gmem 985 (by decide +kernel), gmem 35 (by decide +kernel), gmem 79 (by decide +kernel), gmem 986 (by decide +kernel), by decide +kernel, by decide +kernel⟩
theorem lk_Mo_81 : gLkV "GoldSheetsModel" 81 1 K_Mo_takeOut := ⟨by decide +kernel, gmem 987 (by decide +kernel), gmem 989 (by decide +kernel), gmem 36 (by decide +kernel), gmem 79 (by decide +kernel), gmem 990 (by decide +kernel), by decide +kernel, by decide +kernel⟩
theorem lk_Lw_114 : gLkV "GoldSheetsLaw" 114 2 K_Mo_set := ⟨by decide +kernel, gmem 991 (by decide +kernel), gmem 992 (by decide +kernel), gmem 993 (by decide +kernel), gmem 79 (by decide +kernel), gmem 994 (by decide +kernel), by decide +kernel, by decide +kernel⟩
theorem lk_Mo_85 : gLkS "GoldSheetsModel" 85 2 K_Mo_isValue := ⟨by decide +kernel, Or.inl (gmem 995 (by decide +kernel)), gmem 996 (by decide +kernel), gmem 79 (by decide +kernel), gmem 997 (by decide +kernel), by decide +kernel, by decide +kernel⟩
theorem lk_Lw_117 : gLkV "GoldSheetsLaw" 117 1 K_Mo_pass := ⟨by decide +kernel, gmem 998 (by decide +kernel), gmem 999 (by decide +kernel), gmem 1000 (by decide +kernel), gmem 79 (by decide +kernel), gmem 1001 (by decide +kernel), by decide +kernel, by decide +kernel⟩
theorem lk_Mo_126 : gLkV "GoldSheetsModel" 126 1 K_Mo_days := ⟨by decide +kernel, gmem 1002 (by decide +kernel), gmem 1004 (by decide +kernel), gmem 37 (by decide +kernel), gmem 79 (by decide +kernel), gmem 1005 (by decide +kernel), by decide +kernel, by decide +kernel⟩
theorem lk_Mo_123 : gLkV "GoldSheetsModel" 123 0 K_Mo_work := ⟨by decide +kernel, gmem 1006 (by decide +kernel), gmem 1008 (by decide +kernel), gmem 38 (by decide +kernel), gmem 79 (by decide +kernel), gmem 1009 (by decide +kernel), by decide +kernel, by decide +kernel⟩
theorem lk_Mo_95 : gLkV "GoldSheetsModel" 95 1 K_Mo_tonesIn := ⟨by decide +kernel, gmem 1010 (by decide +kernel), gmem 1012 (by decide +kernel), gmem 39 (by decide +kernel), gmem 79 (by decide +kernel), gmem 1013 (by decide +kernel), by decide +kernel, by decide +kernel⟩
theorem lk_Mo_111 : gLkV "GoldSheetsModel" 111 1 K_Mo_sort := ⟨by decide +kernel, gmem 1014 (by decide +kernel), gmem 1016 (by decide +kernel), gmem 40 (by decide +kernel), gmem 79 (by decide +kernel), gmem 1017 (by decide +kernel), by decide +kernel, by decide +kernel⟩
theorem lk_Mo_50 : gLkV "GoldSheetsModel" 50 0 K_Mo_emptyTray := ⟨by decide +kernel, gmem 1018 (by decide +kernel), gmem 1020 (by decide +kernel), gmem 41 (by decide +kernel), gmem 79 (by decide +kernel), gmem 1021 (by decide +kernel), by decide +kernel, by decide +kernel⟩
theorem lk_Mo_114 : gLkV "GoldSheetsModel" 114 0 K_Mo_layOrder := ⟨by decide +kernel, gmem 1022 (by decide +kernel), gmem 1024 (by decide +kernel), gmem 42 (by decide +kernel), gmem 79 (by decide +kernel), gmem 1025 (by decide +kernel), by decide +kernel, by decide +kernel⟩
theorem lk_Mo_89 : gLkV "GoldSheetsModel" 89 2 K_Mo_isAhead := ⟨by decide +kernel, gmem 1026 (by decide +kernel), gmem 1028 (by decide +kernel), gmem 43 (by decide +kernel), gmem 79 (by decide +kernel), gmem 1029 (by decide +kernel), by decide +kernel, by decide +kernel⟩
theorem lk_Mo_117 : gLkV "GoldSheetsModel" 117 1 K_Mo_workOn := ⟨by decide +kernel, gmem 1030 (by decide +kernel), gmem 1032 (by decide +kernel), gmem 44 (by decide +kernel), gmem 79 (by decide +kernel), gmem 1033 (by decide +kernel), by decide +kernel, by decide +kernel⟩
theorem lk_Mo_101 : gLkV "GoldSheetsModel" 101 2 K_Mo_inTrays := ⟨by decide +kernel, gmem 1034 (by decide +kernel), gmem 1036 (by decide +kernel), gmem 45 (by decide +kernel), gmem 79 (by decide +kernel), gmem 1037 (by decide +kernel), by decide +kernel, by decide +kernel⟩
theorem lk_Mo_108 : gLkV "GoldSheetsModel" 108 1 K_Mo_layCubes := ⟨by decide +kernel, gmem 1038 (by decide +kernel), gmem 1040 (by decide +kernel), gmem 46 (by decide +kernel), gmem 79 (by decide +kernel), gmem 1041 (by decide +kernel), by decide +kernel, by decide +kernel⟩
theorem lk_Mo_98 : gLkV "GoldSheetsModel" 98 1 K_Mo_takenFor := ⟨by decide +kernel, gmem 1042 (by decide +kernel), gmem 1044 (by decide +kernel), gmem 47 (by decide +kernel), gmem 79 (by decide +kernel), gmem 1045 (by decide +kernel), by decide +kernel, by decide +kernel⟩
theorem lk_Mo_92 : gLkV "GoldSheetsModel" 92 1 K_Mo_broken := ⟨by decide +kernel, gmem 1046 (by decide +kernel), gmem 1048 (by decide +kernel), gmem 48 (by decide +kernel), gmem 79 (by decide +kernel), gmem 1049 (by decide +kernel), by decide +kernel, by decide +kernel⟩
theorem lk_Mo_120 : gLkV "GoldSheetsModel" 120 0 K_Mo_endDone := ⟨by decide +kernel, gmem 1050 (by decide +kernel), gmem 1052 (by decide +kernel), gmem 49 (by decide +kernel), gmem 79 (by decide +kernel), gmem 1053 (by decide +kernel), by decide +kernel, by decide +kernel⟩
theorem lk_Lw_120 : gLkV "GoldSheetsLaw" 120 1 K_Mo_append := ⟨by decide +kernel, gmem 1054 (by decide +kernel), gmem 1055 (by decide +kernel), gmem 1056 (by decide +kernel), gmem 79 (by decide +kernel), gmem 1057 (by decide +kernel), by decide +kernel, by decide +kernel⟩
theorem lk_Lw_124 : gLkV "GoldSheetsLaw" 124 0 K_Mo_clearBuffer := ⟨by decide +kernel, gmem 1058 (by decide +kernel), gmem 1059 (by decide +kernel), gmem 1060 (by decide +kernel), gmem 79 (by decide +kernel), gmem 1061 (by decide +kernel), by decide +kernel, by decide +kernel⟩
theorem lk_Lw_128 : gLkV "GoldSheetsLaw" 128 0 K_Mo_firstError := ⟨by decide +kernel, gmem 1062 (by decide +kernel), gmem 1063 (by decide +kernel), gmem 1064 (by decide +kernel), gmem 79 (by decide +kernel), gmem 1065 (by decide +kernel), by decide +kernel, by decide +kernel⟩
theorem lk_Mo_154 : gLkV "GoldSheetsModel" 154 0 K_Mo_readBuffer := ⟨by decide +kernel, gmem 1066 (by decide +kernel), gmem 1068 (by decide +kernel), gmem 50 (by decide +kernel), gmem 79 (by decide +kernel), gmem 1069 (by decide +kernel), by decide +kernel, by decide +kernel⟩
theorem lk_Mo_151 : gLkV "GoldSheetsModel" 151 0 K_Mo_readPart := ⟨by decide +kernel, gmem 1070 (by decide +kernel), gmem 1072 (by decide +kernel), gmem 51 (by decide +kernel), gmem 79 (by decide +kernel), gmem 1073 (by decide +kernel), by decide +kernel, by decide +kernel⟩
theorem lk_Mo_148 : gLkV "GoldSheetsModel" 148 2 K_Mo_number := ⟨by decide +kernel, gmem 1074 (by decide +kernel), gmem 1076 (by decide +kernel), gmem 52 (by decide +kernel), gmem 79 (by decide +kernel), gmem 1077 (by decide +kernel), by decide +kernel, by decide +kernel⟩
theorem lk_Mo_138 : gLkV "GoldSheetsModel" 138 0 K_Mo_letter := ⟨by decide +kernel, gmem 1078 (by decide +kernel), gmem 1080 (by decide +kernel), gmem 53 (by decide +kernel), gmem 79 (by decide +kernel), gmem 1081 (by decide +kernel), by decide +kernel, by decide +kernel⟩
theorem lk_Mo_141 : gLkV "GoldSheetsModel" 141 1 K_Mo_wants := ⟨by decide +kernel, gmem 1082 (by decide +kernel), gmem 1084 (by decide +kernel), gmem 54 (by decide +kernel), gmem 79 (by decide +kernel), gmem 1085 (by decide +kernel), by decide +kernel, by decide +kernel⟩
theorem lk_Lw_132 : gLkV "GoldSheetsLaw" 132 0 K_Mo_addAll := ⟨by decide +kernel, gmem 1086 (by decide +kernel), gmem 1087 (by decide +kernel), gmem 1088 (by decide +kernel), gmem 79 (by decide +kernel), gmem 1089 (by decide +kernel), by decide +kernel, by decide +kernel⟩
theorem lk_Lw_138 : gLkV "GoldSheetsLaw" 138 2 K_Mo_tray := ⟨by decide +kernel, gmem 1090 (by decide +kernel), gmem 1091 (by decide +kernel), gmem 1092 (by decide +kernel), gmem 79 (by decide +kernel), gmem 1093 (by decide +kernel), by decide +kernel, by decide +kernel⟩
theorem lk_Lw_141 : gLkV "GoldSheetsLaw" 141 2 K_Mo_sectionOf := ⟨by decide +kernel, gmem 1094 (by decide +kernel), gmem 1095 (by decide +kernel), gmem 1096 (by decide +kernel), gmem 79 (by decide +kernel), gmem 1097 (by decide +kernel), by decide +kernel, by decide +kernel⟩
theorem lk_Mo_157 : gLkV "GoldSheetsModel" 157 2 K_Mo_toldSection := ⟨by decide +kernel, gmem 1098 (by decide +kernel), gmem 1100 (by decide +kernel), gmem 55 (by decide +kernel), gmem 79 (by decide +kernel), gmem 1101 (by decide +kernel), by decide +kernel, by decide +kernel⟩
theorem lk_Lw_144 : gLkV "GoldSheetsLaw" 144 2 K_Mo_tone := ⟨by decide +kernel, gmem 1102 (by decide +kernel), gmem 1103 (by decide +kernel), gmem 1104 (by decide +kernel), gmem 79 (by decide +kernel), gmem 1105 (by decide +kernel), by decide +kernel, by decide +kernel⟩
theorem lk_Mo_163 : gLkV "GoldSheetsModel" 163 2 K_Mo_toldTone := ⟨by decide +kernel, gmem 1106 (by decide +kernel), gmem 1108 (by decide +kernel), gmem 56 (by decide +kernel), gmem 79 (by decide +kernel), gmem 1109 (by decide +kernel), by decide +kernel, by decide +kernel⟩
theorem lk_Mo_160 : gLkV "GoldSheetsModel" 160 1 K_Mo_wanted := ⟨by decide +kernel, gmem 1110 (by decide +kernel), gmem 1112 (by decide +kernel), gmem 57 (by decide +kernel), gmem 79 (by decide +kernel), gmem 1113 (by decide +kernel), by decide +kernel, by decide +kernel⟩
theorem lk_Lw_147 : gLkV "GoldSheetsLaw" 147 1 K_Mo_count := ⟨by decide +kernel, gmem 1114 (by decide +kernel), gmem 1115 (by decide +kernel), gmem 1116 (by decide +kernel), gmem 79 (by decide +kernel), gmem 1117 (by decide +kernel), by decide +kernel, by decide +kernel⟩
theorem lk_Mo_173 : gLkV "GoldSheetsModel" 173 1 K_Mo_counted := ⟨by decide +kernel, gmem 1118 (by decide +kernel), gmem 1120 (by decide +kernel), gmem 58 (by decide +kernel), gmem 79 (by decide +kernel), gmem 1121 (by decide +kernel), by decide +kernel, by decide +kernel⟩
theorem lk_Mo_166 : gLkV "GoldSheetsModel" 166 1 K_Mo_trays := ⟨by decide +kernel, gmem 1122 (by decide +kernel), gmem 1124 (by decide +kernel), gmem 59 (by decide +kernel), gmem 79 (by decide +kernel), gmem 1125 (by decide +kernel), by decide +kernel, by decide +kernel⟩
theorem lk_Mo_170 : gLkV "GoldSheetsModel" 170 1 K_Mo_allOf := ⟨by decide +kernel, gmem 1126 (by decide +kernel), gmem 1128 (by decide +kernel), gmem 60 (by decide +kernel), gmem 79 (by decide +kernel), gmem 1129 (by decide +kernel), by decide +kernel, by decide +kernel⟩
theorem lk_Lw_150 : gLkV "GoldSheetsLaw" 150 1 K_Mo_setting := ⟨by decide +kernel, gmem 1130 (by decide +kernel), gmem 1131 (by decide +kernel), gmem 1132 (by decide +kernel), gmem 79 (by decide +kernel), gmem 1133 (by decide +kernel), by decide +kernel, by decide +kernel⟩
theorem lk_Lw_153 : gLkV "GoldSheetsLaw" 153 1 K_Mo_taken := ⟨by decide +kernel, gmem 1134 (by decide +kernel), gmem 1135 (by decide +kernel), gmem 1136 (by decide +kernel), gmem 79 (by decide +kernel), gmem 1137 (by decide +kernel), by decide +kernel, by decide +kernel⟩
theorem lk_Lw_156 : gLkV "GoldSheetsLaw" 156 1 K_Mo_missing := ⟨by decide +kernel, gmem 1138 (by decide +kernel), gmem 1139 (by decide +kernel), gmem 1140 (by decide +kernel), gmem 79 (by decide +kernel), gmem 1141 (by decide +kernel), by decide +kernel, by decide +kernel⟩
theorem lk_Mo_176 : gLkV "GoldSheetsModel" 176 1 K_Mo_lacks := ⟨by decide +kernel, gmem 1142 (by decide +kernel), gmem 1144 (by decide +kernel), gmem 61 (by decide +kernel), gmem 79 (by decide +kernel), gmem 1145 (by decide +kernel), by decide +kernel, by decide +kernel⟩
theorem lk_Lw_159 : gLkV "GoldSheetsLaw" 159 2 K_Mo_ifPassed := ⟨by decide +kernel, gmem 1146 (by decide +kernel), gmem 1147 (by decide +kernel), gmem 1148 (by decide +kernel), gmem 79 (by decide +kernel), gmem 1149 (by decide +kernel), by decide +kernel, by decide +kernel⟩
theorem lk_Mo_185 : gLkV "GoldSheetsModel" 185 2 K_Mo_wouldPass := ⟨by decide +kernel, gmem 1150 (by decide +kernel), gmem 1152 (by decide +kernel), gmem 62 (by decide +kernel), gmem 79 (by decide +kernel), gmem 1153 (by decide +kernel), by decide +kernel, by decide +kernel⟩
theorem lk_Mo_179 : gLkV "GoldSheetsModel" 179 0 K_Mo_putAside := ⟨by decide +kernel, gmem 1154 (by decide +kernel), gmem 1156 (by decide +kernel), gmem 63 (by decide +kernel), gmem 79 (by decide +kernel), gmem 1157 (by decide +kernel), by decide +kernel, by decide +kernel⟩
theorem lk_Mo_182 : gLkV "GoldSheetsModel" 182 0 K_Mo_bringBack := ⟨by decide +kernel, gmem 1158 (by decide +kernel), gmem 1160 (by decide +kernel), gmem 64 (by decide +kernel), gmem 79 (by decide +kernel), gmem 1161 (by decide +kernel), by decide +kernel, by decide +kernel⟩
theorem lk_Lw_162 : gLkV "GoldSheetsLaw" 162 1 K_Mo_doneIn := ⟨by decide +kernel, gmem 1162 (by decide +kernel), gmem 1163 (by decide +kernel), gmem 1164 (by decide +kernel), gmem 79 (by decide +kernel), gmem 1165 (by decide +kernel), by decide +kernel, by decide +kernel⟩
theorem lk_Mo_188 : gLkV "GoldSheetsModel" 188 1 K_Mo_daysTo := ⟨by decide +kernel, gmem 1166 (by decide +kernel), gmem 1168 (by decide +kernel), gmem 65 (by decide +kernel), gmem 79 (by decide +kernel), gmem 1169 (by decide +kernel), by decide +kernel, by decide +kernel⟩
theorem lk_Lw_165 : gLkV "GoldSheetsLaw" 165 1 K_Mo_bestOrder := ⟨by decide +kernel, gmem 1170 (by decide +kernel), gmem 1171 (by decide +kernel), gmem 1172 (by decide +kernel), gmem 79 (by decide +kernel), gmem 1173 (by decide +kernel), by decide +kernel, by decide +kernel⟩
theorem lk_Mo_191 : gLkV "GoldSheetsModel" 191 1 K_Mo_bestFor := ⟨by decide +kernel, gmem 1174 (by decide +kernel), gmem 1176 (by decide +kernel), gmem 66 (by decide +kernel), gmem 79 (by decide +kernel), gmem 1177 (by decide +kernel), by decide +kernel, by decide +kernel⟩
theorem lk_Lw_170 : gLkV "GoldSheetsLaw" 170 0 K_Mo_laidShare := ⟨by decide +kernel, gmem 1178 (by decide +kernel), gmem 1179 (by decide +kernel), gmem 1180 (by decide +kernel), gmem 79 (by decide +kernel), gmem 1181 (by decide +kernel), by decide +kernel, by decide +kernel⟩
theorem lk_Mo_194 : gLkV "GoldSheetsModel" 194 0 K_Mo_share := ⟨by decide +kernel, gmem 1182 (by decide +kernel), gmem 1184 (by decide +kernel), gmem 67 (by decide +kernel), gmem 79 (by decide +kernel), gmem 1185 (by decide +kernel), by decide +kernel, by decide +kernel⟩
theorem lk_Lw_175 : gLkV "GoldSheetsLaw" 175 0 K_Mo_digest := ⟨by decide +kernel, gmem 1186 (by decide +kernel), gmem 1187 (by decide +kernel), gmem 1188 (by decide +kernel), gmem 79 (by decide +kernel), gmem 1189 (by decide +kernel), by decide +kernel, by decide +kernel⟩
theorem lk_Mo_212 : gLkV "GoldSheetsModel" 212 1 K_Mo_mix := ⟨by decide +kernel, gmem 1191 (by decide +kernel), gmem 1193 (by decide +kernel), gmem 68 (by decide +kernel), gmem 79 (by decide +kernel), gmem 1194 (by decide +kernel), by decide +kernel, by decide +kernel⟩
theorem lk_Mo_218 : gLkV "GoldSheetsModel" 218 0 K_Mo_mixSections := ⟨by decide +kernel, gmem 1196 (by decide +kernel), gmem 1198 (by decide +kernel), gmem 69 (by decide +kernel), gmem 79 (by decide +kernel), gmem 1199 (by decide +kernel), by decide +kernel, by decide +kernel⟩
theorem lk_Mo_221 : gLkS "GoldSheetsModel" 221 1 K_Mo_bitsOf := ⟨by decide +kernel, Or.inl (gmem 1200 (by decide +kernel)), gmem 1201 (by decide +kernel), gmem 79 (by decide +kernel), gmem 1202 (by decide +kernel), by decide +kernel, by decide +kernel⟩
def gLc (o i : Nat) : Option Int64 := match o, i with
  | 5, 244 => some 3023
  | 5, 246 => some 31
  | 5, 317 => some 1023
  | 6, 216 => some 3023
  | 6, 206 => some 31
  | 6, 198 => some 1023
  | 6, 204 => some 4503599627370496
  | _, _ => none
def gDc (o i : Nat) : Option UInt64 := match o, i with
  | 5, 319 => some 4611686018427387904
  | 5, 321 => some 4841369599423283200
  | 6, 200 => some 4611686018427387904
  | 6, 202 => some 4841369599423283200
  | _, _ => none
theorem gLc_ok {o i : Nat} {x : Int64} (h : gLc o i = some x) : Cond.constantLong (gown o) i x ∈ gTs := by
  unfold gLc at h
  split at h
  · cases h; exact gmem 323 (by decide +kernel)
  · cases h; exact gmem 324 (by decide +kernel)
  · cases h; exact gmem 632 (by decide +kernel)
  · cases h; exact gmem 1190 (by decide +kernel)
  · cases h; exact gmem 1195 (by decide +kernel)
  · cases h; exact gmem 1203 (by decide +kernel)
  · cases h; exact gmem 1206 (by decide +kernel)
  · cases h
theorem gDc_ok {o i : Nat} {x : UInt64} (h : gDc o i = some x) : Cond.constantDouble (gown o) i x ∈ gTs := by
  unfold gDc at h
  split at h
  · cases h; exact gmem 633 (by decide +kernel)
  · cases h; exact gmem 634 (by decide +kernel)
  · cases h; exact gmem 1204 (by decide +kernel)
  · cases h; exact gmem 1205 (by decide +kernel)
  · cases h
/-- the written texts: class, pool index, text -/
def gStr : List (String × Nat × String) := [("GoldSheets", 227, "there is no such number"), ("GoldSheets", 313, "there is none of this number"), ("GoldSheets", 187, "a place is not below 0"), ("GoldSheets", 315, "a value is out of range"), ("GoldSheets", 207, "a tone has no such number"), ("GoldSheets", 54, "the store would have too many sheets"), ("GoldSheets", 67, "the store has no sheet of the tone"), ("GoldSheets", 75, "both trays are the same"), ("GoldSheets", 95, "there are as many sections as there may be"), ("GoldSheets", 310, "there is no such section"), ("GoldSheets", 113, "not every cube can break"), ("GoldSheets", 121, "the day would be above the last one"), ("GoldSheets", 136, "the buffer is full"), ("GoldSheets", 153, "the buffer is not complete sections as a text"), ("GoldSheets", 158, "there would be too many sections"), ("GoldSheets", 170, "there is no saved state")]
theorem gStr_in : ∀ q ∈ gStr, Cond.stringRef q.1 q.2.1 q.2.2 ∈ lw_tbl := by
  unfold gStr
  exact List.forall_mem_cons.mpr ⟨List.mem_of_getElem? (i := 382) (by decide +kernel), List.forall_mem_cons.mpr ⟨List.mem_of_getElem? (i := 425) (by decide +kernel), List.forall_mem_cons.mpr ⟨List.mem_of_getElem? (i := 574) (by decide +kernel), List.forall_mem_cons.mpr ⟨List.mem_of_getElem? (i := 578) (by decide +kernel), List.forall_mem_cons.mpr ⟨List.mem_of_getElem? (i := 596) (by decide +kernel), List.forall_mem_cons.mpr ⟨List.mem_of_getElem? (i := 658) (by decide +kernel), List.forall_mem_cons.mpr ⟨List.mem_of_getElem? (i := 686) (by decide +kernel), List.forall_mem_cons.mpr ⟨List.mem_of_getElem? (i := 707) (by decide +kernel), List.forall_mem_cons.mpr ⟨List.mem_of_getElem? (i := 735) (by decide +kernel), List.forall_mem_cons.mpr ⟨List.mem_of_getElem? (i := 755) (by decide +kernel), List.forall_mem_cons.mpr ⟨List.mem_of_getElem? (i := 771) (by decide +kernel), List.forall_mem_cons.mpr ⟨List.mem_of_getElem? (i := 779) (by decide +kernel), List.forall_mem_cons.mpr ⟨List.mem_of_getElem? (i := 787) (by decide +kernel), List.forall_mem_cons.mpr ⟨List.mem_of_getElem? (i := 804) (by decide +kernel), List.forall_mem_cons.mpr ⟨List.mem_of_getElem? (i := 805) (by decide +kernel), List.forall_mem_cons.mpr ⟨List.mem_of_getElem? (i := 813) (by decide +kernel), fun _ h => absurd h List.not_mem_nil⟩⟩⟩⟩⟩⟩⟩⟩⟩⟩⟩⟩⟩⟩⟩⟩
