/-! names, fields, links and methods of the claim by their places in the tables: printed by wip/whole/names.py -/
def gTs : List Cond := lw_tbl.filter goodWord
theorem gmem {w : Cond} (i : Nat) (h : (decide (lw_tbl[i]? = some w) && goodWord w) = true) : w ∈ gTs := by
  simp only [Bool.and_eq_true, decide_eq_true_eq] at h
  exact List.mem_filter.mpr ⟨List.mem_of_getElem? h.1, h.2⟩
theorem gmems (ws : List Cond) (ps : List Nat) (h : (decide (ws.map some = ps.map (fun i => lw_tbl[i]?)) && ws.all goodWord) = true) : ∀ w ∈ ws, w ∈ gTs := by
  simp only [Bool.and_eq_true, decide_eq_true_eq] at h
  intro w hw
  have h1 : some w ∈ ps.map (fun i => lw_tbl[i]?) := by rw [← h.1]; exact List.mem_map_of_mem hw
  obtain ⟨i, -, hi⟩ := List.mem_map.mp h1
  exact List.mem_filter.mpr ⟨List.mem_of_getElem? hi, List.all_eq_true.mp h.2 w hw⟩
def gIsN (w : Cond) : Bool := match w with | .fieldLinkNest .. => true | .methodLinkNest .. => true | .castable .. => true | .declares .. => true | _ => false
def gNs : List Cond := lw_tbl.filter gIsN
theorem gmemN {w : Cond} (i : Nat) (h : (decide (lw_tbl[i]? = some w) && gIsN w) = true) : w ∈ gNs := by
  simp only [Bool.and_eq_true, decide_eq_true_eq] at h
  exact List.mem_filter.mpr ⟨List.mem_of_getElem? h.1, h.2⟩
theorem gNs_warm {s U : State} (hW : s.WarmedH U.vm) (h : ∀ w ∈ gNs, va_Nw w s) : ∀ w ∈ gNs, va_Nw w U := by
  intro w hw
  have h1 := h w hw
  have h2 := (List.mem_filter.mp hw).2
  cases w with
  | fieldLinkNest a b c d e f => exact va_Nw.warmF hW h1
  | methodLinkNest a b c d => exact va_Nw.warmM hW h1
  | castable a b => exact va_Nw.warmC hW h1
  | declares a => exact va_Nw.warmD hW h1
  | _ => cases h2
theorem gNs_of {args : Array Value} {s : State} (h : ∀ w ∈ lw_tbl, w.before args s = true) : ∀ w ∈ gNs, va_Nw w s := by
  intro w hw
  have h1 := h w (List.mem_filter.mp hw).1
  have h2 := (List.mem_filter.mp hw).2
  cases w with
  | fieldLinkNest a b c d e f => exact va_Nw.of rfl h1
  | methodLinkNest a b c d => exact va_Nw.of rfl h1
  | castable a b => exact va_Nw.of rfl h1
  | declares a => exact va_Nw.of rfl h1
  | _ => cases h2
theorem gNs_use {args : Array Value} {s : State} (h : ∀ w ∈ gNs, va_Nw w s) : ∀ w ∈ gNs, w.before args s = true := by
  intro w hw
  have h1 := h w hw
  have h2 := (List.mem_filter.mp hw).2
  cases w with
  | fieldLinkNest a b c d e f => exact va_Nw.use rfl h1
  | methodLinkNest a b c d => exact va_Nw.use rfl h1
  | castable a b => exact va_Nw.use rfl h1
  | declares a => exact va_Nw.use rfl h1
  | _ => cases h2
theorem gTs_good : GoodIn lw_tbl gTs := fun w hw => ⟨(List.mem_filter.mp hw).1, good_of_word (List.mem_filter.mp hw).2⟩
theorem gTs_self : GoodIn gTs gTs := fun w hw => ⟨hw, good_of_word (List.mem_filter.mp hw).2⟩
def gown (i : Nat) : String := match i with
  | 0 => "GoldSheets$Trays"
  | 1 => "GoldSheets$Sections"
  | 2 => "GoldSheets$Dome"
  | 3 => "GoldSheets$History"
  | 4 => "GoldSheets$SectionText"
  | 5 => "GoldSheets"
  | 6 => "GoldSheets"
  | _ => "GoldSheetsLaw"
def gTTr : u_T := fun k => match k with
  | _ => ("GoldSheets$Trays", "cubes", "[I", true)
def gTSe : u_T := fun k => match k with
  | 0 => ("GoldSheets$Sections", "cells", "[I", true)
  | 1 => ("GoldSheets$Sections", "size", "I", false)
  | _ => ("GoldSheets$Sections", "came", "I", false)
def gTDo : u_T := fun k => match k with
  | 0 => ("GoldSheets$Dome", "trays", "LGoldSheets$Trays;", true)
  | 1 => ("GoldSheets$Dome", "sections", "LGoldSheets$Sections;", true)
  | 2 => ("GoldSheets$Dome", "settings", "[I", true)
  | 3 => ("GoldSheets$Dome", "sheets", "[I", true)
  | 4 => ("GoldSheets$Dome", "cut", "[I", true)
  | 5 => ("GoldSheets$Dome", "laid", "[I", true)
  | 6 => ("GoldSheets$Dome", "swept", "[I", true)
  | 7 => ("GoldSheets$Dome", "day", "I", false)
  | 8 => ("GoldSheets$Dome", "done", "I", false)
  | 9 => ("GoldSheets$Dome", "late", "I", false)
  | 10 => ("GoldSheets$Dome", "lateDays", "I", false)
  | _ => ("GoldSheets$Dome", "sorted", "I", false)
def gTHi : u_T := fun k => match k with
  | 0 => ("GoldSheets$History", "saved", "[LGoldSheets$Dome;", true)
  | _ => ("GoldSheets$History", "size", "I", false)
def gTTx : u_T := fun k => match k with
  | 0 => ("GoldSheets$SectionText", "codes", "[I", true)
  | 1 => ("GoldSheets$SectionText", "length", "I", false)
  | 2 => ("GoldSheets$SectionText", "tones", "[I", true)
  | 3 => ("GoldSheets$SectionText", "cubes", "[I", true)
  | 4 => ("GoldSheets$SectionText", "days", "[I", true)
  | 5 => ("GoldSheets$SectionText", "parts", "I", false)
  | 6 => ("GoldSheets$SectionText", "stage", "I", false)
  | 7 => ("GoldSheets$SectionText", "partTone", "I", false)
  | 8 => ("GoldSheets$SectionText", "partCubes", "I", false)
  | _ => ("GoldSheets$SectionText", "partDay", "I", false)
def gTGs : u_T := fun k => match k with
  | 0 => ("GoldSheets", "dome", "LGoldSheets$Dome;", true)
  | 1 => ("GoldSheets", "trial", "LGoldSheets$Dome;", true)
  | 2 => ("GoldSheets", "history", "LGoldSheets$History;", true)
  | 3 => ("GoldSheets", "text", "LGoldSheets$SectionText;", true)
  | _ => ("GoldSheets", "doneBehind", "[I", true)
def gTMo : u_T := fun k => match k with
  | 0 => ("GoldSheets", "dome", "LGoldSheets$Dome;", true)
  | 1 => ("GoldSheets", "trial", "LGoldSheets$Dome;", true)
  | 2 => ("GoldSheets", "history", "LGoldSheets$History;", true)
  | 3 => ("GoldSheets", "text", "LGoldSheets$SectionText;", true)
  | _ => ("GoldSheets", "doneBehind", "[I", true)
def gTt (i : Nat) : u_T := match i with
  | 0 => gTTr
  | 1 => gTSe
  | 2 => gTDo
  | 3 => gTHi
  | 4 => gTTx
  | 5 => gTGs
  | _ => gTMo
def gNn (i : Nat) : Nat := match i with
  | 0 => 1
  | 1 => 3
  | 2 => 12
  | 3 => 2
  | 4 => 10
  | 5 => 5
  | _ => 5
abbrev gcl : List vw_C := [(gown 0, gTTr, 1), (gown 1, gTSe, 3), (gown 2, gTDo, 12), (gown 3, gTHi, 2), (gown 4, gTTx, 10), (gown 5, gTGs, 5), (gown 6, gTMo, 5)]
theorem gcl_at {i : Nat} (h : i < 7) : gcl[i]? = some (gown i, gTt i, gNn i) := by
  rcases (show i = 0 ∨ i = 1 ∨ i = 2 ∨ i = 3 ∨ i = 4 ∨ i = 5 ∨ i = 6 by omega) with rfl | rfl | rfl | rfl | rfl | rfl | rfl <;> rfl
theorem ginTr : ∀ w ∈ u_ws (gown 0) gTTr 1, w ∈ gTs := gmems _ [49] (by decide +kernel)
theorem ginSe : ∀ w ∈ u_ws (gown 1) gTSe 3, w ∈ gTs := gmems _ [64, 66, 68] (by decide +kernel)
theorem ginDo : ∀ w ∈ u_ws (gown 2) gTDo 12, w ∈ gTs := gmems _ [106, 108, 110, 112, 114, 116, 118, 120, 122, 124, 126, 128] (by decide +kernel)
theorem ginHi : ∀ w ∈ u_ws (gown 3) gTHi 2, w ∈ gTs := gmems _ [143, 145] (by decide +kernel)
theorem ginTx : ∀ w ∈ u_ws (gown 4) gTTx 10, w ∈ gTs := gmems _ [158, 160, 162, 164, 166, 168, 170, 172, 174, 176] (by decide +kernel)
theorem ginGs : ∀ w ∈ u_ws (gown 5) gTGs 5, w ∈ gTs := gmems _ [184, 186, 188, 190, 192] (by decide +kernel)
theorem ginMo : ∀ w ∈ u_ws (gown 6) gTMo 5, w ∈ gTs := gmems _ [184, 186, 188, 190, 192] (by decide +kernel)
theorem gin {i : Nat} (h : i < 7) : ∀ w ∈ u_ws (gown i) (gTt i) (gNn i), w ∈ gTs := by
  rcases (show i = 0 ∨ i = 1 ∨ i = 2 ∨ i = 3 ∨ i = 4 ∨ i = 5 ∨ i = 6 by omega) with rfl | rfl | rfl | rfl | rfl | rfl | rfl
  · exact ginTr
  · exact ginSe
  · exact ginDo
  · exact ginHi
  · exact ginTx
  · exact ginGs
  · exact ginMo
def gyTr : Nat → FieldType := fun k => match k with
  | _ => (.array .int)
def gySe : Nat → FieldType := fun k => match k with
  | 0 => (.array .int)
  | 1 => .int
  | _ => .int
def gyDo : Nat → FieldType := fun k => match k with
  | 0 => (.object "GoldSheets$Trays")
  | 1 => (.object "GoldSheets$Sections")
  | 2 => (.array .int)
  | 3 => (.array .int)
  | 4 => (.array .int)
  | 5 => (.array .int)
  | 6 => (.array .int)
  | 7 => .int
  | 8 => .int
  | 9 => .int
  | 10 => .int
  | _ => .int
def gyHi : Nat → FieldType := fun k => match k with
  | 0 => (.array (.object "GoldSheets$Dome"))
  | _ => .int
def gyTx : Nat → FieldType := fun k => match k with
  | 0 => (.array .int)
  | 1 => .int
  | 2 => (.array .int)
  | 3 => (.array .int)
  | 4 => (.array .int)
  | 5 => .int
  | 6 => .int
  | 7 => .int
  | 8 => .int
  | _ => .int
def gyGs : Nat → FieldType := fun k => match k with
  | 0 => (.object "GoldSheets$Dome")
  | 1 => (.object "GoldSheets$Dome")
  | 2 => (.object "GoldSheets$History")
  | 3 => (.object "GoldSheets$SectionText")
  | _ => (.array .int)
def gyMo : Nat → FieldType := fun k => match k with
  | 0 => (.object "GoldSheets$Dome")
  | 1 => (.object "GoldSheets$Dome")
  | 2 => (.object "GoldSheets$History")
  | 3 => (.object "GoldSheets$SectionText")
  | _ => (.array .int)
def gyt (i : Nat) : Nat → FieldType := match i with
  | 0 => gyTr
  | 1 => gySe
  | 2 => gyDo
  | 3 => gyHi
  | 4 => gyTx
  | 5 => gyGs
  | _ => gyMo
theorem gty {i : Nat} (h : i < 7) : ∀ k, k < gNn i → parseFieldDescriptor (gTt i k).2.2.1 = some (gyt i k) := by
  rcases (show i = 0 ∨ i = 1 ∨ i = 2 ∨ i = 3 ∨ i = 4 ∨ i = 5 ∨ i = 6 by omega) with rfl | rfl | rfl | rfl | rfl | rfl | rfl <;> decide +kernel
theorem gnm {i : Nat} (h : i < 7) : ∀ a, a < gNn i → ∀ b, b < gNn i → a ≠ b → (gTt i a).2.1 ≠ (gTt i b).2.1 := by
  rcases (show i = 0 ∨ i = 1 ∨ i = 2 ∨ i = 3 ∨ i = 4 ∨ i = 5 ∨ i = 6 by omega) with rfl | rfl | rfl | rfl | rfl | rfl | rfl <;> decide +kernel
/-- a field link: own class, pool index, class, field -/
abbrev gFR : Type := Nat × Nat × Nat × Nat
def gFok (r : gFR) : Prop := (Cond.fieldLink (gown r.1) r.2.1 (gown r.2.2.1) (gTt r.2.2.1 r.2.2.2).2.1 (gTt r.2.2.1 r.2.2.2).2.2.1 ∈ gTs ∨ (r.1 ≠ r.2.2.1 ∧ Cond.fieldLinkNest (gown r.1) r.2.1 (gown r.2.2.1) (gTt r.2.2.1 r.2.2.2).2.1 (gTt r.2.2.1 r.2.2.2).2.2.1 "GoldSheets" ∈ gNs)) ∧ r.2.2.1 < 7 ∧ r.2.2.2 < gNn r.2.2.1 ∧ (gTt r.2.2.1 r.2.2.2).1 = gown r.2.2.1
def gFTr : List (Nat × Nat × Nat) := [(9, 0, 0)]
def gFSe : List (Nat × Nat × Nat) := [(9, 1, 0), (19, 1, 1), (23, 1, 2)]
def gFDo : List (Nat × Nat × Nat) := [(121, 1, 1), (12, 2, 0), (21, 2, 1), (25, 2, 2), (29, 2, 3), (32, 2, 4), (35, 2, 5), (38, 2, 6), (55, 2, 7), (59, 2, 8), (62, 2, 9), (65, 2, 10), (68, 2, 11)]
def gFHi : List (Nat × Nat × Nat) := [(11, 3, 0), (18, 3, 1)]
def gFTx : List (Nat × Nat × Nat) := [(11, 4, 0), (15, 4, 2), (18, 4, 3), (21, 4, 4)]
def gFGs : List (Nat × Nat × Nat) := [(89, 1, 1), (175, 2, 0), (85, 2, 1), (229, 2, 2), (45, 2, 3), (198, 2, 4), (123, 2, 5), (201, 2, 6), (118, 2, 7), (209, 2, 8), (212, 2, 9), (215, 2, 10), (224, 2, 11), (169, 3, 1), (10, 5, 0), (16, 5, 1), (22, 5, 2), (29, 5, 3), (33, 5, 4)]
def gFl (o : Nat) : List (Nat × Nat × Nat) := match o with
  | 0 => gFTr
  | 1 => gFSe
  | 2 => gFDo
  | 3 => gFHi
  | 4 => gFTx
  | 5 => gFGs
  | _ => []
def gfind (i : Nat) : List (Nat × Nat × Nat) → Option (Nat × Nat) | [] => none | q :: r => cond (Nat.beq q.1 i) (some q.2) (gfind i r)
theorem gfind_mem {i : Nat} {x : Nat × Nat} : ∀ {l : List (Nat × Nat × Nat)}, gfind i l = some x → (i, x) ∈ l
  | [], h => nomatch h
  | q :: r, h => by
    unfold gfind at h
    cases hb : Nat.beq q.1 i with
    | true =>
      rw [hb] at h
      have h1 : q.2 = x := Option.some.inj h
      have h2 : q.1 = i := Nat.eq_of_beq_eq_true hb
      rw [← h1, ← h2]
      exact List.mem_cons_self
    | false =>
      rw [hb] at h
      exact List.mem_cons_of_mem _ (gfind_mem h)
theorem gfk_0_9 : gFok (0, 9, 0, 0) := ⟨Or.inl (gmem 48 (by decide +kernel)), by decide, by decide, by decide +kernel⟩
theorem gfoTr : ∀ q ∈ gFTr, gFok (0, q) := by
  unfold gFTr
  exact List.forall_mem_cons.mpr ⟨gfk_0_9, fun _ h => absurd h List.not_mem_nil⟩
theorem gfk_1_9 : gFok (1, 9, 1, 0) := ⟨Or.inl (gmem 59 (by decide +kernel)), by decide, by decide, by decide +kernel⟩
theorem gfk_1_19 : gFok (1, 19, 1, 1) := ⟨Or.inl (gmem 60 (by decide +kernel)), by decide, by decide, by decide +kernel⟩
theorem gfk_1_23 : gFok (1, 23, 1, 2) := ⟨Or.inl (gmem 63 (by decide +kernel)), by decide, by decide, by decide +kernel⟩
theorem gfoSe : ∀ q ∈ gFSe, gFok (1, q) := by
  unfold gFSe
  exact List.forall_mem_cons.mpr ⟨gfk_1_9, List.forall_mem_cons.mpr ⟨gfk_1_19, List.forall_mem_cons.mpr ⟨gfk_1_23, fun _ h => absurd h List.not_mem_nil⟩⟩⟩
theorem gfk_2_121 : gFok (2, 121, 1, 1) := ⟨Or.inr ⟨by decide, gmemN 62 (by decide +kernel)⟩, by decide, by decide, by decide +kernel⟩
theorem gfk_2_12 : gFok (2, 12, 2, 0) := ⟨Or.inl (gmem 82 (by decide +kernel)), by decide, by decide, by decide +kernel⟩
theorem gfk_2_21 : gFok (2, 21, 2, 1) := ⟨Or.inl (gmem 84 (by decide +kernel)), by decide, by decide, by decide +kernel⟩
theorem gfk_2_25 : gFok (2, 25, 2, 2) := ⟨Or.inl (gmem 86 (by decide +kernel)), by decide, by decide, by decide +kernel⟩
theorem gfk_2_29 : gFok (2, 29, 2, 3) := ⟨Or.inl (gmem 88 (by decide +kernel)), by decide, by decide, by decide +kernel⟩
theorem gfk_2_32 : gFok (2, 32, 2, 4) := ⟨Or.inl (gmem 90 (by decide +kernel)), by decide, by decide, by decide +kernel⟩
theorem gfk_2_35 : gFok (2, 35, 2, 5) := ⟨Or.inl (gmem 92 (by decide +kernel)), by decide, by decide, by decide +kernel⟩
theorem gfk_2_38 : gFok (2, 38, 2, 6) := ⟨Or.inl (gmem 94 (by decide +kernel)), by decide, by decide, by decide +kernel⟩
theorem gfk_2_55 : gFok (2, 55, 2, 7) := ⟨Or.inl (gmem 96 (by decide +kernel)), by decide, by decide, by decide +kernel⟩
theorem gfk_2_59 : gFok (2, 59, 2, 8) := ⟨Or.inl (gmem 98 (by decide +kernel)), by decide, by decide, by decide +kernel⟩
theorem gfk_2_62 : gFok (2, 62, 2, 9) := ⟨Or.inl (gmem 100 (by decide +kernel)), by decide, by decide, by decide +kernel⟩
theorem gfk_2_65 : gFok (2, 65, 2, 10) := ⟨Or.inl (gmem 102 (by decide +kernel)), by decide, by decide, by decide +kernel⟩
theorem gfk_2_68 : gFok (2, 68, 2, 11) := ⟨Or.inl (gmem 104 (by decide +kernel)), by decide, by decide, by decide +kernel⟩
theorem gfoDo : ∀ q ∈ gFDo, gFok (2, q) := by
  unfold gFDo
  exact List.forall_mem_cons.mpr ⟨gfk_2_121, List.forall_mem_cons.mpr ⟨gfk_2_12, List.forall_mem_cons.mpr ⟨gfk_2_21, List.forall_mem_cons.mpr ⟨gfk_2_25, List.forall_mem_cons.mpr ⟨gfk_2_29, List.forall_mem_cons.mpr ⟨gfk_2_32, List.forall_mem_cons.mpr ⟨gfk_2_35, List.forall_mem_cons.mpr ⟨gfk_2_38, List.forall_mem_cons.mpr ⟨gfk_2_55, List.forall_mem_cons.mpr ⟨gfk_2_59, List.forall_mem_cons.mpr ⟨gfk_2_62, List.forall_mem_cons.mpr ⟨gfk_2_65, List.forall_mem_cons.mpr ⟨gfk_2_68, fun _ h => absurd h List.not_mem_nil⟩⟩⟩⟩⟩⟩⟩⟩⟩⟩⟩⟩⟩
theorem gfk_3_11 : gFok (3, 11, 3, 0) := ⟨Or.inl (gmem 140 (by decide +kernel)), by decide, by decide, by decide +kernel⟩
theorem gfk_3_18 : gFok (3, 18, 3, 1) := ⟨Or.inl (gmem 141 (by decide +kernel)), by decide, by decide, by decide +kernel⟩
theorem gfoHi : ∀ q ∈ gFHi, gFok (3, q) := by
  unfold gFHi
  exact List.forall_mem_cons.mpr ⟨gfk_3_11, List.forall_mem_cons.mpr ⟨gfk_3_18, fun _ h => absurd h List.not_mem_nil⟩⟩
theorem gfk_4_11 : gFok (4, 11, 4, 0) := ⟨Or.inl (gmem 154 (by decide +kernel)), by decide, by decide, by decide +kernel⟩
theorem gfk_4_15 : gFok (4, 15, 4, 2) := ⟨Or.inl (gmem 155 (by decide +kernel)), by decide, by decide, by decide +kernel⟩
theorem gfk_4_18 : gFok (4, 18, 4, 3) := ⟨Or.inl (gmem 156 (by decide +kernel)), by decide, by decide, by decide +kernel⟩
theorem gfk_4_21 : gFok (4, 21, 4, 4) := ⟨Or.inl (gmem 157 (by decide +kernel)), by decide, by decide, by decide +kernel⟩
theorem gfoTx : ∀ q ∈ gFTx, gFok (4, q) := by
  unfold gFTx
  exact List.forall_mem_cons.mpr ⟨gfk_4_11, List.forall_mem_cons.mpr ⟨gfk_4_15, List.forall_mem_cons.mpr ⟨gfk_4_18, List.forall_mem_cons.mpr ⟨gfk_4_21, fun _ h => absurd h List.not_mem_nil⟩⟩⟩⟩
theorem gfk_5_89 : gFok (5, 89, 1, 1) := ⟨Or.inr ⟨by decide, gmemN 61 (by decide +kernel)⟩, by decide, by decide, by decide +kernel⟩
theorem gfk_5_175 : gFok (5, 175, 2, 0) := ⟨Or.inr ⟨by decide, gmemN 83 (by decide +kernel)⟩, by decide, by decide, by decide +kernel⟩
theorem gfk_5_85 : gFok (5, 85, 2, 1) := ⟨Or.inr ⟨by decide, gmemN 85 (by decide +kernel)⟩, by decide, by decide, by decide +kernel⟩
theorem gfk_5_229 : gFok (5, 229, 2, 2) := ⟨Or.inr ⟨by decide, gmemN 87 (by decide +kernel)⟩, by decide, by decide, by decide +kernel⟩
theorem gfk_5_45 : gFok (5, 45, 2, 3) := ⟨Or.inr ⟨by decide, gmemN 89 (by decide +kernel)⟩, by decide, by decide, by decide +kernel⟩
theorem gfk_5_198 : gFok (5, 198, 2, 4) := ⟨Or.inr ⟨by decide, gmemN 91 (by decide +kernel)⟩, by decide, by decide, by decide +kernel⟩
theorem gfk_5_123 : gFok (5, 123, 2, 5) := ⟨Or.inr ⟨by decide, gmemN 93 (by decide +kernel)⟩, by decide, by decide, by decide +kernel⟩
theorem gfk_5_201 : gFok (5, 201, 2, 6) := ⟨Or.inr ⟨by decide, gmemN 95 (by decide +kernel)⟩, by decide, by decide, by decide +kernel⟩
theorem gfk_5_118 : gFok (5, 118, 2, 7) := ⟨Or.inr ⟨by decide, gmemN 97 (by decide +kernel)⟩, by decide, by decide, by decide +kernel⟩
theorem gfk_5_209 : gFok (5, 209, 2, 8) := ⟨Or.inr ⟨by decide, gmemN 99 (by decide +kernel)⟩, by decide, by decide, by decide +kernel⟩
theorem gfk_5_212 : gFok (5, 212, 2, 9) := ⟨Or.inr ⟨by decide, gmemN 101 (by decide +kernel)⟩, by decide, by decide, by decide +kernel⟩
theorem gfk_5_215 : gFok (5, 215, 2, 10) := ⟨Or.inr ⟨by decide, gmemN 103 (by decide +kernel)⟩, by decide, by decide, by decide +kernel⟩
theorem gfk_5_224 : gFok (5, 224, 2, 11) := ⟨Or.inr ⟨by decide, gmemN 105 (by decide +kernel)⟩, by decide, by decide, by decide +kernel⟩
theorem gfk_5_169 : gFok (5, 169, 3, 1) := ⟨Or.inr ⟨by decide, gmemN 142 (by decide +kernel)⟩, by decide, by decide, by decide +kernel⟩
theorem gfk_5_10 : gFok (5, 10, 5, 0) := ⟨Or.inl (gmem 179 (by decide +kernel)), by decide, by decide, by decide +kernel⟩
theorem gfk_5_16 : gFok (5, 16, 5, 1) := ⟨Or.inl (gmem 180 (by decide +kernel)), by decide, by decide, by decide +kernel⟩
theorem gfk_5_22 : gFok (5, 22, 5, 2) := ⟨Or.inl (gmem 181 (by decide +kernel)), by decide, by decide, by decide +kernel⟩
theorem gfk_5_29 : gFok (5, 29, 5, 3) := ⟨Or.inl (gmem 182 (by decide +kernel)), by decide, by decide, by decide +kernel⟩
theorem gfk_5_33 : gFok (5, 33, 5, 4) := ⟨Or.inl (gmem 183 (by decide +kernel)), by decide, by decide, by decide +kernel⟩
theorem gfoGs : ∀ q ∈ gFGs, gFok (5, q) := by
  unfold gFGs
  exact List.forall_mem_cons.mpr ⟨gfk_5_89, List.forall_mem_cons.mpr ⟨gfk_5_175, List.forall_mem_cons.mpr ⟨gfk_5_85, List.forall_mem_cons.mpr ⟨gfk_5_229, List.forall_mem_cons.mpr ⟨gfk_5_45, List.forall_mem_cons.mpr ⟨gfk_5_198, List.forall_mem_cons.mpr ⟨gfk_5_123, List.forall_mem_cons.mpr ⟨gfk_5_201, List.forall_mem_cons.mpr ⟨gfk_5_118, List.forall_mem_cons.mpr ⟨gfk_5_209, List.forall_mem_cons.mpr ⟨gfk_5_212, List.forall_mem_cons.mpr ⟨gfk_5_215, List.forall_mem_cons.mpr ⟨gfk_5_224, List.forall_mem_cons.mpr ⟨gfk_5_169, List.forall_mem_cons.mpr ⟨gfk_5_10, List.forall_mem_cons.mpr ⟨gfk_5_16, List.forall_mem_cons.mpr ⟨gfk_5_22, List.forall_mem_cons.mpr ⟨gfk_5_29, List.forall_mem_cons.mpr ⟨gfk_5_33, fun _ h => absurd h List.not_mem_nil⟩⟩⟩⟩⟩⟩⟩⟩⟩⟩⟩⟩⟩⟩⟩⟩⟩⟩⟩
theorem gF_ok {o i : Nat} {x : Nat × Nat} (h : gfind i (gFl o) = some x) : gFok (o, i, x) := by
  have hm := gfind_mem h
  unfold gFl at hm
  split at hm
  · exact gfoTr _ hm
  · exact gfoSe _ hm
  · exact gfoDo _ hm
  · exact gfoHi _ hm
  · exact gfoTx _ hm
  · exact gfoGs _ hm
  · exact absurd hm List.not_mem_nil
/-- a method: own class, name, code, locals, answer, handlers -/
abbrev gK : Type := Nat × MethodName × ByteArray × Nat × Option FieldType × List (Nat × Nat × Nat × Nat)
abbrev K_Gs_init : gK := (5, ⟨"GoldSheets", "<init>", "()V"⟩, prog_1_method_1_code, 1, none, [])
abbrev K_Do_init : gK := (2, ⟨"GoldSheets$Dome", "<init>", "()V"⟩, prog_2_method_1_code, 2, none, [])
abbrev K_Tr_init : gK := (0, ⟨"GoldSheets$Trays", "<init>", "()V"⟩, prog_6_method_1_code, 1, none, [])
abbrev K_Se_init : gK := (1, ⟨"GoldSheets$Sections", "<init>", "()V"⟩, prog_5_method_1_code, 1, none, [])
abbrev K_Gs_copyRow : gK := (5, ⟨"GoldSheets", "copyRow", "([I[I)V"⟩, prog_1_method_41_code, 2, none, [])
abbrev K_Hi_init : gK := (3, ⟨"GoldSheets$History", "<init>", "()V"⟩, prog_3_method_1_code, 2, none, [])
abbrev K_Tx_init : gK := (4, ⟨"GoldSheets$SectionText", "<init>", "()V"⟩, prog_4_method_1_code, 1, none, [])
abbrev K_Gs_store : gK := (5, ⟨"GoldSheets", "store", "(II)I"⟩, prog_1_method_2_code, 3, (some FieldType.int), [])
abbrev K_Gs_requireIndex : gK := (5, ⟨"GoldSheets", "requireIndex", "(II)V"⟩, prog_1_method_35_code, 2, none, [])
abbrev K_Gs_requireRange : gK := (5, ⟨"GoldSheets", "requireRange", "(III)V"⟩, prog_1_method_36_code, 3, none, [])
abbrev K_Gs_valueAt : gK := (5, ⟨"GoldSheets", "valueAt", "([II)I"⟩, prog_1_method_38_code, 2, (some FieldType.int), [])
abbrev K_Hi_save : gK := (3, ⟨"GoldSheets$History", "save", "(LGoldSheets$Dome;)V"⟩, prog_3_method_2_code, 3, none, [])
abbrev K_Hi_dropOldest : gK := (3, ⟨"GoldSheets$History", "dropOldest", "()V"⟩, prog_3_method_5_code, 3, none, [])
abbrev K_Hi_slotAt : gK := (3, ⟨"GoldSheets$History", "slotAt", "(I)LGoldSheets$Dome;"⟩, prog_3_method_4_code, 2, (some (FieldType.object "GoldSheets$Dome")), [])
abbrev K_Do_copyFrom : gK := (2, ⟨"GoldSheets$Dome", "copyFrom", "(LGoldSheets$Dome;)V"⟩, prog_2_method_2_code, 2, none, [])
abbrev K_Tr_copyFrom : gK := (0, ⟨"GoldSheets$Trays", "copyFrom", "(LGoldSheets$Trays;)V"⟩, prog_6_method_2_code, 2, none, [])
abbrev K_Se_copyFrom : gK := (1, ⟨"GoldSheets$Sections", "copyFrom", "(LGoldSheets$Sections;)V"⟩, prog_5_method_2_code, 2, none, [])
abbrev K_Gs_addAt : gK := (5, ⟨"GoldSheets", "addAt", "([III)V"⟩, prog_1_method_39_code, 3, none, [])
abbrev K_Gs_cut : gK := (5, ⟨"GoldSheets", "cut", "(II)I"⟩, prog_1_method_3_code, 3, (some FieldType.int), [])
abbrev K_Do_cutSheet : gK := (2, ⟨"GoldSheets$Dome", "cutSheet", "(II)I"⟩, prog_2_method_3_code, 5, (some FieldType.int), [])
abbrev K_Tr_freeIn : gK := (0, ⟨"GoldSheets$Trays", "freeIn", "(II)I"⟩, prog_6_method_6_code, 3, (some FieldType.int), [])
abbrev K_Tr_heldInAll : gK := (0, ⟨"GoldSheets$Trays", "heldInAll", "(I)I"⟩, prog_6_method_5_code, 4, (some FieldType.int), [])
abbrev K_Tr_held : gK := (0, ⟨"GoldSheets$Trays", "held", "(II)I"⟩, prog_6_method_3_code, 4, (some FieldType.int), [])
abbrev K_Tr_change : gK := (0, ⟨"GoldSheets$Trays", "change", "(III)V"⟩, prog_6_method_4_code, 4, none, [])
abbrev K_Gs_tip : gK := (5, ⟨"GoldSheets", "tip", "(II)I"⟩, prog_1_method_4_code, 3, (some FieldType.int), [])
abbrev K_Do_tipTray : gK := (2, ⟨"GoldSheets$Dome", "tipTray", "(II)I"⟩, prog_2_method_4_code, 5, (some FieldType.int), [])
abbrev K_Tr_pour : gK := (0, ⟨"GoldSheets$Trays", "pour", "(IIII)I"⟩, prog_6_method_12_code, 6, (some FieldType.int), [])
abbrev K_Gs_sweep : gK := (5, ⟨"GoldSheets", "sweep", "(I)I"⟩, prog_1_method_5_code, 2, (some FieldType.int), [])
abbrev K_Do_sweepTray : gK := (2, ⟨"GoldSheets$Dome", "sweepTray", "(I)I"⟩, prog_2_method_5_code, 5, (some FieldType.int), [])
abbrev K_Tr_clear : gK := (0, ⟨"GoldSheets$Trays", "clear", "(II)I"⟩, prog_6_method_13_code, 4, (some FieldType.int), [])
abbrev K_Gs_section : gK := (5, ⟨"GoldSheets", "section", "(III)I"⟩, prog_1_method_6_code, 4, (some FieldType.int), [])
abbrev K_Do_addSection : gK := (2, ⟨"GoldSheets$Dome", "addSection", "(III)I"⟩, prog_2_method_6_code, 5, (some FieldType.int), [])
abbrev K_Se_add : gK := (1, ⟨"GoldSheets$Sections", "add", "(III)I"⟩, prog_5_method_7_code, 5, (some FieldType.int), [])
abbrev K_Se_put : gK := (1, ⟨"GoldSheets$Sections", "put", "(III)V"⟩, prog_5_method_4_code, 4, none, [])
abbrev K_Se_arrange : gK := (1, ⟨"GoldSheets$Sections", "arrange", "(I)V"⟩, prog_5_method_10_code, 5, none, [])
abbrev K_Se_comesBefore : gK := (1, ⟨"GoldSheets$Sections", "comesBefore", "(III)Z"⟩, prog_5_method_11_code, 6, (some FieldType.boolean), [])
abbrev K_Se_valueOf : gK := (1, ⟨"GoldSheets$Sections", "valueOf", "(II)I"⟩, prog_5_method_3_code, 4, (some FieldType.int), [])
abbrev K_Se_swap : gK := (1, ⟨"GoldSheets$Sections", "swap", "(II)V"⟩, prog_5_method_12_code, 5, none, [])
abbrev K_Gs_drop : gK := (5, ⟨"GoldSheets", "drop", "(I)I"⟩, prog_1_method_7_code, 3, (some FieldType.int), [])
abbrev K_Gs_requireSection : gK := (5, ⟨"GoldSheets", "requireSection", "(I)I"⟩, prog_1_method_34_code, 3, (some FieldType.int), [])
abbrev K_Se_placeOf : gK := (1, ⟨"GoldSheets$Sections", "placeOf", "(I)I"⟩, prog_5_method_5_code, 3, (some FieldType.int), [])
abbrev K_Do_dropSection : gK := (2, ⟨"GoldSheets$Dome", "dropSection", "(I)I"⟩, prog_2_method_7_code, 4, (some FieldType.int), [])
abbrev K_Se_remove : gK := (1, ⟨"GoldSheets$Sections", "remove", "(I)V"⟩, prog_5_method_8_code, 4, none, [])
abbrev K_Gs_set : gK := (5, ⟨"GoldSheets", "set", "(II)I"⟩, prog_1_method_8_code, 3, (some FieldType.int), [])
abbrev K_Do_changeSetting : gK := (2, ⟨"GoldSheets$Dome", "changeSetting", "(II)I"⟩, prog_2_method_8_code, 4, (some FieldType.int), [])
abbrev K_Gs_pass : gK := (5, ⟨"GoldSheets", "pass", "(I)I"⟩, prog_1_method_9_code, 4, (some FieldType.int), [])
abbrev K_Gs_sumOf : gK := (5, ⟨"GoldSheets", "sumOf", "([I)I"⟩, prog_1_method_40_code, 6, (some FieldType.int), [])
abbrev K_Do_passDay : gK := (2, ⟨"GoldSheets$Dome", "passDay", "()V"⟩, prog_2_method_9_code, 3, none, [])
abbrev K_Tr_tonesIn : gK := (0, ⟨"GoldSheets$Trays", "tonesIn", "(I)I"⟩, prog_6_method_7_code, 4, (some FieldType.int), [])
abbrev K_Tr_sortOut : gK := (0, ⟨"GoldSheets$Trays", "sortOut", "(II)V"⟩, prog_6_method_14_code, 6, none, [])
abbrev K_Tr_mostOf : gK := (0, ⟨"GoldSheets$Trays", "mostOf", "(I)I"⟩, prog_6_method_15_code, 4, (some FieldType.int), [])
abbrev K_Tr_lowestEmpty : gK := (0, ⟨"GoldSheets$Trays", "lowestEmpty", "()I"⟩, prog_6_method_16_code, 2, (some FieldType.int), [])
abbrev K_Do_canBeLaid : gK := (2, ⟨"GoldSheets$Dome", "canBeLaid", "(I)Z"⟩, prog_2_method_10_code, 2, (some FieldType.boolean), [])
abbrev K_Tr_readyOf : gK := (0, ⟨"GoldSheets$Trays", "readyOf", "(I)I"⟩, prog_6_method_11_code, 4, (some FieldType.int), [])
abbrev K_Do_layOnce : gK := (2, ⟨"GoldSheets$Dome", "layOnce", "(I)V"⟩, prog_2_method_11_code, 6, none, [])
abbrev K_Do_takenFor : gK := (2, ⟨"GoldSheets$Dome", "takenFor", "(I)I"⟩, prog_2_method_14_code, 3, (some FieldType.int), [])
abbrev K_Tr_takeReady : gK := (0, ⟨"GoldSheets$Trays", "takeReady", "(II)I"⟩, prog_6_method_17_code, 6, (some FieldType.int), [])
abbrev K_Se_lay : gK := (1, ⟨"GoldSheets$Sections", "lay", "(II)V"⟩, prog_5_method_9_code, 3, none, [])
abbrev K_Do_dismissDone : gK := (2, ⟨"GoldSheets$Dome", "dismissDone", "()V"⟩, prog_2_method_12_code, 2, none, [])
abbrev K_Do_countDone : gK := (2, ⟨"GoldSheets$Dome", "countDone", "(I)V"⟩, prog_2_method_13_code, 2, none, [])
abbrev K_Gs_setting : gK := (5, ⟨"GoldSheets", "setting", "(I)I"⟩, prog_1_method_19_code, 2, (some FieldType.int), [])
abbrev K_Lw_cell : gK := (7, ⟨"GoldSheetsLaw", "cell", "([II)I"⟩, method_2_code, 2, (some FieldType.int), [])
abbrev K_Lw_low : gK := (7, ⟨"GoldSheetsLaw", "low", "(II)I"⟩, method_3_code, 2, (some FieldType.int), [])
abbrev K_Lw_sum : gK := (7, ⟨"GoldSheetsLaw", "sum", "([II)I"⟩, method_4_code, 2, (some FieldType.int), [])
abbrev K_Lw_pour : gK := (7, ⟨"GoldSheetsLaw", "pour", "([I[IIII)I"⟩, method_6_code, 7, (some FieldType.int), [])
abbrev K_Lw_day : gK := (7, ⟨"GoldSheetsLaw", "day", "([I[I[I[I[I)I"⟩, method_12_code, 12, (some FieldType.int), [])
abbrev K_Lw_isMixed : gK := (7, ⟨"GoldSheetsLaw", "isMixed", "([II)Z"⟩, method_5_code, 4, (some FieldType.boolean), [])
abbrev K_Lw_sort : gK := (7, ⟨"GoldSheetsLaw", "sort", "([I[II)V"⟩, method_8_code, 7, none, [])
abbrev K_Lw_isAhead : gK := (7, ⟨"GoldSheetsLaw", "isAhead", "([I[III)Z"⟩, method_9_code, 5, (some FieldType.boolean), [])
abbrev K_Lw_pure : gK := (7, ⟨"GoldSheetsLaw", "pure", "([II)I"⟩, method_10_code, 4, (some FieldType.int), [])
abbrev K_Lw_setter : gK := (7, ⟨"GoldSheetsLaw", "setter", "([I[I[I[II)I"⟩, method_11_code, 10, (some FieldType.int), [])
abbrev K_Lw_taken : gK := (7, ⟨"GoldSheetsLaw", "taken", "([II)I"⟩, method_7_code, 3, (some FieldType.int), [])
abbrev K_Lw_tells : gK := (7, ⟨"GoldSheetsLaw", "tells", "(LGoldSheets;[I[I[I[I[I)Z"⟩, method_13_code, 12, (some FieldType.boolean), [])
abbrev K_Gs_tray : gK := (5, ⟨"GoldSheets", "tray", "(II)I"⟩, prog_1_method_15_code, 3, (some FieldType.int), [])
abbrev K_Gs_sectionOf : gK := (5, ⟨"GoldSheets", "sectionOf", "(II)I"⟩, prog_1_method_16_code, 3, (some FieldType.int), [])
abbrev K_Gs_count : gK := (5, ⟨"GoldSheets", "count", "(I)I"⟩, prog_1_method_18_code, 2, (some FieldType.int), [])
abbrev K_Tr_mixedTrays : gK := (0, ⟨"GoldSheets$Trays", "mixedTrays", "()I"⟩, prog_6_method_8_code, 3, (some FieldType.int), [])
abbrev K_Tr_emptyTrays : gK := (0, ⟨"GoldSheets$Trays", "emptyTrays", "()I"⟩, prog_6_method_9_code, 3, (some FieldType.int), [])
abbrev K_Lw_gold : gK := (7, ⟨"GoldSheetsLaw", "gold", "(LGoldSheets;[I[I[I[I[I)Z"⟩, method_14_code, 15, (some FieldType.boolean), [])
abbrev K_Gs_tone : gK := (5, ⟨"GoldSheets", "tone", "(II)I"⟩, prog_1_method_17_code, 3, (some FieldType.int), [])
abbrev K_Tr_heldOf : gK := (0, ⟨"GoldSheets$Trays", "heldOf", "(I)I"⟩, prog_6_method_10_code, 4, (some FieldType.int), [])
abbrev K_Se_wantedOf : gK := (1, ⟨"GoldSheets$Sections", "wantedOf", "(I)I"⟩, prog_5_method_6_code, 4, (some FieldType.int), [])
abbrev K_Gs_missing : gK := (5, ⟨"GoldSheets", "missing", "(I)I"⟩, prog_1_method_21_code, 2, (some FieldType.int), [])
abbrev K_Do_missingSheets : gK := (2, ⟨"GoldSheets$Dome", "missingSheets", "(I)I"⟩, prog_2_method_15_code, 5, (some FieldType.int), [])
abbrev K_Gs_laidShare : gK := (5, ⟨"GoldSheets", "laidShare", "()D"⟩, prog_1_method_25_code, 2, (some FieldType.double), [])
abbrev K_Lw_value : gK := (7, ⟨"GoldSheetsLaw", "value", "(II)I"⟩, method_15_code, 2, (some FieldType.int), [])
def gwd (K : gK) : Cond := match K.2.2.2.2.2 with
  | [] => .code K.2.1 K.2.2.1 K.2.2.2.1 K.2.2.2.2.1
  | _ => .codeWith K.2.1 K.2.2.1 K.2.2.2.1 K.2.2.2.2.1 K.2.2.2.2.2
def gLkV (own : String) (i n : Nat) (K : gK) : Prop := (parseMethodDescriptor K.2.1.desc).map (fun d => d.parameters.length) = some n ∧ Cond.methodLink own i K.2.1 ∈ gTs ∧ Cond.instanceMethod K.2.1 ∈ gTs ∧ Cond.selects K.2.1.cls K.2.1 K.2.1 ∈ gTs ∧ Cond.initialized K.2.1.cls ∈ gTs ∧ gwd K ∈ gTs ∧ K.2.1.cls ≠ "java/lang/invoke/MethodHandle" ∧ K.2.1.cls ≠ "java/lang/invoke/VarHandle"
def gLkS (own : String) (i n : Nat) (K : gK) : Prop := (parseMethodDescriptor K.2.1.desc).map (fun d => d.parameters.length) = some n ∧ (Cond.methodLink own i K.2.1 ∈ gTs ∨ Cond.methodLinkNest own i K.2.1 "GoldSheets" ∈ gNs) ∧ Cond.static K.2.1 ∈ gTs ∧ Cond.initialized K.2.1.cls ∈ gTs ∧ gwd K ∈ gTs ∧ K.2.1.cls ≠ "java/lang/invoke/MethodHandle" ∧ K.2.1.cls ≠ "java/lang/invoke/VarHandle"
def gLkI (own : String) (i n : Nat) (K : gK) : Prop := (parseMethodDescriptor K.2.1.desc).map (fun d => d.parameters.length) = some n ∧ (Cond.methodLink own i K.2.1 ∈ gTs ∨ Cond.methodLinkNest own i K.2.1 "GoldSheets" ∈ gNs) ∧ Cond.instanceMethod K.2.1 ∈ gTs ∧ Cond.initialized K.2.1.cls ∈ gTs ∧ gwd K ∈ gTs ∧ K.2.1.name = "<init>" ∧ K.2.1.cls ≠ "java/lang/invoke/MethodHandle" ∧ K.2.1.cls ≠ "java/lang/invoke/VarHandle"
theorem lk_Lw_72 : gLkI "GoldSheetsLaw" 72 0 K_Gs_init := ⟨by decide +kernel, Or.inl (gmem 30 (by decide +kernel)), gmem 31 (by decide +kernel), gmem 14 (by decide +kernel), gmem 32 (by decide +kernel), by decide +kernel, by decide +kernel, by decide +kernel⟩
theorem lk_Gs_9 : gLkI "GoldSheets" 9 0 K_Do_init := ⟨by decide +kernel, Or.inl (gmem 38 (by decide +kernel)), gmem 39 (by decide +kernel), gmem 15 (by decide +kernel), gmem 40 (by decide +kernel), by decide +kernel, by decide +kernel, by decide +kernel⟩
theorem lk_Do_11 : gLkI "GoldSheets$Dome" 11 0 K_Tr_init := ⟨by decide +kernel, Or.inr (gmemN 44 (by decide +kernel)), gmem 45 (by decide +kernel), gmem 16 (by decide +kernel), gmem 46 (by decide +kernel), by decide +kernel, by decide +kernel, by decide +kernel⟩
theorem lk_Do_20 : gLkI "GoldSheets$Dome" 20 0 K_Se_init := ⟨by decide +kernel, Or.inr (gmemN 55 (by decide +kernel)), gmem 56 (by decide +kernel), gmem 17 (by decide +kernel), gmem 57 (by decide +kernel), by decide +kernel, by decide +kernel, by decide +kernel⟩
theorem lk_Do_44 : gLkS "GoldSheets$Dome" 44 2 K_Gs_copyRow := ⟨by decide +kernel, Or.inr (gmemN 73 (by decide +kernel)), gmem 74 (by decide +kernel), gmem 14 (by decide +kernel), gmem 75 (by decide +kernel), by decide +kernel, by decide +kernel⟩
theorem lk_Gs_21 : gLkI "GoldSheets" 21 0 K_Hi_init := ⟨by decide +kernel, Or.inl (gmem 133 (by decide +kernel)), gmem 134 (by decide +kernel), gmem 20 (by decide +kernel), gmem 135 (by decide +kernel), by decide +kernel, by decide +kernel, by decide +kernel⟩
theorem lk_Hi_17 : gLkI "GoldSheets$History" 17 0 K_Do_init := ⟨by decide +kernel, Or.inl (gmem 139 (by decide +kernel)), gmem 39 (by decide +kernel), gmem 15 (by decide +kernel), gmem 40 (by decide +kernel), by decide +kernel, by decide +kernel, by decide +kernel⟩
theorem lk_Gs_28 : gLkI "GoldSheets" 28 0 K_Tx_init := ⟨by decide +kernel, Or.inr (gmemN 150 (by decide +kernel)), gmem 151 (by decide +kernel), gmem 21 (by decide +kernel), gmem 152 (by decide +kernel), by decide +kernel, by decide +kernel, by decide +kernel⟩
theorem lk_Lw_104 : gLkV "GoldSheetsLaw" 104 2 K_Gs_store := ⟨by decide +kernel, gmem 195 (by decide +kernel), gmem 196 (by decide +kernel), gmem 197 (by decide +kernel), gmem 14 (by decide +kernel), gmem 198 (by decide +kernel), by decide +kernel, by decide +kernel⟩
theorem lk_Gs_37 : gLkS "GoldSheets" 37 2 K_Gs_requireIndex := ⟨by decide +kernel, Or.inl (gmem 199 (by decide +kernel)), gmem 200 (by decide +kernel), gmem 14 (by decide +kernel), gmem 201 (by decide +kernel), by decide +kernel, by decide +kernel⟩
theorem lk_Gs_41 : gLkS "GoldSheets" 41 3 K_Gs_requireRange := ⟨by decide +kernel, Or.inl (gmem 270 (by decide +kernel)), gmem 271 (by decide +kernel), gmem 14 (by decide +kernel), gmem 272 (by decide +kernel), by decide +kernel, by decide +kernel⟩
theorem lk_Gs_48 : gLkS "GoldSheets" 48 2 K_Gs_valueAt := ⟨by decide +kernel, Or.inl (gmem 289 (by decide +kernel)), gmem 290 (by decide +kernel), gmem 14 (by decide +kernel), gmem 291 (by decide +kernel), by decide +kernel, by decide +kernel⟩
theorem lk_Gs_59 : gLkV "GoldSheets" 59 1 K_Hi_save := ⟨by decide +kernel, gmem 308 (by decide +kernel), gmem 309 (by decide +kernel), gmem 310 (by decide +kernel), gmem 20 (by decide +kernel), gmem 311 (by decide +kernel), by decide +kernel, by decide +kernel⟩
theorem lk_Hi_22 : gLkV "GoldSheets$History" 22 0 K_Hi_dropOldest := ⟨by decide +kernel, gmem 312 (by decide +kernel), gmem 314 (by decide +kernel), gmem 1 (by decide +kernel), gmem 20 (by decide +kernel), gmem 315 (by decide +kernel), by decide +kernel, by decide +kernel⟩
theorem lk_Hi_25 : gLkV "GoldSheets$History" 25 1 K_Hi_slotAt := ⟨by decide +kernel, gmem 316 (by decide +kernel), gmem 318 (by decide +kernel), gmem 2 (by decide +kernel), gmem 20 (by decide +kernel), gmem 319 (by decide +kernel), by decide +kernel, by decide +kernel⟩
theorem lk_Hi_29 : gLkV "GoldSheets$History" 29 1 K_Do_copyFrom := ⟨by decide +kernel, gmem 320 (by decide +kernel), gmem 321 (by decide +kernel), gmem 322 (by decide +kernel), gmem 15 (by decide +kernel), gmem 323 (by decide +kernel), by decide +kernel, by decide +kernel⟩
theorem lk_Do_48 : gLkV "GoldSheets$Dome" 48 1 K_Tr_copyFrom := ⟨by decide +kernel, gmem 324 (by decide +kernel), gmem 325 (by decide +kernel), gmem 326 (by decide +kernel), gmem 16 (by decide +kernel), gmem 327 (by decide +kernel), by decide +kernel, by decide +kernel⟩
theorem lk_Tr_15 : gLkS "GoldSheets$Trays" 15 2 K_Gs_copyRow := ⟨by decide +kernel, Or.inr (gmemN 328 (by decide +kernel)), gmem 74 (by decide +kernel), gmem 14 (by decide +kernel), gmem 75 (by decide +kernel), by decide +kernel, by decide +kernel⟩
theorem lk_Do_52 : gLkV "GoldSheets$Dome" 52 1 K_Se_copyFrom := ⟨by decide +kernel, gmem 329 (by decide +kernel), gmem 330 (by decide +kernel), gmem 331 (by decide +kernel), gmem 17 (by decide +kernel), gmem 332 (by decide +kernel), by decide +kernel, by decide +kernel⟩
theorem lk_Se_15 : gLkS "GoldSheets$Sections" 15 2 K_Gs_copyRow := ⟨by decide +kernel, Or.inr (gmemN 333 (by decide +kernel)), gmem 74 (by decide +kernel), gmem 14 (by decide +kernel), gmem 75 (by decide +kernel), by decide +kernel, by decide +kernel⟩
theorem lk_Gs_63 : gLkS "GoldSheets" 63 3 K_Gs_addAt := ⟨by decide +kernel, Or.inl (gmem 334 (by decide +kernel)), gmem 335 (by decide +kernel), gmem 14 (by decide +kernel), gmem 336 (by decide +kernel), by decide +kernel, by decide +kernel⟩
theorem lk_Lw_82 : gLkV "GoldSheetsLaw" 82 2 K_Gs_cut := ⟨by decide +kernel, gmem 337 (by decide +kernel), gmem 338 (by decide +kernel), gmem 339 (by decide +kernel), gmem 14 (by decide +kernel), gmem 340 (by decide +kernel), by decide +kernel, by decide +kernel⟩
theorem lk_Gs_69 : gLkV "GoldSheets" 69 2 K_Do_cutSheet := ⟨by decide +kernel, gmem 342 (by decide +kernel), gmem 343 (by decide +kernel), gmem 344 (by decide +kernel), gmem 15 (by decide +kernel), gmem 345 (by decide +kernel), by decide +kernel, by decide +kernel⟩
theorem lk_Do_71 : gLkV "GoldSheets$Dome" 71 2 K_Tr_freeIn := ⟨by decide +kernel, gmem 346 (by decide +kernel), gmem 347 (by decide +kernel), gmem 348 (by decide +kernel), gmem 16 (by decide +kernel), gmem 349 (by decide +kernel), by decide +kernel, by decide +kernel⟩
theorem lk_Tr_23 : gLkV "GoldSheets$Trays" 23 1 K_Tr_heldInAll := ⟨by decide +kernel, gmem 350 (by decide +kernel), gmem 351 (by decide +kernel), gmem 352 (by decide +kernel), gmem 16 (by decide +kernel), gmem 353 (by decide +kernel), by decide +kernel, by decide +kernel⟩
theorem lk_Tr_19 : gLkV "GoldSheets$Trays" 19 2 K_Tr_held := ⟨by decide +kernel, gmem 354 (by decide +kernel), gmem 355 (by decide +kernel), gmem 356 (by decide +kernel), gmem 16 (by decide +kernel), gmem 357 (by decide +kernel), by decide +kernel, by decide +kernel⟩
theorem lk_Do_80 : gLkV "GoldSheets$Dome" 80 3 K_Tr_change := ⟨by decide +kernel, gmem 362 (by decide +kernel), gmem 363 (by decide +kernel), gmem 364 (by decide +kernel), gmem 16 (by decide +kernel), gmem 365 (by decide +kernel), by decide +kernel, by decide +kernel⟩
theorem lk_Do_84 : gLkS "GoldSheets$Dome" 84 3 K_Gs_addAt := ⟨by decide +kernel, Or.inr (gmemN 366 (by decide +kernel)), gmem 335 (by decide +kernel), gmem 14 (by decide +kernel), gmem 336 (by decide +kernel), by decide +kernel, by decide +kernel⟩
theorem lk_Lw_85 : gLkV "GoldSheetsLaw" 85 2 K_Gs_tip := ⟨by decide +kernel, gmem 367 (by decide +kernel), gmem 368 (by decide +kernel), gmem 369 (by decide +kernel), gmem 14 (by decide +kernel), gmem 370 (by decide +kernel), by decide +kernel, by decide +kernel⟩
theorem lk_Gs_78 : gLkV "GoldSheets" 78 2 K_Do_tipTray := ⟨by decide +kernel, gmem 372 (by decide +kernel), gmem 373 (by decide +kernel), gmem 374 (by decide +kernel), gmem 15 (by decide +kernel), gmem 375 (by decide +kernel), by decide +kernel, by decide +kernel⟩
theorem lk_Do_88 : gLkV "GoldSheets$Dome" 88 4 K_Tr_pour := ⟨by decide +kernel, gmem 376 (by decide +kernel), gmem 377 (by decide +kernel), gmem 378 (by decide +kernel), gmem 16 (by decide +kernel), gmem 379 (by decide +kernel), by decide +kernel, by decide +kernel⟩
theorem lk_Tr_38 : gLkV "GoldSheets$Trays" 38 3 K_Tr_change := ⟨by decide +kernel, gmem 381 (by decide +kernel), gmem 363 (by decide +kernel), gmem 364 (by decide +kernel), gmem 16 (by decide +kernel), gmem 365 (by decide +kernel), by decide +kernel, by decide +kernel⟩
theorem lk_Lw_88 : gLkV "GoldSheetsLaw" 88 1 K_Gs_sweep := ⟨by decide +kernel, gmem 382 (by decide +kernel), gmem 383 (by decide +kernel), gmem 384 (by decide +kernel), gmem 14 (by decide +kernel), gmem 385 (by decide +kernel), by decide +kernel, by decide +kernel⟩
theorem lk_Gs_81 : gLkV "GoldSheets" 81 1 K_Do_sweepTray := ⟨by decide +kernel, gmem 386 (by decide +kernel), gmem 387 (by decide +kernel), gmem 388 (by decide +kernel), gmem 15 (by decide +kernel), gmem 389 (by decide +kernel), by decide +kernel, by decide +kernel⟩
theorem lk_Do_92 : gLkV "GoldSheets$Dome" 92 2 K_Tr_clear := ⟨by decide +kernel, gmem 390 (by decide +kernel), gmem 391 (by decide +kernel), gmem 392 (by decide +kernel), gmem 16 (by decide +kernel), gmem 393 (by decide +kernel), by decide +kernel, by decide +kernel⟩
theorem lk_Lw_91 : gLkV "GoldSheetsLaw" 91 3 K_Gs_section := ⟨by decide +kernel, gmem 394 (by decide +kernel), gmem 395 (by decide +kernel), gmem 396 (by decide +kernel), gmem 14 (by decide +kernel), gmem 397 (by decide +kernel), by decide +kernel, by decide +kernel⟩
theorem lk_Gs_97 : gLkV "GoldSheets" 97 3 K_Do_addSection := ⟨by decide +kernel, gmem 399 (by decide +kernel), gmem 400 (by decide +kernel), gmem 401 (by decide +kernel), gmem 15 (by decide +kernel), gmem 402 (by decide +kernel), by decide +kernel, by decide +kernel⟩
theorem lk_Do_95 : gLkV "GoldSheets$Dome" 95 3 K_Se_add := ⟨by decide +kernel, gmem 403 (by decide +kernel), gmem 404 (by decide +kernel), gmem 405 (by decide +kernel), gmem 17 (by decide +kernel), gmem 406 (by decide +kernel), by decide +kernel, by decide +kernel⟩
theorem lk_Se_30 : gLkV "GoldSheets$Sections" 30 3 K_Se_put := ⟨by decide +kernel, gmem 407 (by decide +kernel), gmem 409 (by decide +kernel), gmem 3 (by decide +kernel), gmem 17 (by decide +kernel), gmem 410 (by decide +kernel), by decide +kernel, by decide +kernel⟩
theorem lk_Do_99 : gLkV "GoldSheets$Dome" 99 1 K_Se_arrange := ⟨by decide +kernel, gmem 411 (by decide +kernel), gmem 412 (by decide +kernel), gmem 413 (by decide +kernel), gmem 17 (by decide +kernel), gmem 414 (by decide +kernel), by decide +kernel, by decide +kernel⟩
theorem lk_Se_34 : gLkV "GoldSheets$Sections" 34 3 K_Se_comesBefore := ⟨by decide +kernel, gmem 415 (by decide +kernel), gmem 417 (by decide +kernel), gmem 4 (by decide +kernel), gmem 17 (by decide +kernel), gmem 418 (by decide +kernel), by decide +kernel, by decide +kernel⟩
theorem lk_Se_26 : gLkV "GoldSheets$Sections" 26 2 K_Se_valueOf := ⟨by decide +kernel, gmem 419 (by decide +kernel), gmem 420 (by decide +kernel), gmem 421 (by decide +kernel), gmem 17 (by decide +kernel), gmem 422 (by decide +kernel), by decide +kernel, by decide +kernel⟩
theorem lk_Se_38 : gLkV "GoldSheets$Sections" 38 2 K_Se_swap := ⟨by decide +kernel, gmem 423 (by decide +kernel), gmem 425 (by decide +kernel), gmem 5 (by decide +kernel), gmem 17 (by decide +kernel), gmem 426 (by decide +kernel), by decide +kernel, by decide +kernel⟩
theorem lk_Lw_95 : gLkV "GoldSheetsLaw" 95 1 K_Gs_drop := ⟨by decide +kernel, gmem 427 (by decide +kernel), gmem 428 (by decide +kernel), gmem 429 (by decide +kernel), gmem 14 (by decide +kernel), gmem 430 (by decide +kernel), by decide +kernel, by decide +kernel⟩
theorem lk_Gs_101 : gLkV "GoldSheets" 101 1 K_Gs_requireSection := ⟨by decide +kernel, gmem 431 (by decide +kernel), gmem 433 (by decide +kernel), gmem 6 (by decide +kernel), gmem 14 (by decide +kernel), gmem 434 (by decide +kernel), by decide +kernel, by decide +kernel⟩
theorem lk_Gs_305 : gLkV "GoldSheets" 305 1 K_Se_placeOf := ⟨by decide +kernel, gmem 435 (by decide +kernel), gmem 436 (by decide +kernel), gmem 437 (by decide +kernel), gmem 17 (by decide +kernel), gmem 438 (by decide +kernel), by decide +kernel, by decide +kernel⟩
theorem lk_Gs_104 : gLkV "GoldSheets" 104 1 K_Do_dropSection := ⟨by decide +kernel, gmem 440 (by decide +kernel), gmem 441 (by decide +kernel), gmem 442 (by decide +kernel), gmem 15 (by decide +kernel), gmem 443 (by decide +kernel), by decide +kernel, by decide +kernel⟩
theorem lk_Do_103 : gLkV "GoldSheets$Dome" 103 2 K_Se_valueOf := ⟨by decide +kernel, gmem 444 (by decide +kernel), gmem 420 (by decide +kernel), gmem 421 (by decide +kernel), gmem 17 (by decide +kernel), gmem 422 (by decide +kernel), by decide +kernel, by decide +kernel⟩
theorem lk_Do_106 : gLkV "GoldSheets$Dome" 106 1 K_Se_remove := ⟨by decide +kernel, gmem 445 (by decide +kernel), gmem 446 (by decide +kernel), gmem 447 (by decide +kernel), gmem 17 (by decide +kernel), gmem 448 (by decide +kernel), by decide +kernel, by decide +kernel⟩
theorem lk_Lw_101 : gLkV "GoldSheetsLaw" 101 2 K_Gs_set := ⟨by decide +kernel, gmem 449 (by decide +kernel), gmem 450 (by decide +kernel), gmem 451 (by decide +kernel), gmem 14 (by decide +kernel), gmem 452 (by decide +kernel), by decide +kernel, by decide +kernel⟩
theorem lk_Gs_115 : gLkV "GoldSheets" 115 2 K_Do_changeSetting := ⟨by decide +kernel, gmem 458 (by decide +kernel), gmem 459 (by decide +kernel), gmem 460 (by decide +kernel), gmem 15 (by decide +kernel), gmem 461 (by decide +kernel), by decide +kernel, by decide +kernel⟩
theorem lk_Do_109 : gLkS "GoldSheets$Dome" 109 2 K_Gs_valueAt := ⟨by decide +kernel, Or.inr (gmemN 462 (by decide +kernel)), gmem 290 (by decide +kernel), gmem 14 (by decide +kernel), gmem 291 (by decide +kernel), by decide +kernel, by decide +kernel⟩
theorem lk_Lw_111 : gLkV "GoldSheetsLaw" 111 1 K_Gs_pass := ⟨by decide +kernel, gmem 463 (by decide +kernel), gmem 464 (by decide +kernel), gmem 465 (by decide +kernel), gmem 14 (by decide +kernel), gmem 466 (by decide +kernel), by decide +kernel, by decide +kernel⟩
theorem lk_Gs_126 : gLkS "GoldSheets" 126 1 K_Gs_sumOf := ⟨by decide +kernel, Or.inl (gmem 468 (by decide +kernel)), gmem 469 (by decide +kernel), gmem 14 (by decide +kernel), gmem 470 (by decide +kernel), by decide +kernel, by decide +kernel⟩
theorem lk_Gs_130 : gLkV "GoldSheets" 130 0 K_Do_passDay := ⟨by decide +kernel, gmem 471 (by decide +kernel), gmem 472 (by decide +kernel), gmem 473 (by decide +kernel), gmem 15 (by decide +kernel), gmem 474 (by decide +kernel), by decide +kernel, by decide +kernel⟩
theorem lk_Do_113 : gLkV "GoldSheets$Dome" 113 1 K_Tr_tonesIn := ⟨by decide +kernel, gmem 475 (by decide +kernel), gmem 476 (by decide +kernel), gmem 477 (by decide +kernel), gmem 16 (by decide +kernel), gmem 478 (by decide +kernel), by decide +kernel, by decide +kernel⟩
theorem lk_Do_117 : gLkV "GoldSheets$Dome" 117 2 K_Tr_sortOut := ⟨by decide +kernel, gmem 479 (by decide +kernel), gmem 480 (by decide +kernel), gmem 481 (by decide +kernel), gmem 16 (by decide +kernel), gmem 482 (by decide +kernel), by decide +kernel, by decide +kernel⟩
theorem lk_Tr_42 : gLkV "GoldSheets$Trays" 42 1 K_Tr_mostOf := ⟨by decide +kernel, gmem 483 (by decide +kernel), gmem 485 (by decide +kernel), gmem 7 (by decide +kernel), gmem 16 (by decide +kernel), gmem 486 (by decide +kernel), by decide +kernel, by decide +kernel⟩
theorem lk_Tr_45 : gLkV "GoldSheets$Trays" 45 0 K_Tr_lowestEmpty := ⟨by decide +kernel, gmem 487 (by decide +kernel), gmem 489 (by decide +kernel), gmem 8 (by decide +kernel), gmem 16 (by decide +kernel), gmem 490 (by decide +kernel), by decide +kernel, by decide +kernel⟩
theorem lk_Tr_32 : gLkV "GoldSheets$Trays" 32 1 K_Tr_tonesIn := ⟨by decide +kernel, gmem 491 (by decide +kernel), gmem 476 (by decide +kernel), gmem 477 (by decide +kernel), gmem 16 (by decide +kernel), gmem 478 (by decide +kernel), by decide +kernel, by decide +kernel⟩
theorem lk_Tr_49 : gLkV "GoldSheets$Trays" 49 4 K_Tr_pour := ⟨by decide +kernel, gmem 492 (by decide +kernel), gmem 377 (by decide +kernel), gmem 378 (by decide +kernel), gmem 16 (by decide +kernel), gmem 379 (by decide +kernel), by decide +kernel, by decide +kernel⟩
theorem lk_Do_124 : gLkV "GoldSheets$Dome" 124 1 K_Do_canBeLaid := ⟨by decide +kernel, gmem 493 (by decide +kernel), gmem 495 (by decide +kernel), gmem 9 (by decide +kernel), gmem 15 (by decide +kernel), gmem 496 (by decide +kernel), by decide +kernel, by decide +kernel⟩
theorem lk_Do_134 : gLkV "GoldSheets$Dome" 134 1 K_Tr_readyOf := ⟨by decide +kernel, gmem 497 (by decide +kernel), gmem 498 (by decide +kernel), gmem 499 (by decide +kernel), gmem 16 (by decide +kernel), gmem 500 (by decide +kernel), by decide +kernel, by decide +kernel⟩
theorem lk_Do_128 : gLkV "GoldSheets$Dome" 128 1 K_Do_layOnce := ⟨by decide +kernel, gmem 501 (by decide +kernel), gmem 503 (by decide +kernel), gmem 10 (by decide +kernel), gmem 15 (by decide +kernel), gmem 504 (by decide +kernel), by decide +kernel, by decide +kernel⟩
theorem lk_Do_137 : gLkV "GoldSheets$Dome" 137 1 K_Do_takenFor := ⟨by decide +kernel, gmem 505 (by decide +kernel), gmem 506 (by decide +kernel), gmem 507 (by decide +kernel), gmem 15 (by decide +kernel), gmem 508 (by decide +kernel), by decide +kernel, by decide +kernel⟩
theorem lk_Do_140 : gLkV "GoldSheets$Dome" 140 2 K_Tr_takeReady := ⟨by decide +kernel, gmem 509 (by decide +kernel), gmem 510 (by decide +kernel), gmem 511 (by decide +kernel), gmem 16 (by decide +kernel), gmem 512 (by decide +kernel), by decide +kernel, by decide +kernel⟩
theorem lk_Do_143 : gLkV "GoldSheets$Dome" 143 2 K_Se_lay := ⟨by decide +kernel, gmem 513 (by decide +kernel), gmem 514 (by decide +kernel), gmem 515 (by decide +kernel), gmem 17 (by decide +kernel), gmem 516 (by decide +kernel), by decide +kernel, by decide +kernel⟩
theorem lk_Do_131 : gLkV "GoldSheets$Dome" 131 0 K_Do_dismissDone := ⟨by decide +kernel, gmem 517 (by decide +kernel), gmem 519 (by decide +kernel), gmem 11 (by decide +kernel), gmem 15 (by decide +kernel), gmem 520 (by decide +kernel), by decide +kernel, by decide +kernel⟩
theorem lk_Do_146 : gLkV "GoldSheets$Dome" 146 1 K_Do_countDone := ⟨by decide +kernel, gmem 521 (by decide +kernel), gmem 523 (by decide +kernel), gmem 12 (by decide +kernel), gmem 15 (by decide +kernel), gmem 524 (by decide +kernel), by decide +kernel, by decide +kernel⟩
theorem lk_Lw_73 : gLkV "GoldSheetsLaw" 73 1 K_Gs_setting := ⟨by decide +kernel, gmem 525 (by decide +kernel), gmem 526 (by decide +kernel), gmem 527 (by decide +kernel), gmem 14 (by decide +kernel), gmem 528 (by decide +kernel), by decide +kernel, by decide +kernel⟩
theorem lk_Lw_79 : gLkS "GoldSheetsLaw" 79 2 K_Lw_cell := ⟨by decide +kernel, Or.inl (gmem 529 (by decide +kernel)), gmem 530 (by decide +kernel), gmem 13 (by decide +kernel), gmem 531 (by decide +kernel), by decide +kernel, by decide +kernel⟩
theorem lk_Lw_69 : gLkS "GoldSheetsLaw" 69 2 K_Lw_low := ⟨by decide +kernel, Or.inl (gmem 534 (by decide +kernel)), gmem 535 (by decide +kernel), gmem 13 (by decide +kernel), gmem 536 (by decide +kernel), by decide +kernel, by decide +kernel⟩
theorem lk_Lw_10 : gLkS "GoldSheetsLaw" 10 2 K_Lw_sum := ⟨by decide +kernel, Or.inl (gmem 538 (by decide +kernel)), gmem 539 (by decide +kernel), gmem 13 (by decide +kernel), gmem 540 (by decide +kernel), by decide +kernel, by decide +kernel⟩
theorem lk_Lw_16 : gLkS "GoldSheetsLaw" 16 5 K_Lw_pour := ⟨by decide +kernel, Or.inl (gmem 541 (by decide +kernel)), gmem 542 (by decide +kernel), gmem 13 (by decide +kernel), gmem 543 (by decide +kernel), by decide +kernel, by decide +kernel⟩
theorem lk_Lw_107 : gLkS "GoldSheetsLaw" 107 5 K_Lw_day := ⟨by decide +kernel, Or.inl (gmem 544 (by decide +kernel)), gmem 545 (by decide +kernel), gmem 13 (by decide +kernel), gmem 546 (by decide +kernel), by decide +kernel, by decide +kernel⟩
theorem lk_Lw_20 : gLkS "GoldSheetsLaw" 20 2 K_Lw_isMixed := ⟨by decide +kernel, Or.inl (gmem 547 (by decide +kernel)), gmem 548 (by decide +kernel), gmem 13 (by decide +kernel), gmem 549 (by decide +kernel), by decide +kernel, by decide +kernel⟩
theorem lk_Lw_30 : gLkS "GoldSheetsLaw" 30 3 K_Lw_sort := ⟨by decide +kernel, Or.inl (gmem 550 (by decide +kernel)), gmem 551 (by decide +kernel), gmem 13 (by decide +kernel), gmem 552 (by decide +kernel), by decide +kernel, by decide +kernel⟩
theorem lk_Lw_34 : gLkS "GoldSheetsLaw" 34 4 K_Lw_isAhead := ⟨by decide +kernel, Or.inl (gmem 553 (by decide +kernel)), gmem 554 (by decide +kernel), gmem 13 (by decide +kernel), gmem 555 (by decide +kernel), by decide +kernel, by decide +kernel⟩
theorem lk_Lw_27 : gLkS "GoldSheetsLaw" 27 2 K_Lw_pure := ⟨by decide +kernel, Or.inl (gmem 556 (by decide +kernel)), gmem 557 (by decide +kernel), gmem 13 (by decide +kernel), gmem 558 (by decide +kernel), by decide +kernel, by decide +kernel⟩
theorem lk_Lw_38 : gLkS "GoldSheetsLaw" 38 5 K_Lw_setter := ⟨by decide +kernel, Or.inl (gmem 559 (by decide +kernel)), gmem 560 (by decide +kernel), gmem 13 (by decide +kernel), gmem 561 (by decide +kernel), by decide +kernel, by decide +kernel⟩
theorem lk_Lw_24 : gLkS "GoldSheetsLaw" 24 2 K_Lw_taken := ⟨by decide +kernel, Or.inl (gmem 562 (by decide +kernel)), gmem 563 (by decide +kernel), gmem 13 (by decide +kernel), gmem 564 (by decide +kernel), by decide +kernel, by decide +kernel⟩
theorem lk_Lw_76 : gLkS "GoldSheetsLaw" 76 6 K_Lw_tells := ⟨by decide +kernel, Or.inl (gmem 565 (by decide +kernel)), gmem 566 (by decide +kernel), gmem 13 (by decide +kernel), gmem 567 (by decide +kernel), by decide +kernel, by decide +kernel⟩
theorem lk_Lw_42 : gLkV "GoldSheetsLaw" 42 2 K_Gs_tray := ⟨by decide +kernel, gmem 568 (by decide +kernel), gmem 569 (by decide +kernel), gmem 570 (by decide +kernel), gmem 14 (by decide +kernel), gmem 571 (by decide +kernel), by decide +kernel, by decide +kernel⟩
theorem lk_Gs_179 : gLkV "GoldSheets" 179 1 K_Tr_heldInAll := ⟨by decide +kernel, gmem 572 (by decide +kernel), gmem 351 (by decide +kernel), gmem 352 (by decide +kernel), gmem 16 (by decide +kernel), gmem 353 (by decide +kernel), by decide +kernel, by decide +kernel⟩
theorem lk_Gs_184 : gLkV "GoldSheets" 184 2 K_Tr_held := ⟨by decide +kernel, gmem 573 (by decide +kernel), gmem 355 (by decide +kernel), gmem 356 (by decide +kernel), gmem 16 (by decide +kernel), gmem 357 (by decide +kernel), by decide +kernel, by decide +kernel⟩
theorem lk_Lw_48 : gLkV "GoldSheetsLaw" 48 2 K_Gs_sectionOf := ⟨by decide +kernel, gmem 574 (by decide +kernel), gmem 575 (by decide +kernel), gmem 576 (by decide +kernel), gmem 14 (by decide +kernel), gmem 577 (by decide +kernel), by decide +kernel, by decide +kernel⟩
theorem lk_Gs_189 : gLkV "GoldSheets" 189 2 K_Se_valueOf := ⟨by decide +kernel, gmem 579 (by decide +kernel), gmem 420 (by decide +kernel), gmem 421 (by decide +kernel), gmem 17 (by decide +kernel), gmem 422 (by decide +kernel), by decide +kernel, by decide +kernel⟩
theorem lk_Lw_51 : gLkV "GoldSheetsLaw" 51 1 K_Gs_count := ⟨by decide +kernel, gmem 580 (by decide +kernel), gmem 581 (by decide +kernel), gmem 582 (by decide +kernel), gmem 14 (by decide +kernel), gmem 583 (by decide +kernel), by decide +kernel, by decide +kernel⟩
theorem lk_Gs_218 : gLkV "GoldSheets" 218 0 K_Tr_mixedTrays := ⟨by decide +kernel, gmem 584 (by decide +kernel), gmem 585 (by decide +kernel), gmem 586 (by decide +kernel), gmem 16 (by decide +kernel), gmem 587 (by decide +kernel), by decide +kernel, by decide +kernel⟩
theorem lk_Gs_221 : gLkV "GoldSheets" 221 0 K_Tr_emptyTrays := ⟨by decide +kernel, gmem 588 (by decide +kernel), gmem 589 (by decide +kernel), gmem 590 (by decide +kernel), gmem 16 (by decide +kernel), gmem 591 (by decide +kernel), by decide +kernel, by decide +kernel⟩
theorem lk_Lw_55 : gLkS "GoldSheetsLaw" 55 6 K_Lw_gold := ⟨by decide +kernel, Or.inl (gmem 593 (by decide +kernel)), gmem 594 (by decide +kernel), gmem 13 (by decide +kernel), gmem 595 (by decide +kernel), by decide +kernel, by decide +kernel⟩
theorem lk_Lw_59 : gLkV "GoldSheetsLaw" 59 2 K_Gs_tone := ⟨by decide +kernel, gmem 596 (by decide +kernel), gmem 597 (by decide +kernel), gmem 598 (by decide +kernel), gmem 14 (by decide +kernel), gmem 599 (by decide +kernel), by decide +kernel, by decide +kernel⟩
theorem lk_Gs_192 : gLkV "GoldSheets" 192 1 K_Tr_heldOf := ⟨by decide +kernel, gmem 600 (by decide +kernel), gmem 601 (by decide +kernel), gmem 602 (by decide +kernel), gmem 16 (by decide +kernel), gmem 603 (by decide +kernel), by decide +kernel, by decide +kernel⟩
theorem lk_Gs_195 : gLkV "GoldSheets" 195 1 K_Tr_readyOf := ⟨by decide +kernel, gmem 604 (by decide +kernel), gmem 498 (by decide +kernel), gmem 499 (by decide +kernel), gmem 16 (by decide +kernel), gmem 500 (by decide +kernel), by decide +kernel, by decide +kernel⟩
theorem lk_Gs_204 : gLkV "GoldSheets" 204 1 K_Se_wantedOf := ⟨by decide +kernel, gmem 605 (by decide +kernel), gmem 606 (by decide +kernel), gmem 607 (by decide +kernel), gmem 17 (by decide +kernel), gmem 608 (by decide +kernel), by decide +kernel, by decide +kernel⟩
theorem lk_Lw_62 : gLkV "GoldSheetsLaw" 62 1 K_Gs_missing := ⟨by decide +kernel, gmem 610 (by decide +kernel), gmem 611 (by decide +kernel), gmem 612 (by decide +kernel), gmem 14 (by decide +kernel), gmem 613 (by decide +kernel), by decide +kernel, by decide +kernel⟩
theorem lk_Gs_235 : gLkV "GoldSheets" 235 1 K_Do_missingSheets := ⟨by decide +kernel, gmem 614 (by decide +kernel), gmem 615 (by decide +kernel), gmem 616 (by decide +kernel), gmem 15 (by decide +kernel), gmem 617 (by decide +kernel), by decide +kernel, by decide +kernel⟩
theorem lk_Do_149 : gLkV "GoldSheets$Dome" 149 1 K_Tr_heldOf := ⟨by decide +kernel, gmem 618 (by decide +kernel), gmem 601 (by decide +kernel), gmem 602 (by decide +kernel), gmem 16 (by decide +kernel), gmem 603 (by decide +kernel), by decide +kernel, by decide +kernel⟩
theorem lk_Lw_65 : gLkV "GoldSheetsLaw" 65 0 K_Gs_laidShare := ⟨by decide +kernel, gmem 619 (by decide +kernel), gmem 620 (by decide +kernel), gmem 621 (by decide +kernel), gmem 14 (by decide +kernel), gmem 622 (by decide +kernel), by decide +kernel, by decide +kernel⟩
theorem lk_Lw_98 : gLkS "GoldSheetsLaw" 98 2 K_Lw_value := ⟨by decide +kernel, Or.inl (gmem 623 (by decide +kernel)), gmem 624 (by decide +kernel), gmem 13 (by decide +kernel), gmem 625 (by decide +kernel), by decide +kernel, by decide +kernel⟩
def gLc (_ _ : Nat) : Option Int64 := none
def gDc (_ _ : Nat) : Option UInt64 := none
theorem gLc_ok {o i : Nat} {x : Int64} (h : gLc o i = some x) : Cond.constantLong (gown o) i x ∈ gTs := nomatch h
theorem gDc_ok {o i : Nat} {x : UInt64} (h : gDc o i = some x) : Cond.constantDouble (gown o) i x ∈ gTs := nomatch h
def gIc (o i : Nat) : Option Int32 := match o, i with
  | 7, 7 => some 32452867
  | 7, 8 => some 15485863
  | 7, 9 => some 2147483647
  | _, _ => none
theorem gIc_ok {o i : Nat} {x : Int32} (h : gIc o i = some x) : Cond.constant (gown o) i x ∈ gTs := by
  unfold gIc at h
  split at h
  · cases h; exact gmem 532 (by decide +kernel)
  · cases h; exact gmem 533 (by decide +kernel)
  · cases h; exact gmem 537 (by decide +kernel)
  · cases h
/-- the written texts: class, pool index, text -/
def gStr : List (String × Nat × String) := [("GoldSheets", 313, "there is none of this number"), ("GoldSheets", 315, "a value is out of range"), ("GoldSheets", 54, "the store would have too many sheets"), ("GoldSheets", 67, "the store has no sheet of the tone"), ("GoldSheets", 75, "both trays are the same"), ("GoldSheets", 95, "there are as many sections as there may be"), ("GoldSheets", 310, "there is no such section"), ("GoldSheets", 113, "not every cube can break"), ("GoldSheets", 121, "the day would be above the last one"), ("GoldSheets", 187, "a place is not below 0"), ("GoldSheets", 227, "there is no such number"), ("GoldSheets", 207, "a tone has no such number")]
theorem gStr_in : ∀ q ∈ gStr, Cond.stringRef q.1 q.2.1 q.2.2 ∈ lw_tbl := by
  unfold gStr
  exact List.forall_mem_cons.mpr ⟨List.mem_of_getElem? (i := 243) (by decide +kernel), List.forall_mem_cons.mpr ⟨List.mem_of_getElem? (i := 282) (by decide +kernel), List.forall_mem_cons.mpr ⟨List.mem_of_getElem? (i := 301) (by decide +kernel), List.forall_mem_cons.mpr ⟨List.mem_of_getElem? (i := 341) (by decide +kernel), List.forall_mem_cons.mpr ⟨List.mem_of_getElem? (i := 371) (by decide +kernel), List.forall_mem_cons.mpr ⟨List.mem_of_getElem? (i := 398) (by decide +kernel), List.forall_mem_cons.mpr ⟨List.mem_of_getElem? (i := 439) (by decide +kernel), List.forall_mem_cons.mpr ⟨List.mem_of_getElem? (i := 457) (by decide +kernel), List.forall_mem_cons.mpr ⟨List.mem_of_getElem? (i := 467) (by decide +kernel), List.forall_mem_cons.mpr ⟨List.mem_of_getElem? (i := 578) (by decide +kernel), List.forall_mem_cons.mpr ⟨List.mem_of_getElem? (i := 592) (by decide +kernel), List.forall_mem_cons.mpr ⟨List.mem_of_getElem? (i := 609) (by decide +kernel), fun _ h => absurd h List.not_mem_nil⟩⟩⟩⟩⟩⟩⟩⟩⟩⟩⟩⟩
