/-! ROWS: a section's five cells; both sides hold the same rows, in orders of their own -/
abbrev Rw : Type := Int32 × Int32 × Int32 × Int32 × Int32
abbrev rNo (r : Rw) : Int32 := r.1
abbrev rTo (r : Rw) : Int32 := r.2.1
abbrev rWa (r : Rw) : Int32 := r.2.2.1
abbrev rDu (r : Rw) : Int32 := r.2.2.2.1
abbrev rHa (r : Rw) : Int32 := r.2.2.2.2
def row (g : Nat → Int32) (p : Nat) : Rw := (g (p * 5 + 0), g (p * 5 + 1), g (p * 5 + 2), g (p * 5 + 3), g (p * 5 + 4))
def rows (g : Nat → Int32) (n : Nat) : List Rw := (List.range n).map (row g)
def rk (k : Nat) (r : Rw) : Int32 := if k = 2 then rWa r else rDu r
def rlt (k : Nat) (r s : Rw) : Prop := if rk k r = rk k s then rNo r < rNo s else rk k r < rk k s
abbrev rne (r s : Rw) : Prop := rNo r ≠ rNo s
theorem rlt_iff {k : Nat} {r s : Rw} : rlt k r s ↔ (rk k r).toInt < (rk k s).toInt ∨ ((rk k r).toInt = (rk k s).toInt ∧ (rNo r).toInt < (rNo s).toInt) := by
  unfold rlt
  by_cases h : rk k r = rk k s
  · rw [if_pos h, h, ilt]
    omega
  · rw [if_neg h, ilt]
    have := mt ieq.mpr h
    omega
theorem rlt_ir {k : Nat} {r : Rw} : ¬ rlt k r r := by rw [rlt_iff]; omega
theorem rlt_tr {k : Nat} {r s t : Rw} (h1 : rlt k r s) (h2 : rlt k s t) : rlt k r t := by rw [rlt_iff] at *; omega
theorem rlt_tot {k : Nat} {r s : Rw} (h : rne r s) (h1 : ¬ rlt k r s) : rlt k s r := by
  have := mt ieq.mpr h
  rw [rlt_iff] at *
  omega
theorem cb_row {k : Nat} (hk : k = 2 ∨ k = 3) (g : Nat → Int32) (p o : Nat) : cb k g p o = true ↔ rlt k (row g p) (row g o) := by
  unfold cb rlt
  rcases hk with rfl | rfl
  · show _ ↔ if g (p * 5 + 2) = g (o * 5 + 2) then g (p * 5 + 0) < g (o * 5 + 0) else g (p * 5 + 2) < g (o * 5 + 2)
    split <;> simp
  · show _ ↔ if g (p * 5 + 3) = g (o * 5 + 3) then g (p * 5 + 0) < g (o * 5 + 0) else g (p * 5 + 3) < g (o * 5 + 3)
    split <;> simp
theorem keyOf_k (o : Int32) : keyOf o = 2 ∨ keyOf o = 3 := by unfold keyOf; split <;> simp
/-- one order alone is right -/
theorem uniq {k : Nat} : ∀ {l1 l2 : List Rw}, l1.Perm l2 → l1.Pairwise (rlt k) → l2.Pairwise (rlt k) → l1 = l2
  | [], l2, h, _, _ => (List.nil_perm.mp h).symm
  | a :: t1, l2, h, h1, h2 => by
    cases l2 with
    | nil => exact absurd h (by simp)
    | cons b t2 =>
      have ha : a ∈ b :: t2 := h.mem_iff.mp List.mem_cons_self
      have hb : b ∈ a :: t1 := h.mem_iff.mpr List.mem_cons_self
      obtain ⟨p1, q1⟩ := List.pairwise_cons.mp h1
      obtain ⟨p2, q2⟩ := List.pairwise_cons.mp h2
      have hab : a = b := by
        rcases List.mem_cons.mp ha with e | ha
        · exact e
        · rcases List.mem_cons.mp hb with e | hb
          · exact e.symm
          · exact absurd (rlt_tr (p1 b hb) (p2 a ha)) rlt_ir
      subst hab
      rw [uniq ((List.perm_cons a).mp h) q1 q2]
theorem rows_s (g : Nat → Int32) (n : Nat) : rows g (n + 1) = rows g n ++ [row g n] := by
  unfold rows
  rw [List.range_succ, List.map_append]
  rfl
theorem rows_c {g g' : Nat → Int32} {n : Nat} (h : ∀ p, p < n → row g p = row g' p) : rows g n = rows g' n := by
  unfold rows
  exact List.map_congr_left fun p hp => h p (List.mem_range.mp hp)
theorem rows_len (g : Nat → Int32) (n : Nat) : (rows g n).length = n := by unfold rows; simp
theorem rows_mem {g : Nat → Int32} {n p : Nat} (h : p < n) : row g p ∈ rows g n := List.mem_map_of_mem (List.mem_range.mpr h)
theorem rows_of {g : Nat → Int32} {n : Nat} {r : Rw} (h : r ∈ rows g n) : ∃ p, p < n ∧ r = row g p := by
  obtain ⟨p, hp, e⟩ := List.mem_map.mp h
  exact ⟨p, List.mem_range.mp hp, e.symm⟩
theorem rows_at {g : Nat → Int32} {n p : Nat} (h : p < n) : (rows g n)[p]? = some (row g p) := by
  unfold rows
  rw [List.getElem?_map, List.getElem?_range h]
  rfl
theorem row_swap {g : Nat → Int32} {p o : Nat} (hpo : p ≠ o) (q : Nat) : row (swapF g p o) q = row g (if q = o then p else if q = p then o else q) := by
  unfold row
  rw [swapF_at hpo (by omega), swapF_at hpo (by omega), swapF_at hpo (by omega), swapF_at hpo (by omega), swapF_at hpo (by omega)]
theorem inn_ok {k : Nat} (hk : k = 2 ∨ k = 3) : ∀ (p : Nat) (g : Nat → Int32), (rows g p).Pairwise (rlt k) → (rows g (p + 1)).Pairwise rne → (rows (inn k p g) (p + 1)).Pairwise (rlt k) ∧ (rows (inn k p g) (p + 1)).Perm (rows g (p + 1)) ∧ ∀ q, p < q → row (inn k p g) q = row g q
  | 0, g, _, _ => ⟨List.pairwise_singleton _ _, List.Perm.refl _, fun _ _ => rfl⟩
  | p + 1, g, h, hd => by
    rw [rows_s] at h
    obtain ⟨h1, -, h2⟩ := List.pairwise_append.mp h
    unfold inn
    by_cases hc : cb k g (p + 1) p = true
    · rw [if_pos hc]
      have hne : p + 1 ≠ p := by omega
      have e1 : ∀ q, q < p → row (swapF g (p + 1) p) q = row g q := fun q hq => by rw [row_swap hne, if_neg (by omega), if_neg (by omega)]
      have e2 : row (swapF g (p + 1) p) p = row g (p + 1) := by rw [row_swap hne, if_pos rfl]
      have e3 : row (swapF g (p + 1) p) (p + 1) = row g p := by rw [row_swap hne, if_neg (by omega), if_pos rfl]
      have e4 : rows (swapF g (p + 1) p) (p + 1) = rows g p ++ [row g (p + 1)] := by rw [rows_s, rows_c e1, e2]
      have hd' : (rows (swapF g (p + 1) p) (p + 1)).Pairwise rne := by
        rw [e4]
        rw [rows_s, rows_s, List.append_assoc] at hd
        obtain ⟨d1, d2, d3⟩ := List.pairwise_append.mp hd
        exact List.pairwise_append.mpr ⟨d1, List.pairwise_singleton _ _, fun a ha b hb => d3 a ha b (by rw [List.mem_singleton.mp hb]; simp)⟩
      obtain ⟨i1, i2, i3⟩ := inn_ok hk p (swapF g (p + 1) p) (by rw [rows_c e1]; exact h1) hd'
      have e5 : rows (inn k p (swapF g (p + 1) p)) (p + 1 + 1) = rows (inn k p (swapF g (p + 1) p)) (p + 1) ++ [row g p] := by rw [rows_s, i3 (p + 1) (by omega), e3]
      refine ⟨?_, ?_, fun q hq => ?_⟩
      · rw [e5]
        refine List.pairwise_append.mpr ⟨i1, List.pairwise_singleton _ _, fun a ha b hb => ?_⟩
        rw [List.mem_singleton.mp hb]
        have ha := i2.mem_iff.mp ha
        rw [e4] at ha
        rcases List.mem_append.mp ha with ha | ha
        · exact h2 a ha _ (List.mem_singleton.mpr rfl)
        · rw [List.mem_singleton.mp ha]
          exact (cb_row hk g _ _).mp hc
      · rw [e5, rows_s g (p + 1), rows_s g p]
        refine (i2.append_right _).trans ?_
        rw [e4, List.append_assoc, List.append_assoc]
        exact List.Perm.append_left _ (List.Perm.swap _ _ _)
      · rw [i3 q (by omega), row_swap hne, if_neg (by omega), if_neg (by omega)]
    · rw [if_neg hc]
      refine ⟨?_, List.Perm.refl _, fun _ _ => rfl⟩
      rw [rows_s g (p + 1), rows_s g p]
      have hlt : rlt k (row g p) (row g (p + 1)) := by
        refine rlt_tot ?_ (fun q => hc ((cb_row hk g _ _).mpr q))
        rw [rows_s, rows_s, List.append_assoc] at hd
        obtain ⟨-, d2, -⟩ := List.pairwise_append.mp hd
        have := (List.pairwise_cons.mp d2).1 (row g (p + 1)) (by simp)
        exact fun q => this q.symm
      refine List.pairwise_append.mpr ⟨h, List.pairwise_singleton _ _, fun a ha b hb => ?_⟩
      rw [List.mem_singleton.mp hb]
      rcases List.mem_append.mp ha with ha | ha
      · exact rlt_tr (h2 a ha _ (List.mem_singleton.mpr rfl)) hlt
      · rw [List.mem_singleton.mp ha]; exact hlt
theorem arr_s {k : Nat} (hk : k = 2 ∨ k = 3) {g : Nat → Int32} : ∀ s, (rows g (s + 1)).Pairwise rne → (rows (arrO k g s) (s + 1)).Pairwise (rlt k) ∧ (rows (arrO k g s) (s + 1)).Perm (rows g (s + 1)) ∧ ∀ q, s < q → row (arrO k g s) q = row g q
  | 0, _ => ⟨List.pairwise_singleton _ _, List.Perm.refl _, fun _ _ => rfl⟩
  | s + 1, hd => by
    have hd0 := hd
    rw [rows_s] at hd
    obtain ⟨a1, a2, a3⟩ := arr_s hk s (List.pairwise_append.mp hd).1
    have e1 : rows (arrO k g s) (s + 1 + 1) = rows (arrO k g s) (s + 1) ++ [row g (s + 1)] := by rw [rows_s, a3 (s + 1) (by omega)]
    have hp : (rows (arrO k g s) (s + 1 + 1)).Perm (rows g (s + 1 + 1)) := by rw [e1, rows_s g (s + 1)]; exact a2.append_right _
    obtain ⟨i1, i2, i3⟩ := inn_ok hk (s + 1) (arrO k g s) a1 ((hp.pairwise_iff (fun h => Ne.symm h)).mpr hd0)
    exact ⟨i1, i2.trans hp, fun q hq => by show row (inn k (s + 1) (arrO k g s)) q = _; rw [i3 q hq, a3 q (by omega)]⟩
/-- sorted by the order's key -/
theorem arr_n {k : Nat} (hk : k = 2 ∨ k = 3) {g : Nat → Int32} {n : Nat} (hd : (rows g n).Pairwise rne) : (rows (arrO k g (n - 1)) n).Pairwise (rlt k) ∧ (rows (arrO k g (n - 1)) n).Perm (rows g n) := by
  cases n with
  | zero => exact ⟨List.Pairwise.nil, List.Perm.refl _⟩
  | succ n => exact ⟨(arr_s hk n hd).1, (arr_s hk n hd).2.1⟩
/-! the reference's order: a list of places -/
def ol (od : Nat → Nat) (n : Nat) : List Nat := (List.range n).map od
theorem ol_s (od : Nat → Nat) (n : Nat) : ol od (n + 1) = ol od n ++ [od n] := by
  unfold ol
  rw [List.range_succ, List.map_append]
  rfl
theorem ol_c {od od' : Nat → Nat} {n : Nat} (h : ∀ p, p < n → od p = od' p) : ol od n = ol od' n := by
  unfold ol
  exact List.map_congr_left fun p hp => h p (List.mem_range.mp hp)
theorem updN_at (f : Nat → Nat) (i v : Nat) : updN f i v i = v := if_pos rfl
theorem updN_ne (f : Nat → Nat) {i j : Nat} (v : Nat) (h : j ≠ i) : updN f i v j = f j := if_neg h
abbrev olt (k : Nat) (g : Nat → Int32) (i j : Nat) : Prop := rlt k (row g i) (row g j)
theorem loI_ok {k : Nat} (hk : k = 2 ∨ k = 3) {g : Nat → Int32} {s : Nat} : ∀ (a : Nat) (od : Nat → Nat), (ol od a).Pairwise (olt k g) → (∀ i ∈ ol od a, rne (row g i) (row g s)) → (ol (loI k g s a od) (a + 1)).Pairwise (olt k g) ∧ (ol (loI k g s a od) (a + 1)).Perm (ol od a ++ [s]) ∧ ∀ q, a < q → loI k g s a od q = od q
  | 0, od, _, _ => by
    unfold loI
    refine ⟨List.pairwise_singleton _ _, ?_, fun q hq => updN_ne _ _ (by omega)⟩
    rw [ol_s, updN_at]
    exact List.Perm.refl _
  | a + 1, od, h, hd => by
    rw [ol_s] at h hd
    obtain ⟨h1, -, h2⟩ := List.pairwise_append.mp h
    have hc0 : bI (cb k g s (od a)) = 0 ↔ ¬ rlt k (row g s) (row g (od a)) := by
      rw [← cb_row hk]
      refine ⟨fun q => by rw [bI_f q]; simp, fun q => ?_⟩
      cases hz : cb k g s (od a) with
      | true => exact absurd hz q
      | false => rfl
    unfold loI
    by_cases hc : bI (cb k g s (od a)) = 0
    · rw [if_pos hc]
      have e1 : ol (updN od (a + 1) s) (a + 1) = ol od (a + 1) := ol_c fun p hp => updN_ne _ _ (by omega)
      have hlt : rlt k (row g (od a)) (row g s) := rlt_tot (fun q => hd (od a) (by simp) q.symm) (hc0.mp hc)
      refine ⟨?_, ?_, fun q hq => updN_ne _ _ (by omega)⟩
      · rw [ol_s, e1, updN_at, ol_s]
        refine List.pairwise_append.mpr ⟨h, List.pairwise_singleton _ _, fun x hx b hb => ?_⟩
        rw [List.mem_singleton.mp hb]
        rcases List.mem_append.mp hx with hx | hx
        · exact rlt_tr (h2 x hx _ (List.mem_singleton.mpr rfl)) hlt
        · rw [List.mem_singleton.mp hx]; exact hlt
      · rw [ol_s, e1, updN_at]
    · rw [if_neg hc]
      have hlt : rlt k (row g s) (row g (od a)) := Classical.byContradiction fun q => hc (hc0.mpr q)
      have e1 : ol (updN od (a + 1) (od a)) a = ol od a := ol_c fun p hp => updN_ne _ _ (by omega)
      obtain ⟨i1, i2, i3⟩ := loI_ok hk (s := s) a (updN od (a + 1) (od a)) (by rw [e1]; exact h1) (by rw [e1]; exact fun i hi => hd i (List.mem_append_left _ hi))
      rw [e1] at i2
      have e2 : loI k g s a (updN od (a + 1) (od a)) (a + 1) = od a := by rw [i3 (a + 1) (by omega), updN_at]
      refine ⟨?_, ?_, fun q hq => ?_⟩
      · rw [ol_s, e2]
        refine List.pairwise_append.mpr ⟨i1, List.pairwise_singleton _ _, fun x hx b hb => ?_⟩
        rw [List.mem_singleton.mp hb]
        rcases List.mem_append.mp (i2.mem_iff.mp hx) with hx | hx
        · exact h2 x hx _ (List.mem_singleton.mpr rfl)
        · rw [List.mem_singleton.mp hx]; exact hlt
      · rw [ol_s, e2, ol_s od a]
        refine (i2.append_right _).trans ?_
        rw [List.append_assoc, List.append_assoc]
        exact List.Perm.append_left _ (List.Perm.swap _ _ _)
      · rw [i3 q (by omega), updN_ne _ _ (by omega)]
theorem loR_ok {k : Nat} (hk : k = 2 ∨ k = 3) {g : Nat → Int32} {od : Nat → Nat} : ∀ n, (rows g n).Pairwise rne → (ol (loR k g n od) n).Pairwise (olt k g) ∧ (ol (loR k g n od) n).Perm (List.range n)
  | 0, _ => ⟨List.Pairwise.nil, List.Perm.refl _⟩
  | n + 1, hd => by
    rw [rows_s] at hd
    obtain ⟨d1, -, d2⟩ := List.pairwise_append.mp hd
    obtain ⟨a1, a2⟩ := loR_ok hk (od := od) n d1
    obtain ⟨i1, i2, -⟩ := loI_ok hk (s := n) n (loR k g n od) a1 (fun i hi => d2 _ (rows_mem (List.mem_range.mp (a2.mem_iff.mp hi))) _ (List.mem_singleton.mpr rfl))
    refine ⟨i1, i2.trans ?_⟩
    rw [List.range_succ]
    exact a2.append_right _
/-- the class's places are the reference's, in its order -/
theorem ord_row {k : Nat} (hk : k = 2 ∨ k = 3) {g G : Nat → Int32} {n : Nat} {od : Nat → Nat} (hp : (rows g n).Perm (rows G n)) (hs : (rows g n).Pairwise (rlt k)) (hd : (rows G n).Pairwise rne) : (∀ p, p < n → row g p = row G (loR k G n od p)) ∧ (ol (loR k G n od) n).Perm (List.range n) := by
  obtain ⟨a1, a2⟩ := loR_ok hk (od := od) n hd
  refine ⟨fun p hpn => ?_, a2⟩
  have e : rows g n = (ol (loR k G n od) n).map (row G) := by
    refine uniq (hp.trans ?_) hs (List.pairwise_map.mpr a1)
    exact (a2.map (row G)).symm
  have h1 := rows_at (g := g) hpn
  rw [e, List.getElem?_map] at h1
  have h2 : (ol (loR k G n od) n)[p]? = some (loR k G n od p) := by
    unfold ol
    rw [List.getElem?_map, List.getElem?_range hpn]
    rfl
  rw [h2] at h1
  exact (Option.some.inj h1).symm
