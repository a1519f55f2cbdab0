/-! calls over large heaps: the callee's cells are one or two stretches of the caller's -/
def gseg (h : gH) (a k : Nat) (es : List gC) : gH := h.take a ++ (es.take k ++ h.drop (a + k))
def gseg2 (h : gH) (a k b m : Nat) (es : List gC) : gH := gseg (gseg h a k es) b m (es.drop k)
abbrev gps (a k b m : Nat) : List Nat := List.range' a k ++ List.range' b m
theorem gseg_step {h : gH} {a k : Nat} {e : gC} {es : List gC} (hl : a + (k + 1) ≤ h.length) : gseg (h.set a e) (a + 1) k es = gseg h a (k + 1) (e :: es) := by
  unfold gseg
  have ha : a < h.length := by omega
  have h1 : (h.set a e).take (a + 1) = h.take a ++ [e] := by
    rw [List.take_succ, List.take_set_of_le (Nat.le_refl a)]
    rw [List.getElem?_set_self ha]
    rfl
  have h2 : (h.set a e).drop (a + 1 + k) = h.drop (a + (k + 1)) := by
    rw [show a + 1 + k = a + (k + 1) by omega, List.drop_set_of_lt (by omega)]
  rw [h1, h2, List.append_assoc]
  rfl
theorem gsets_seg : ∀ (k a : Nat) (h : gH) (es : List gC) (ps : List Nat), es.length = k + ps.length → a + k ≤ h.length → gsets h (List.range' a k ++ ps) es = gsets (gseg h a k es) ps (es.drop k)
  | 0, a, h, es, ps, _, _ => by
    have : gseg h a 0 es = h := by
      unfold gseg
      rw [List.take_zero, Nat.add_zero, List.nil_append, List.take_append_drop]
    rw [this]
    rfl
  | k + 1, a, h, [], ps, he, _ => by simp at he; omega
  | k + 1, a, h, e :: es, ps, he, hl => by
    have he2 : es.length = k + ps.length := by simp at he; omega
    show gsets (h.set a e) (List.range' (a + 1) k ++ ps) es = _
    rw [gsets_seg k (a + 1) (h.set a e) es ps he2 (by rw [List.length_set]; omega), gseg_step hl]
    rfl
theorem gseg_len {h : gH} {a k : Nat} {es : List gC} (hl : a + k ≤ h.length) (he : k ≤ es.length) : (gseg h a k es).length = h.length := by
  unfold gseg
  simp only [List.length_append, List.length_take, List.length_drop]
  omega
theorem gsets_seg2 {h : gH} {a k b m : Nat} {es : List gC} (he : es.length = k + m) (h1 : a + k ≤ h.length) (h2 : b + m ≤ h.length) : gsets h (gps a k b m) es = gseg2 h a k b m es := by
  unfold gps gseg2
  rw [gsets_seg k a h es (List.range' b m) (by rw [List.length_range']; exact he) h1]
  have h3 := gsets_seg m b (gseg h a k es) (es.drop k) [] (by rw [List.length_drop]; simp; omega) (by rw [gseg_len h1 (by omega)]; exact h2)
  rw [List.append_nil] at h3
  rw [h3]
  cases hx : (es.drop k).drop m with
  | nil => rfl
  | cons x xs =>
    have := congrArg List.length hx
    simp [List.length_drop] at this
    omega
theorem gmap_seg {h : gH} : ∀ (k a : Nat), a + k ≤ h.length → (List.range' a k).map (fun j => h[j]?) = ((h.drop a).take k).map some
  | 0, a, _ => rfl
  | k + 1, a, hl => by
    have ha : a < h.length := by omega
    have h1 : h.drop a = h[a] :: h.drop (a + 1) := List.drop_eq_getElem_cons ha
    show h[a]? :: (List.range' (a + 1) k).map (fun j => h[j]?) = _
    rw [gmap_seg k (a + 1) (by omega), h1, List.take_succ_cons, List.map_cons, List.getElem?_eq_getElem ha]
theorem gCut_seg {h hc : gH} {a k b m : Nat} (h1 : a + k ≤ h.length) (h2 : b + m ≤ h.length) (he : (h.drop a).take k ++ (h.drop b).take m = hc.map (gre (gren (gps a k b m) h.length))) (hnd : va_nd (gps a k b m) = true) : gCut h hc (gps a k b m) := by
  refine ⟨?_, hnd⟩
  unfold gps
  rw [List.map_append, gmap_seg k a h1, gmap_seg m b h2, ← List.map_append, he, List.map_map]
  rfl
section GD2
variable {K : gK} {sc : Nat × (Nat → Int32)} {R R' : Room} {n0 : Nat} {E : gO → gH → Prop} {cs ss pc : Nat} {l : gL} {st : List Value} {h hc : gH}
theorem gAft_s {a k b m : Nat} {v : Option Value} {hc' h' : gH} {st' : List Value} {pc' : Nat} {cs' ss' : Nat} (h1 : a + k ≤ h.length) (h2 : b + m ≤ h.length) (hl0 : hc.length = k + m) (hlen : hc'.length = hc.length) (hwf : hc'.all (gwf hc.length) = true) (hvf : v.toList.all (gwv hc.length) = true) (hh : gseg2 h a k b m (hc'.map (gre (gren (gps a k b m) h.length))) = h') (hs : (v.map (gmv (gren (gps a k b m) h.length))).toList ++ st = st') (hpc : pc + 3 = pc') (hcs : cs + R'.cells = cs') (hss : ss + R'.slots = ss') (kk : gW K sc R n0 E cs' ss' pc' l st' h') : gAft K sc R R' n0 E (gD (.inl v) hc') cs ss pc l st h hc (gps a k b m) :=
  gAft_r hlen (by rw [hwf, hvf]; rfl) ((gsets_seg2 (by rw [List.length_map, hlen, hl0]) h1 h2).trans hh) hs hpc hcs hss kk
theorem gAft_sx {a k b m : Nat} {Xc : String} {hc' h' : gH} (h1 : a + k ≤ h.length) (h2 : b + m ≤ h.length) (hl0 : hc.length = k + m) (hlen : hc'.length = hc.length) (hwf : hc'.all (gwf hc.length) = true) (hh : gseg2 h a k b m (hc'.map (gre (gren (gps a k b m) h.length))) = h') (hn : h.length = n0) (hw : h'.all (gwf n0) = true) (hE : E (.inr Xc) h') (ht : K.2.2.2.2.2 = []) : gAft K sc R R' n0 E (gD (.inr Xc) hc') cs ss pc l st h hc (gps a k b m) := by
  have he := (gsets_seg2 (h := h) (a := a) (k := k) (b := b) (m := m) (es := hc'.map (gre (gren (gps a k b m) h.length))) (by rw [List.length_map, hlen, hl0]) h1 h2).trans hh
  exact gAft_x hwf hn (by rw [he]; exact hw) (by rw [he]; exact hE) ht
end GD2
theorem nI_ne_m1 {n : Nat} (h : n < 2 ^ 31) : ¬ nI n = -1 := fun q => nI_pos h (by rw [q]; decide)
