/-! THE LAW's loop. Printed by wip/whole/meths26.py -/
def T_LH : List (Nat × Instr) := [(0, .new 8), (3, .dup), (4, .invokespecial 82), (7, .astore_n 1), (8, .new 83), (11, .dup), (12, .invokespecial 85), (15, .astore_n 2), (16, .iconst 1), (17, .newarray .long), (19, .astore_n 3), (20, .iconst 0), (21, .istore 4), (23, .iload 4), (25, .aload_n 0), (26, .arraylength), (27, .iconst 4), (28, .isub), (29, .if_icmp .gt 1482), (32, .aload_n 0), (33, .iload 4), (35, .iaload), (36, .bipush 31), (38, .iand)]
theorem D_LH : gdec code T_LH = true := by decide +kernel
theorem S_LH : decode code 39 = .ok (.tableswitch 1466 0 24 #[113, 181, 249, 317, 373, 453, 509, 577, 633, 689, 702, 715, 759, 803, 871, 939, 1007, 1063, 1119, 1175, 1231, 1299, 1355, 1411, 1452], 113) := by decide +kernel
/-- what the calls' pairs must be, for the law to hold: Rel j is what holds behind j calls -/
def LawHyp (Rel : Nat → gGS → gMo → Prop) : Prop := (∀ j S M, Rel j S M → sR S < 6) ∧ (∀ j S M, Rel j S M → Rel (j + 1) S M) ∧ (∀ (j : Nat) (S : gGS) (M : gMo) (o : Nat → Int64) (a0 a1 : Int32), j < 512 → Rel j S M → prP (Rel (j + 1)) S M o K_Lw_store K_Mo_store [.int a0, .int a1]) ∧ (∀ (j : Nat) (S : gGS) (M : gMo) (o : Nat → Int64) (a0 a1 : Int32), j < 512 → Rel j S M → prP (Rel (j + 1)) S M o K_Lw_cut K_Mo_cut [.int a0, .int a1]) ∧ (∀ (j : Nat) (S : gGS) (M : gMo) (o : Nat → Int64) (a0 a1 : Int32), j < 512 → Rel j S M → prP (Rel (j + 1)) S M o K_Lw_tip K_Mo_tip [.int a0, .int a1]) ∧ (∀ (j : Nat) (S : gGS) (M : gMo) (o : Nat → Int64) (a0 : Int32), j < 512 → Rel j S M → prP (Rel (j + 1)) S M o K_Lw_sweep K_Mo_sweep [.int a0]) ∧ (∀ (j : Nat) (S : gGS) (M : gMo) (o : Nat → Int64) (a0 a1 a2 : Int32), j < 512 → Rel j S M → prP (Rel (j + 1)) S M o K_Lw_section K_Mo_section [.int a0, .int a1, .int a2]) ∧ (∀ (j : Nat) (S : gGS) (M : gMo) (o : Nat → Int64) (a0 : Int32), j < 512 → Rel j S M → prP (Rel (j + 1)) S M o K_Lw_drop K_Mo_drop [.int a0]) ∧ (∀ (j : Nat) (S : gGS) (M : gMo) (o : Nat → Int64) (a0 a1 : Int32), j < 512 → Rel j S M → prP (Rel (j + 1)) S M o K_Lw_set K_Mo_set [.int a0, .int a1]) ∧ (∀ (j : Nat) (S : gGS) (M : gMo) (o : Nat → Int64) (a0 : Int32), j < 512 → Rel j S M → prP (Rel (j + 1)) S M o K_Lw_pass K_Mo_pass [.int a0]) ∧ (∀ (j : Nat) (S : gGS) (M : gMo) (o : Nat → Int64) (a0 : Int32), j < 512 → Rel j S M → prP (Rel (j + 1)) S M o K_Lw_append K_Mo_append [.int a0]) ∧ (∀ (j : Nat) (S : gGS) (M : gMo), j < 512 → Rel j S M → prV (Rel (j + 1)) S M K_Gs_clearBuffer K_Mo_clearBuffer (fun v => ∃ x : Int32, v = .int x)) ∧ (∀ (j : Nat) (S : gGS) (M : gMo), j < 512 → Rel j S M → prV (Rel (j + 1)) S M K_Gs_firstError K_Mo_firstError (fun v => ∃ x : Int32, v = .int x)) ∧ (∀ (j : Nat) (S : gGS) (M : gMo) (o : Nat → Int64) , j < 512 → Rel j S M → prP (Rel (j + 1)) S M o K_Lw_addAll K_Mo_addAll []) ∧ (∀ (j : Nat) (S : gGS) (M : gMo) (o : Nat → Int64) , j < 512 → Rel j S M → prP (Rel (j + 1)) S M o K_Lw_undo K_Mo_undo []) ∧ (∀ (j : Nat) (S : gGS) (M : gMo) (o : Nat → Int64) (a0 a1 : Int32), j < 512 → Rel j S M → prP (Rel (j + 1)) S M o K_Lw_tray K_Mo_tray [.int a0, .int a1]) ∧ (∀ (j : Nat) (S : gGS) (M : gMo) (o : Nat → Int64) (a0 a1 : Int32), j < 512 → Rel j S M → prP (Rel (j + 1)) S M o K_Lw_sectionOf K_Mo_sectionOf [.int a0, .int a1]) ∧ (∀ (j : Nat) (S : gGS) (M : gMo) (o : Nat → Int64) (a0 a1 : Int32), j < 512 → Rel j S M → prP (Rel (j + 1)) S M o K_Lw_tone K_Mo_tone [.int a0, .int a1]) ∧ (∀ (j : Nat) (S : gGS) (M : gMo) (o : Nat → Int64) (a0 : Int32), j < 512 → Rel j S M → prP (Rel (j + 1)) S M o K_Lw_count K_Mo_count [.int a0]) ∧ (∀ (j : Nat) (S : gGS) (M : gMo) (o : Nat → Int64) (a0 : Int32), j < 512 → Rel j S M → prP (Rel (j + 1)) S M o K_Lw_setting K_Mo_setting [.int a0]) ∧ (∀ (j : Nat) (S : gGS) (M : gMo) (o : Nat → Int64) (a0 : Int32), j < 512 → Rel j S M → prP (Rel (j + 1)) S M o K_Lw_taken K_Mo_taken [.int a0]) ∧ (∀ (j : Nat) (S : gGS) (M : gMo) (o : Nat → Int64) (a0 : Int32), j < 512 → Rel j S M → prP (Rel (j + 1)) S M o K_Lw_missing K_Mo_missing [.int a0]) ∧ (∀ (j : Nat) (S : gGS) (M : gMo) (o : Nat → Int64) (a0 a1 : Int32), j < 512 → Rel j S M → prP (Rel (j + 1)) S M o K_Lw_ifPassed K_Mo_ifPassed [.int a0, .int a1]) ∧ (∀ (j : Nat) (S : gGS) (M : gMo) (o : Nat → Int64) (a0 : Int32), j < 512 → Rel j S M → prP (Rel (j + 1)) S M o K_Lw_doneIn K_Mo_doneIn [.int a0]) ∧ (∀ (j : Nat) (S : gGS) (M : gMo) (o : Nat → Int64) (a0 : Int32), j < 512 → Rel j S M → prP (Rel (j + 1)) S M o K_Lw_bestOrder K_Mo_bestOrder [.int a0]) ∧ (∀ (j : Nat) (S : gGS) (M : gMo), j < 512 → Rel j S M → prV (Rel (j + 1)) S M K_Gs_laidShare K_Mo_laidShare (fun v => ∃ x : UInt64, v = .double x)) ∧ (∀ (j : Nat) (S : gGS) (M : gMo), j < 512 → Rel j S M → prV (Rel (j + 1)) S M K_Gs_digest K_Mo_digest (fun v => ∃ x : Int64, v = .long x))
set_option maxRecDepth 20000 in
theorem k_lloop (nm : String) (hh : List (Nat × Nat × Nat × Nat)) (sc : Nat × (Nat → Int32)) (hL : sc.1 ≤ 2048) (Rel : Nat → gGS → gMo → Prop) (H : LawHyp Rel) : ∀ (n j : Nat) (S : gGS) (M : gMo) (o : Nat → Int64) (cs ss : Nat), j + n = 513 → cs ≤ 97 + j → ss ≤ 3000 + 6 * j → Rel j S M → gW (K_law nm hh) sc room_1 0 (fun o _ => o = .inl (some (.int 1))) cs ss 23 [(0, .ref 1000), (1, .ref 0), (2, .ref 89), (3, .ref 96), (4, .int (nI (4 * j)))] [] (cLh S M o) := by
  obtain ⟨H0, Hs, H_0, H_1, H_2, H_3, H_4, H_5, H_6, H_7, H_8, H_9, H_10, H_11, H_12, H_13, H_14, H_15, H_16, H_17, H_18, H_19, H_20, H_21, H_22, H_23, H_24⟩ := id H
  intro n
  induction n with
  | zero =>
    intro j S M o cs ss hj hcs hss hR
    refine gW_b D_LH 13 5 (pc' := 29) (l' := [(0, .ref 1000), (1, .ref 0), (2, .ref 89), (3, .ref 96), (4, .int (nI (4 * j)))]) (st' := [.int (nI sc.1 - 4), .int (nI (4 * j))]) (h' := cLh S M o) (P := True) rfl trivial ?_
    refine gW_ic_gt (gdec_at D_LH 18 rfl) (tgt := 1511) rfl (fun _ => ?_) (fun cq => absurd ((law_gt hL (by omega)).mpr (by omega)) cq)
    refine gW_b D_LE 2 1 (pc' := 1512) (l' := [(0, .ref 1000), (1, .ref 0), (2, .ref 89), (3, .ref 96), (4, .int (nI (4 * j)))]) (st' := [.int 1]) (h' := cLh S M o) (P := True) rfl trivial ?_
    exact gW_iret (gdec_at D_LE 3 rfl) rfl rfl (Nat.zero_le _) rfl (by show cs ≤ 601024; omega) (by show ss ≤ 7293034; omega)
  | succ n ih =>
    intro j S M o cs ss hj hcs hss hR
    have hr := H0 j S M hR
    refine gW_b D_LH 13 5 (pc' := 29) (l' := [(0, .ref 1000), (1, .ref 0), (2, .ref 89), (3, .ref 96), (4, .int (nI (4 * j)))]) (st' := [.int (nI sc.1 - 4), .int (nI (4 * j))]) (h' := cLh S M o) (P := True) rfl trivial ?_
    refine gW_ic_gt (gdec_at D_LH 18 rfl) (tgt := 1511) rfl (fun _ => ?_) (fun cq => ?_)
    · refine gW_b D_LE 2 1 (pc' := 1512) (l' := [(0, .ref 1000), (1, .ref 0), (2, .ref 89), (3, .ref 96), (4, .int (nI (4 * j)))]) (st' := [.int 1]) (h' := cLh S M o) (P := True) rfl trivial ?_
      exact gW_iret (gdec_at D_LE 3 rfl) rfl rfl (Nat.zero_le _) rfl (by show cs ≤ 601024; omega) (by show ss ≤ 7293034; omega)
    · have hi : 4 * j + 4 ≤ sc.1 := by
        have := mt (law_gt hL (show 4 * j ≤ 4096 by omega)).mpr cq
        omega
      have hj5 : j < 512 := by omega
      have hc1 : cs + 1 ≤ 601024 := by omega
      have hs1 : ss + 6 ≤ 7293034 := by omega
      have kk : ∀ (S1 : gGS) (M1 : gMo) (o1 : Nat → Int64), Rel (j + 1) S1 M1 → sR S1 < 6 → gW (K_law nm hh) sc room_1 0 (fun o _ => o = .inl (some (.int 1))) (cs + 1) (ss + 6) 23 [(0, .ref 1000), (1, .ref 0), (2, .ref 89), (3, .ref 96), (4, .int (nI (4 * j + 4)))] [] (cLh S1 M1 o1) := fun S1 M1 o1 hR1 _ => ih (j + 1) S1 M1 o1 (cs + 1) (ss + 6) (by omega) (by omega) (by omega) hR1
      refine gW_b D_LH 19 5 (pc' := 39) (l' := [(0, .ref 1000), (1, .ref 0), (2, .ref 89), (3, .ref 96), (4, .int (nI (4 * j)))]) (st' := [.int (sc.2 ((nI (4 * j)).toNatClampNeg) &&& 31)]) (h' := cLh S M o) (P := vp_in (nI (4 * j)) sc.1 ∧ True) rfl ⟨gvin rfl (by omega) (by omega), trivial⟩ ?_
      rw [show (nI (4 * j)).toNatClampNeg = 4 * j from gclp rfl (by omega), pk_and (sc.2 (4 * j)) (m := 31) 5 rfl]
      have hc : (sc.2 (4 * j)).toBitVec.toNat % 2 ^ 5 < 32 := Nat.mod_lt _ (by decide)
      generalize (sc.2 (4 * j)).toBitVec.toNat % 2 ^ 5 = c at hc ⊢
      by_cases h25 : 25 ≤ c
      · refine gW_tout S_LH (tgt := 1505) (Or.inr (by rw [nI_toInt (by omega)]; omega)) rfl ?_
        refine gW_n (cs' := cs + 1) (ss' := ss + 6) (by omega) (by omega) ?_
        exact k_ltail nm hh sc S M o (4 * j) (by omega) (kk S M o (Hs j S M hR) hr)
      · obtain rfl | rfl | rfl | rfl | rfl | rfl | rfl | rfl | rfl | rfl | rfl | rfl | rfl | rfl | rfl | rfl | rfl | rfl | rfl | rfl | rfl | rfl | rfl | rfl | rfl : c = 0 ∨ c = 1 ∨ c = 2 ∨ c = 3 ∨ c = 4 ∨ c = 5 ∨ c = 6 ∨ c = 7 ∨ c = 8 ∨ c = 9 ∨ c = 10 ∨ c = 11 ∨ c = 12 ∨ c = 13 ∨ c = 14 ∨ c = 15 ∨ c = 16 ∨ c = 17 ∨ c = 18 ∨ c = 19 ∨ c = 20 ∨ c = 21 ∨ c = 22 ∨ c = 23 ∨ c = 24 := by omega
        · refine gW_tin S_LH (tgt := 152) (by decide) (by decide) (off := 113) (by decide) rfl ?_
          exact k_law0 (Rel (j + 1)) nm hh sc S M o (4 * j) hL hi hr hc1 hs1 (H_0 j S M o _ _ hj5 hR) kk
        · refine gW_tin S_LH (tgt := 220) (by decide) (by decide) (off := 181) (by decide) rfl ?_
          exact k_law1 (Rel (j + 1)) nm hh sc S M o (4 * j) hL hi hr hc1 hs1 (H_1 j S M o _ _ hj5 hR) kk
        · refine gW_tin S_LH (tgt := 288) (by decide) (by decide) (off := 249) (by decide) rfl ?_
          exact k_law2 (Rel (j + 1)) nm hh sc S M o (4 * j) hL hi hr hc1 hs1 (H_2 j S M o _ _ hj5 hR) kk
        · refine gW_tin S_LH (tgt := 356) (by decide) (by decide) (off := 317) (by decide) rfl ?_
          exact k_law3 (Rel (j + 1)) nm hh sc S M o (4 * j) hL hi hr hc1 hs1 (H_3 j S M o _ hj5 hR) kk
        · refine gW_tin S_LH (tgt := 412) (by decide) (by decide) (off := 373) (by decide) rfl ?_
          exact k_law4 (Rel (j + 1)) nm hh sc S M o (4 * j) hL hi hr hc1 hs1 (H_4 j S M o _ _ _ hj5 hR) kk
        · refine gW_tin S_LH (tgt := 492) (by decide) (by decide) (off := 453) (by decide) rfl ?_
          exact k_law5 (Rel (j + 1)) nm hh sc S M o (4 * j) hL hi hr hc1 hs1 (H_5 j S M o _ hj5 hR) kk
        · refine gW_tin S_LH (tgt := 548) (by decide) (by decide) (off := 509) (by decide) rfl ?_
          exact k_law6 (Rel (j + 1)) nm hh sc S M o (4 * j) hL hi hr hc1 hs1 (H_6 j S M o _ _ hj5 hR) kk
        · refine gW_tin S_LH (tgt := 616) (by decide) (by decide) (off := 577) (by decide) rfl ?_
          exact k_law7 (Rel (j + 1)) nm hh sc S M o (4 * j) hL hi hr hc1 hs1 (H_7 j S M o _ hj5 hR) kk
        · refine gW_tin S_LH (tgt := 672) (by decide) (by decide) (off := 633) (by decide) rfl ?_
          exact k_law8 (Rel (j + 1)) nm hh sc S M o (4 * j) hL hi hr hc1 hs1 (H_8 j S M o _ hj5 hR) kk
        · refine gW_tin S_LH (tgt := 728) (by decide) (by decide) (off := 689) (by decide) rfl ?_
          exact k_law9 (Rel (j + 1)) nm hh sc S M o (4 * j) hL hi hr hc1 hs1 (H_9 j S M hj5 hR) kk
        · refine gW_tin S_LH (tgt := 741) (by decide) (by decide) (off := 702) (by decide) rfl ?_
          exact k_law10 (Rel (j + 1)) nm hh sc S M o (4 * j) hL hi hr hc1 hs1 (H_10 j S M hj5 hR) kk
        · refine gW_tin S_LH (tgt := 754) (by decide) (by decide) (off := 715) (by decide) rfl ?_
          exact k_law11 (Rel (j + 1)) nm hh sc S M o (4 * j) hL hi hr hc1 hs1 (H_11 j S M o hj5 hR) kk
        · refine gW_tin S_LH (tgt := 798) (by decide) (by decide) (off := 759) (by decide) rfl ?_
          exact k_law12 (Rel (j + 1)) nm hh sc S M o (4 * j) hL hi hr hc1 hs1 (H_12 j S M o hj5 hR) kk
        · refine gW_tin S_LH (tgt := 842) (by decide) (by decide) (off := 803) (by decide) rfl ?_
          exact k_law13 (Rel (j + 1)) nm hh sc S M o (4 * j) hL hi hr hc1 hs1 (H_13 j S M o _ _ hj5 hR) kk
        · refine gW_tin S_LH (tgt := 910) (by decide) (by decide) (off := 871) (by decide) rfl ?_
          exact k_law14 (Rel (j + 1)) nm hh sc S M o (4 * j) hL hi hr hc1 hs1 (H_14 j S M o _ _ hj5 hR) kk
        · refine gW_tin S_LH (tgt := 978) (by decide) (by decide) (off := 939) (by decide) rfl ?_
          exact k_law15 (Rel (j + 1)) nm hh sc S M o (4 * j) hL hi hr hc1 hs1 (H_15 j S M o _ _ hj5 hR) kk
        · refine gW_tin S_LH (tgt := 1046) (by decide) (by decide) (off := 1007) (by decide) rfl ?_
          exact k_law16 (Rel (j + 1)) nm hh sc S M o (4 * j) hL hi hr hc1 hs1 (H_16 j S M o _ hj5 hR) kk
        · refine gW_tin S_LH (tgt := 1102) (by decide) (by decide) (off := 1063) (by decide) rfl ?_
          exact k_law17 (Rel (j + 1)) nm hh sc S M o (4 * j) hL hi hr hc1 hs1 (H_17 j S M o _ hj5 hR) kk
        · refine gW_tin S_LH (tgt := 1158) (by decide) (by decide) (off := 1119) (by decide) rfl ?_
          exact k_law18 (Rel (j + 1)) nm hh sc S M o (4 * j) hL hi hr hc1 hs1 (H_18 j S M o _ hj5 hR) kk
        · refine gW_tin S_LH (tgt := 1214) (by decide) (by decide) (off := 1175) (by decide) rfl ?_
          exact k_law19 (Rel (j + 1)) nm hh sc S M o (4 * j) hL hi hr hc1 hs1 (H_19 j S M o _ hj5 hR) kk
        · refine gW_tin S_LH (tgt := 1270) (by decide) (by decide) (off := 1231) (by decide) rfl ?_
          exact k_law20 (Rel (j + 1)) nm hh sc S M o (4 * j) hL hi hr hc1 hs1 (H_20 j S M o _ _ hj5 hR) kk
        · refine gW_tin S_LH (tgt := 1338) (by decide) (by decide) (off := 1299) (by decide) rfl ?_
          exact k_law21 (Rel (j + 1)) nm hh sc S M o (4 * j) hL hi hr hc1 hs1 (H_21 j S M o _ hj5 hR) kk
        · refine gW_tin S_LH (tgt := 1394) (by decide) (by decide) (off := 1355) (by decide) rfl ?_
          exact k_law22 (Rel (j + 1)) nm hh sc S M o (4 * j) hL hi hr hc1 hs1 (H_22 j S M o _ hj5 hR) kk
        · refine gW_tin S_LH (tgt := 1450) (by decide) (by decide) (off := 1411) (by decide) rfl ?_
          exact k_law23 (Rel (j + 1)) nm hh sc S M o (4 * j) hL hi hr hc1 hs1 (H_23 j S M hj5 hR) kk
        · refine gW_tin S_LH (tgt := 1491) (by decide) (by decide) (off := 1452) (by decide) rfl ?_
          exact k_law24 (Rel (j + 1)) nm hh sc S M o (4 * j) hL hi hr hc1 hs1 (H_24 j S M hj5 hR) kk
theorem gnew_L8 : gNew (gown 7) 8 5 [.null, .null, .null, .null, .null] := ⟨by decide, gmem 86 (by decide +kernel), gmem 87 (by decide +kernel), gmem 71 (by decide +kernel), (fun j hj => by
  have hj2 : j < 5 := hj
  obtain rfl | rfl | rfl | rfl | rfl : j = 0 ∨ j = 1 ∨ j = 2 ∨ j = 3 ∨ j = 4 := by omega
  all_goals rfl), fun ad => rfl⟩
theorem gnew_L83 : gNew (gown 7) 83 6 [.int 0, .null, .null, .int 0, .null, .null, .int 0, .null, .int 0, .null, .int 0, .int 0, .int 0, .long 0] := ⟨by decide, gmem 861 (by decide +kernel), gmem 862 (by decide +kernel), gmem 79 (by decide +kernel), (fun j hj => by
  have hj2 : j < 14 := hj
  obtain rfl | rfl | rfl | rfl | rfl | rfl | rfl | rfl | rfl | rfl | rfl | rfl | rfl | rfl : j = 0 ∨ j = 1 ∨ j = 2 ∨ j = 3 ∨ j = 4 ∨ j = 5 ∨ j = 6 ∨ j = 7 ∨ j = 8 ∨ j = 9 ∨ j = 10 ∨ j = 11 ∨ j = 12 ∨ j = 13 := by omega
  all_goals rfl), fun ad => rfl⟩
set_option maxRecDepth 20000 in
theorem k_lbegin (nm : String) (hh : List (Nat × Nat × Nat × Nat)) (sc : Nat × (Nat → Int32)) (hL : sc.1 ≤ 2048) (Rel : Nat → gGS → gMo → Prop) (H : LawHyp Rel) (hR0 : Rel 0 gs0 mo0) : gW (K_law nm hh) sc room_1 0 (fun o _ => o = .inl (some (.int 1))) 0 0 0 [(0, .ref 1000)] [] [] := by
  refine gW_new gnew_L8 (gdec_at D_LH 0 rfl) (Nat.zero_le _) (Nat.le_of_ble_eq_true rfl) rfl (Nat.le_of_ble_eq_true rfl) (Nat.le_of_ble_eq_true rfl) ?_
  show gW (K_law nm hh) sc room_1 _ _ 1 5 3 [(0, .ref 1000)] [.ref 0] [cO 5 [.null, .null, .null, .null, .null]]
  refine gW_b D_LH 1 1 (pc' := 4) (l' := [(0, .ref 1000)]) (st' := [.ref 0, .ref 0]) (h' := [cO 5 [.null, .null, .null, .null, .null]]) (P := True) rfl trivial ?_
  refine gW_callI m_Gs_init lk_Lw_82 [0] (gdec_at D_LH 2 rfl) (st := [.ref 0]) rfl ⟨rfl, rfl⟩ (Nat.le_of_ble_eq_true rfl) (Nat.le_of_ble_eq_true rfl) (by decide) (Nat.zero_le _) rfl (Nat.le_of_ble_eq_true rfl) ⟨Nat.le_of_ble_eq_true rfl, Nat.le_of_ble_eq_true rfl⟩ ⟨Nat.le_of_ble_eq_true rfl, Nat.le_of_ble_eq_true rfl⟩ (h' := cGs gs0) rfl ?_
  show gW (K_law nm hh) sc room_1 _ _ 89 1025 7 [(0, .ref 1000)] [.ref 0] (cGs gs0)
  refine gW_b D_LH 3 1 (pc' := 8) (l' := [(0, .ref 1000), (1, .ref 0)]) (st' := []) (h' := cGs gs0) (P := True) rfl trivial ?_
  refine gW_new gnew_L83 (gdec_at D_LH 4 rfl) (Nat.zero_le _) (Nat.le_of_ble_eq_true rfl) rfl (Nat.le_of_ble_eq_true rfl) (Nat.le_of_ble_eq_true rfl) ?_
  show gW (K_law nm hh) sc room_1 _ _ 90 1039 11 [(0, .ref 1000), (1, .ref 0)] [.ref 89] (cGs gs0 ++ [cO 6 [.int 0, .null, .null, .int 0, .null, .null, .int 0, .null, .int 0, .null, .int 0, .int 0, .int 0, .long 0]])
  refine gW_b D_LH 5 1 (pc' := 12) (l' := [(0, .ref 1000), (1, .ref 0)]) (st' := [.ref 89, .ref 89]) (h' := cGs gs0 ++ [cO 6 [.int 0, .null, .null, .int 0, .null, .null, .int 0, .null, .int 0, .null, .int 0, .int 0, .int 0, .long 0]]) (P := True) rfl trivial ?_
  refine gW_callI n_init lk_Lw_85 [89] (gdec_at D_LH 6 rfl) (st := [.ref 89]) rfl ⟨rfl, rfl⟩ (Nat.le_of_ble_eq_true rfl) (Nat.le_of_ble_eq_true rfl) (by decide) (Nat.zero_le _) rfl (Nat.le_of_ble_eq_true rfl) ⟨Nat.le_of_ble_eq_true rfl, Nat.le_of_ble_eq_true rfl⟩ ⟨Nat.le_of_ble_eq_true rfl, Nat.le_of_ble_eq_true rfl⟩ (h' := cGs gs0 ++ cMb 89 mo0) rfl ?_
  show gW (K_law nm hh) sc room_1 _ _ 96 1972 15 [(0, .ref 1000), (1, .ref 0)] [.ref 89] (cGs gs0 ++ cMb 89 mo0)
  refine gW_b D_LH 7 2 (pc' := 17) (l' := [(0, .ref 1000), (1, .ref 0), (2, .ref 89)]) (st' := [.int 1]) (h' := cGs gs0 ++ cMb 89 mo0) (P := True) rfl trivial ?_
  refine gW_newJ (n := 1) rfl (by decide) (gdec_at D_LH 9 rfl) (Nat.zero_le _) (Nat.le_of_ble_eq_true rfl) rfl (Nat.le_of_ble_eq_true rfl) (Nat.le_of_ble_eq_true rfl) ?_
  show gW (K_law nm hh) sc room_1 _ _ 97 1973 19 [(0, .ref 1000), (1, .ref 0), (2, .ref 89)] [.ref 96] (cLh gs0 mo0 (fun _ => 0))
  refine gW_b D_LH 10 3 (pc' := 23) (l' := [(0, .ref 1000), (1, .ref 0), (2, .ref 89), (3, .ref 96), (4, .int (nI 0))]) (st' := []) (h' := cLh gs0 mo0 (fun _ => 0)) (P := True) rfl trivial ?_
  exact k_lloop nm hh sc hL Rel H 513 0 gs0 mo0 (fun _ => 0) 97 1973 rfl (by omega) (by omega) hR0
