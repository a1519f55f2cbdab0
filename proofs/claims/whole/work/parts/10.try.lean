def T_Tr_held : List (Nat × Instr) := [(0, .iload_n 1), (1, .ifCond .lt 22), (4, .iload_n 1), (5, .bipush 6), (7, .if_icmp .ge 16), (10, .iload_n 2), (11, .ifCond .lt 12), (14, .iload_n 2), (15, .iconst 4), (16, .if_icmp .ge 7), (19, .iconst 1), (20, .goto 4), (23, .iconst 0), (24, .istore_n 3), (25, .iload_n 3), (26, .ifCond .eq 16), (29, .aload_n 0), (30, .getfield 9), (33, .iload_n 1), (34, .iconst 4), (35, .imul), (36, .iload_n 2), (37, .iadd), (38, .iaload), (39, .goto 4), (42, .iconst 0), (43, .ireturn)]
theorem D_Tr_held : gdec K_Tr_held.2.2.1 T_Tr_held = true := by decide +kernel
abbrev cTr (f : Nat → Int32) : gH := [cO 0 [.ref 1], cI 24 f]
theorem m_held (f : Nat → Int32) (a b : Int32) (ha : ¬ a < 0) (ha' : ¬ (6 : Int32) ≤ a) (hb : ¬ b < 0) (hb' : ¬ (4 : Int32) ≤ b) (hin : vp_in (a * 4 + b) 24) : gM K_Tr_held {} [.ref 0, .int a, .int b] (cTr f) (gD (.inl (some (.int (f (a * 4 + b).toNatClampNeg)))) (cTr f)) := by
  refine gM_of rfl rfl (Nat.le_of_ble_eq_true rfl) (fun sc => ?_)
  refine gW_b D_Tr_held 0 1 (pc' := 1) (l' := [(0, .ref 0), (1, .int a), (2, .int b)]) (st' := [.int a]) (h' := cTr f) (P := True) rfl trivial ?_
  refine gW_if_lt (gdec_at D_Tr_held 1 rfl) (tgt := 23) rfl (fun c => absurd c ha) (fun _ => ?_)
  refine gW_b D_Tr_held 2 2 (pc' := 7) (l' := [(0, .ref 0), (1, .int a), (2, .int b)]) (st' := [.int 6, .int a]) (h' := cTr f) (P := True) rfl trivial ?_
  refine gW_ic_ge (gdec_at D_Tr_held 4 rfl) (tgt := 23) rfl (fun c => absurd c ha') (fun _ => ?_)
  refine gW_b D_Tr_held 5 1 (pc' := 11) (l' := [(0, .ref 0), (1, .int a), (2, .int b)]) (st' := [.int b]) (h' := cTr f) (P := True) rfl trivial ?_
  refine gW_if_lt (gdec_at D_Tr_held 6 rfl) (tgt := 23) rfl (fun c => absurd c hb) (fun _ => ?_)
  refine gW_b D_Tr_held 7 2 (pc' := 16) (l' := [(0, .ref 0), (1, .int a), (2, .int b)]) (st' := [.int 4, .int b]) (h' := cTr f) (P := True) rfl trivial ?_
  refine gW_ic_ge (gdec_at D_Tr_held 9 rfl) (tgt := 23) rfl (fun c => absurd c hb') (fun _ => ?_)
  refine gW_b D_Tr_held 10 2 (pc' := 24) (l' := [(0, .ref 0), (1, .int a), (2, .int b)]) (st' := [.int 1]) (h' := cTr f) (P := True) rfl trivial ?_
  refine gW_b D_Tr_held 13 2 (pc' := 26) (l' := [(0, .ref 0), (1, .int a), (2, .int b), (3, .int 1)]) (st' := [.int 1]) (h' := cTr f) (P := True) rfl trivial ?_
  refine gW_if_eq (gdec_at D_Tr_held 15 rfl) (tgt := 42) rfl (fun c => absurd c (by decide)) (fun _ => ?_)
  refine gW_b D_Tr_held 16 9 (pc' := 43) (l' := [(0, .ref 0), (1, .int a), (2, .int b), (3, .int 1)]) (st' := [.int (f (a * 4 + b).toNatClampNeg)]) (h' := cTr f) (P := vp_in (a * 4 + b) 24 ∧ True) rfl ⟨hin, trivial⟩ ?_
  exact gW_iret (gdec_at D_Tr_held 26 rfl) rfl rfl (Nat.le_refl _) ⟨rfl, rfl⟩ (Nat.le_refl _) (Nat.le_refl _)
