/-! the law: a table of a few rows is enough for a stretch -/
abbrev la_mi (tab : List (Nat × Instr)) : pm_MI := (7, ⟨"WheelTicketsLaw", "law", "([I)Z"⟩, code, 4, ret, tab, 9, 196)
theorem la_run {tab : List (Nat × Instr)} (hs : ∀ pc i, pm_tab (la_mi tab) pc = some i → pm_tab mLa_law pc = some i) : ∀ (n pc : Nat) (ls : pm_L) (st : List pm_V) (M : pm_M) (r : List Prop × pm_S), pm_run (la_mi tab) n pc ls st M = some r → pm_run mLa_law n pc ls st M = some r
  | 0, pc, ls, st, M, r, h => h
  | n + 1, pc, ls, st, M, r, h => by
    rw [pm_run] at h ⊢
    cases ht : pm_tab (la_mi tab) pc with
    | none =>
      rw [ht] at h
      cases h
    | some i =>
      rw [ht] at h
      rw [hs pc i ht]
      dsimp only at h ⊢
      rw [show mLa_law.1 = 7 from rfl]
      cases hp : pm_step 7 i pc ls st M with
      | none =>
        rw [hp] at h
        cases h
      | some q =>
        obtain ⟨c, pc1, ls1, st1, M1⟩ := q
        rw [hp] at h
        dsimp only at h ⊢
        cases hr : pm_run (la_mi tab) n pc1 ls1 st1 M1 with
        | none =>
          rw [hr] at h
          cases h
        | some q2 =>
          rw [hr] at h
          rw [la_run hs n pc1 ls1 st1 M1 q2 hr]
          exact h
theorem la_sub {tab : List (Nat × Instr)} (h : tab.all (fun e => decide (pm_tab mLa_law e.1 = some e.2)) = true) : ∀ pc i, pm_tab (la_mi tab) pc = some i → pm_tab mLa_law pc = some i := by
  intro pc i ht
  unfold pm_tab at ht
  obtain ⟨e, h1, h2⟩ := Option.map_eq_some_iff.mp ht
  have h3 := List.find?_some h1
  simp only [beq_iff_eq] at h3
  subst h3
  subst h2
  exact of_decide_eq_true (List.all_eq_true.mp h e (List.mem_of_find?_eq_some h1))
theorem la_G {tab : List (Nat × Instr)} (hs : ∀ pc i, pm_tab (la_mi tab) pc = some i → pm_tab mLa_law pc = some i) {pc : Nat} {ls : pm_L} {st : List pm_V} {M : pm_M} {Q : Option pm_V → pm_M → Prop} (n : Nat) {cs : List Prop} {pc' : Nat} {ls' : pm_L} {st' : List pm_V} {M' : pm_M} (h : pm_run (la_mi tab) n pc ls st M = some (cs, pc', ls', st', M')) (hc : pm_all cs) (k : pm_G mLa_law pc' ls' st' M' Q) : pm_G mLa_law pc ls st M Q := pm_G_run n (la_run hs n pc ls st M _ h) hc k
abbrev la_ls (i : Nat) : pm_L := [some (pm_r 50 0), some (pm_r 0 0), some (pm_r 29 0), some (pm_i (nI i))]
theorem la_ix {M : pm_M} {Ln i j : Nat} (hl : M.1 49 0 0 = nI Ln) (hL : Ln ≤ 320) (hi : i + 5 ≤ Ln) (hj : j < 5) : vp_in (nI i + nI j) (M.1 49 0 0).toNatClampNeg ∧ (nI i + nI j).toNatClampNeg = i + j := by
  rw [hl, pm_cl4 (by omega), nI_add]
  exact ⟨pm_vin (by omega) (by omega), pm_cl4 (by omega)⟩
def tL0 : List (Nat × Instr) := [(184, .aload_n 1), (185, .aload_n 0), (186, .iload_n 3), (187, .iconst 1), (188, .iadd), (189, .iaload), (190, .invokevirtual 13), (193, .aload_n 2), (194, .aload_n 0), (195, .iload_n 3), (196, .iconst 1), (197, .iadd), (198, .iaload), (199, .invokevirtual 17), (202, .if_icmp .eq 989)]
theorem hL0 : tL0.all (fun e => decide (pm_tab mLa_law e.1 = some e.2)) = true := by decide +kernel
theorem la_0 {M : pm_M} {i Ln : Nat} {Q : Option pm_V → pm_M → Prop} (hI : Inv M) (hl : M.1 49 0 0 = nI Ln) (hL : Ln ≤ 320) (hi : i + 5 ≤ Ln) (kk : ∀ M2, Inv M2 → M2.1 49 0 0 = nI Ln → pm_G mLa_law 1191 (la_ls i) [] M2 Q) : pm_G mLa_law 184 (la_ls i) [] M Q := by
  have sub := la_sub hL0
  obtain ⟨x, M1, M2, e1, e2, hI2⟩ := ok_feed (M.1 50 0 (i + 1)) M hI
  have v1 : vp_in (nI i + 1) (M.1 49 0 0).toNatClampNeg ∧ (nI i + 1).toNatClampNeg = i + 1 := la_ix (j := 1) hl hL hi (by omega)
  refine la_G sub 6 (cs := [vp_in (nI i + 1) (M.1 49 0 0).toNatClampNeg]) (pc' := 190) (ls' := la_ls i) (st' := [pm_i (M.1 50 0 (nI i + 1).toNatClampNeg), pm_r 0 0]) (M' := M) rfl ⟨v1.1, trivial⟩ ?_
  rw [v1.2]
  refine pm_G_callV (as := [pm_i (M.1 50 0 (i + 1))]) (t := 0) (k := 0) (st := []) k7_13 (sub _ _ rfl) rfl rfl rfl (Nat.le_of_ble_eq_true rfl) rfl (pm_Sem_keep e1) (fun v9 M9 hq => ?_)
  obtain ⟨⟨ev, eM⟩, q50, q49⟩ := hq
  rw [eM] at q50 q49 ⊢
  rw [ev]
  rw [← q49] at v1
  refine la_G sub 6 (cs := [vp_in (nI i + 1) (M1.1 49 0 0).toNatClampNeg]) (pc' := 199) (ls' := la_ls i) (st' := [pm_i (M1.1 50 0 (nI i + 1).toNatClampNeg), pm_r 29 0, pm_i x]) (M' := M1) rfl ⟨v1.1, trivial⟩ ?_
  rw [v1.2, q50]
  refine pm_G_callV (as := [pm_i (M.1 50 0 (i + 1))]) (t := 29) (k := 0) (st := [pm_i x]) k7_17 (sub _ _ rfl) rfl rfl rfl (Nat.le_of_ble_eq_true rfl) rfl (pm_Sem_keep e2) (fun v9 M9 hq => ?_)
  obtain ⟨⟨ev2, eM2⟩, r50, r49⟩ := hq
  rw [eM2] at r50 r49 ⊢
  rw [ev2]
  refine la_G sub 1 (cs := []) (pc' := (if x = x then 1191 else 205)) (ls' := la_ls i) (st' := []) (M' := M2) rfl trivial (pm_G_ite (fun _ => kk _ hI2 (r49.trans (q49.trans hl))) (fun c => absurd rfl c))
def tL1 : List (Nat × Instr) := [(207, .aload_n 1), (208, .aload_n 0), (209, .iload_n 3), (210, .iconst 1), (211, .iadd), (212, .iaload), (213, .invokevirtual 18), (216, .aload_n 2), (217, .aload_n 0), (218, .iload_n 3), (219, .iconst 1), (220, .iadd), (221, .iaload), (222, .invokevirtual 21), (225, .if_icmp .eq 966)]
theorem hL1 : tL1.all (fun e => decide (pm_tab mLa_law e.1 = some e.2)) = true := by decide +kernel
theorem la_1 {M : pm_M} {i Ln : Nat} {Q : Option pm_V → pm_M → Prop} (hI : Inv M) (hl : M.1 49 0 0 = nI Ln) (hL : Ln ≤ 320) (hi : i + 5 ≤ Ln) (kk : ∀ M2, Inv M2 → M2.1 49 0 0 = nI Ln → pm_G mLa_law 1191 (la_ls i) [] M2 Q) : pm_G mLa_law 207 (la_ls i) [] M Q := by
  have sub := la_sub hL1
  obtain ⟨x, M1, M2, e1, e2, hI2⟩ := ok_end (M.1 50 0 (i + 1)) M hI
  have v1 : vp_in (nI i + 1) (M.1 49 0 0).toNatClampNeg ∧ (nI i + 1).toNatClampNeg = i + 1 := la_ix (j := 1) hl hL hi (by omega)
  refine la_G sub 6 (cs := [vp_in (nI i + 1) (M.1 49 0 0).toNatClampNeg]) (pc' := 213) (ls' := la_ls i) (st' := [pm_i (M.1 50 0 (nI i + 1).toNatClampNeg), pm_r 0 0]) (M' := M) rfl ⟨v1.1, trivial⟩ ?_
  rw [v1.2]
  refine pm_G_callV (as := [pm_i (M.1 50 0 (i + 1))]) (t := 0) (k := 0) (st := []) k7_18 (sub _ _ rfl) rfl rfl rfl (Nat.le_of_ble_eq_true rfl) rfl (pm_Sem_keep e1) (fun v9 M9 hq => ?_)
  obtain ⟨⟨ev, eM⟩, q50, q49⟩ := hq
  rw [eM] at q50 q49 ⊢
  rw [ev]
  rw [← q49] at v1
  refine la_G sub 6 (cs := [vp_in (nI i + 1) (M1.1 49 0 0).toNatClampNeg]) (pc' := 222) (ls' := la_ls i) (st' := [pm_i (M1.1 50 0 (nI i + 1).toNatClampNeg), pm_r 29 0, pm_i x]) (M' := M1) rfl ⟨v1.1, trivial⟩ ?_
  rw [v1.2, q50]
  refine pm_G_callV (as := [pm_i (M.1 50 0 (i + 1))]) (t := 29) (k := 0) (st := [pm_i x]) k7_21 (sub _ _ rfl) rfl rfl rfl (Nat.le_of_ble_eq_true rfl) rfl (pm_Sem_keep e2) (fun v9 M9 hq => ?_)
  obtain ⟨⟨ev2, eM2⟩, r50, r49⟩ := hq
  rw [eM2] at r50 r49 ⊢
  rw [ev2]
  refine la_G sub 1 (cs := []) (pc' := (if x = x then 1191 else 228)) (ls' := la_ls i) (st' := []) (M' := M2) rfl trivial (pm_G_ite (fun _ => kk _ hI2 (r49.trans (q49.trans hl))) (fun c => absurd rfl c))
def tL2 : List (Nat × Instr) := [(230, .aload_n 1), (231, .invokevirtual 22), (234, .aload_n 2), (235, .invokevirtual 26), (238, .if_icmp .eq 953)]
theorem hL2 : tL2.all (fun e => decide (pm_tab mLa_law e.1 = some e.2)) = true := by decide +kernel
theorem la_2 {M : pm_M} {i Ln : Nat} {Q : Option pm_V → pm_M → Prop} (hI : Inv M) (hl : M.1 49 0 0 = nI Ln) (hL : Ln ≤ 320) (hi : i + 5 ≤ Ln) (kk : ∀ M2, Inv M2 → M2.1 49 0 0 = nI Ln → pm_G mLa_law 1191 (la_ls i) [] M2 Q) : pm_G mLa_law 230 (la_ls i) [] M Q := by
  have sub := la_sub hL2
  obtain ⟨x, M1, M2, e1, e2, hI2⟩ := ok_text M hI
  refine la_G sub 1 (cs := []) (pc' := 231) (ls' := la_ls i) (st' := [pm_r 0 0]) (M' := M) rfl trivial ?_
  refine pm_G_callV (as := []) (t := 0) (k := 0) (st := []) k7_22 (sub _ _ rfl) rfl rfl rfl (Nat.le_of_ble_eq_true rfl) rfl (pm_Sem_keep e1) (fun v9 M9 hq => ?_)
  obtain ⟨⟨ev, eM⟩, q50, q49⟩ := hq
  rw [eM] at q50 q49 ⊢
  rw [ev]
  refine la_G sub 1 (cs := []) (pc' := 235) (ls' := la_ls i) (st' := [pm_r 29 0, pm_i x]) (M' := M1) rfl trivial ?_
  refine pm_G_callV (as := []) (t := 29) (k := 0) (st := [pm_i x]) k7_26 (sub _ _ rfl) rfl rfl rfl (Nat.le_of_ble_eq_true rfl) rfl (pm_Sem_keep e2) (fun v9 M9 hq => ?_)
  obtain ⟨⟨ev2, eM2⟩, r50, r49⟩ := hq
  rw [eM2] at r50 r49 ⊢
  rw [ev2]
  refine la_G sub 1 (cs := []) (pc' := (if x = x then 1191 else 241)) (ls' := la_ls i) (st' := []) (M' := M2) rfl trivial (pm_G_ite (fun _ => kk _ hI2 (r49.trans (q49.trans hl))) (fun c => absurd rfl c))
def tL3 : List (Nat × Instr) := [(243, .aload_n 1), (244, .invokevirtual 27), (247, .aload_n 2), (248, .invokevirtual 30), (251, .if_icmp .eq 940)]
theorem hL3 : tL3.all (fun e => decide (pm_tab mLa_law e.1 = some e.2)) = true := by decide +kernel
theorem la_3 {M : pm_M} {i Ln : Nat} {Q : Option pm_V → pm_M → Prop} (hI : Inv M) (hl : M.1 49 0 0 = nI Ln) (hL : Ln ≤ 320) (hi : i + 5 ≤ Ln) (kk : ∀ M2, Inv M2 → M2.1 49 0 0 = nI Ln → pm_G mLa_law 1191 (la_ls i) [] M2 Q) : pm_G mLa_law 243 (la_ls i) [] M Q := by
  have sub := la_sub hL3
  obtain ⟨x, M1, M2, e1, e2, hI2⟩ := ok_fault M hI
  refine la_G sub 1 (cs := []) (pc' := 244) (ls' := la_ls i) (st' := [pm_r 0 0]) (M' := M) rfl trivial ?_
  refine pm_G_callV (as := []) (t := 0) (k := 0) (st := []) k7_27 (sub _ _ rfl) rfl rfl rfl (Nat.le_of_ble_eq_true rfl) rfl (pm_Sem_keep e1) (fun v9 M9 hq => ?_)
  obtain ⟨⟨ev, eM⟩, q50, q49⟩ := hq
  rw [eM] at q50 q49 ⊢
  rw [ev]
  refine la_G sub 1 (cs := []) (pc' := 248) (ls' := la_ls i) (st' := [pm_r 29 0, pm_i x]) (M' := M1) rfl trivial ?_
  refine pm_G_callV (as := []) (t := 29) (k := 0) (st := [pm_i x]) k7_30 (sub _ _ rfl) rfl rfl rfl (Nat.le_of_ble_eq_true rfl) rfl (pm_Sem_keep e2) (fun v9 M9 hq => ?_)
  obtain ⟨⟨ev2, eM2⟩, r50, r49⟩ := hq
  rw [eM2] at r50 r49 ⊢
  rw [ev2]
  refine la_G sub 1 (cs := []) (pc' := (if x = x then 1191 else 254)) (ls' := la_ls i) (st' := []) (M' := M2) rfl trivial (pm_G_ite (fun _ => kk _ hI2 (r49.trans (q49.trans hl))) (fun c => absurd rfl c))
def tL4 : List (Nat × Instr) := [(256, .aload_n 1), (257, .aload_n 0), (258, .iload_n 3), (259, .iconst 1), (260, .iadd), (261, .iaload), (262, .invokevirtual 31), (265, .aload_n 2), (266, .aload_n 0), (267, .iload_n 3), (268, .iconst 1), (269, .iadd), (270, .iaload), (271, .invokevirtual 34), (274, .if_icmp .eq 917)]
theorem hL4 : tL4.all (fun e => decide (pm_tab mLa_law e.1 = some e.2)) = true := by decide +kernel
theorem la_4 {M : pm_M} {i Ln : Nat} {Q : Option pm_V → pm_M → Prop} (hI : Inv M) (hl : M.1 49 0 0 = nI Ln) (hL : Ln ≤ 320) (hi : i + 5 ≤ Ln) (kk : ∀ M2, Inv M2 → M2.1 49 0 0 = nI Ln → pm_G mLa_law 1191 (la_ls i) [] M2 Q) : pm_G mLa_law 256 (la_ls i) [] M Q := by
  have sub := la_sub hL4
  obtain ⟨x, M1, M2, e1, e2, hI2⟩ := ok_rule (M.1 50 0 (i + 1)) M hI
  have v1 : vp_in (nI i + 1) (M.1 49 0 0).toNatClampNeg ∧ (nI i + 1).toNatClampNeg = i + 1 := la_ix (j := 1) hl hL hi (by omega)
  refine la_G sub 6 (cs := [vp_in (nI i + 1) (M.1 49 0 0).toNatClampNeg]) (pc' := 262) (ls' := la_ls i) (st' := [pm_i (M.1 50 0 (nI i + 1).toNatClampNeg), pm_r 0 0]) (M' := M) rfl ⟨v1.1, trivial⟩ ?_
  rw [v1.2]
  refine pm_G_callV (as := [pm_i (M.1 50 0 (i + 1))]) (t := 0) (k := 0) (st := []) k7_31 (sub _ _ rfl) rfl rfl rfl (Nat.le_of_ble_eq_true rfl) rfl (pm_Sem_keep e1) (fun v9 M9 hq => ?_)
  obtain ⟨⟨ev, eM⟩, q50, q49⟩ := hq
  rw [eM] at q50 q49 ⊢
  rw [ev]
  rw [← q49] at v1
  refine la_G sub 6 (cs := [vp_in (nI i + 1) (M1.1 49 0 0).toNatClampNeg]) (pc' := 271) (ls' := la_ls i) (st' := [pm_i (M1.1 50 0 (nI i + 1).toNatClampNeg), pm_r 29 0, pm_i x]) (M' := M1) rfl ⟨v1.1, trivial⟩ ?_
  rw [v1.2, q50]
  refine pm_G_callV (as := [pm_i (M.1 50 0 (i + 1))]) (t := 29) (k := 0) (st := [pm_i x]) k7_34 (sub _ _ rfl) rfl rfl rfl (Nat.le_of_ble_eq_true rfl) rfl (pm_Sem_keep e2) (fun v9 M9 hq => ?_)
  obtain ⟨⟨ev2, eM2⟩, r50, r49⟩ := hq
  rw [eM2] at r50 r49 ⊢
  rw [ev2]
  refine la_G sub 1 (cs := []) (pc' := (if x = x then 1191 else 277)) (ls' := la_ls i) (st' := []) (M' := M2) rfl trivial (pm_G_ite (fun _ => kk _ hI2 (r49.trans (q49.trans hl))) (fun c => absurd rfl c))
def tL5 : List (Nat × Instr) := [(279, .aload_n 1), (280, .aload_n 0), (281, .iload_n 3), (282, .iconst 1), (283, .iadd), (284, .iaload), (285, .aload_n 0), (286, .iload_n 3), (287, .iconst 2), (288, .iadd), (289, .iaload), (290, .invokevirtual 35), (293, .aload_n 2), (294, .aload_n 0), (295, .iload_n 3), (296, .iconst 1), (297, .iadd), (298, .iaload), (299, .aload_n 0), (300, .iload_n 3), (301, .iconst 2), (302, .iadd), (303, .iaload), (304, .invokevirtual 39), (307, .if_icmp .eq 884)]
theorem hL5 : tL5.all (fun e => decide (pm_tab mLa_law e.1 = some e.2)) = true := by decide +kernel
theorem la_5 {M : pm_M} {i Ln : Nat} {Q : Option pm_V → pm_M → Prop} (hI : Inv M) (hl : M.1 49 0 0 = nI Ln) (hL : Ln ≤ 320) (hi : i + 5 ≤ Ln) (kk : ∀ M2, Inv M2 → M2.1 49 0 0 = nI Ln → pm_G mLa_law 1191 (la_ls i) [] M2 Q) : pm_G mLa_law 279 (la_ls i) [] M Q := by
  have sub := la_sub hL5
  obtain ⟨x, M1, M2, e1, e2, hI2⟩ := ok_person (M.1 50 0 (i + 1)) (M.1 50 0 (i + 2)) M hI
  have v1 : vp_in (nI i + 1) (M.1 49 0 0).toNatClampNeg ∧ (nI i + 1).toNatClampNeg = i + 1 := la_ix (j := 1) hl hL hi (by omega)
  have v2 : vp_in (nI i + 2) (M.1 49 0 0).toNatClampNeg ∧ (nI i + 2).toNatClampNeg = i + 2 := la_ix (j := 2) hl hL hi (by omega)
  refine la_G sub 11 (cs := [vp_in (nI i + 1) (M.1 49 0 0).toNatClampNeg, vp_in (nI i + 2) (M.1 49 0 0).toNatClampNeg]) (pc' := 290) (ls' := la_ls i) (st' := [pm_i (M.1 50 0 (nI i + 2).toNatClampNeg), pm_i (M.1 50 0 (nI i + 1).toNatClampNeg), pm_r 0 0]) (M' := M) rfl ⟨v1.1, v2.1, trivial⟩ ?_
  rw [v1.2, v2.2]
  refine pm_G_callV (as := [pm_i (M.1 50 0 (i + 1)), pm_i (M.1 50 0 (i + 2))]) (t := 0) (k := 0) (st := []) k7_35 (sub _ _ rfl) rfl rfl rfl (Nat.le_of_ble_eq_true rfl) rfl (pm_Sem_keep e1) (fun v9 M9 hq => ?_)
  obtain ⟨⟨ev, eM⟩, q50, q49⟩ := hq
  rw [eM] at q50 q49 ⊢
  rw [ev]
  rw [← q49] at v1
  rw [← q49] at v2
  refine la_G sub 11 (cs := [vp_in (nI i + 1) (M1.1 49 0 0).toNatClampNeg, vp_in (nI i + 2) (M1.1 49 0 0).toNatClampNeg]) (pc' := 304) (ls' := la_ls i) (st' := [pm_i (M1.1 50 0 (nI i + 2).toNatClampNeg), pm_i (M1.1 50 0 (nI i + 1).toNatClampNeg), pm_r 29 0, pm_i x]) (M' := M1) rfl ⟨v1.1, v2.1, trivial⟩ ?_
  rw [v1.2, v2.2, q50]
  refine pm_G_callV (as := [pm_i (M.1 50 0 (i + 1)), pm_i (M.1 50 0 (i + 2))]) (t := 29) (k := 0) (st := [pm_i x]) k7_39 (sub _ _ rfl) rfl rfl rfl (Nat.le_of_ble_eq_true rfl) rfl (pm_Sem_keep e2) (fun v9 M9 hq => ?_)
  obtain ⟨⟨ev2, eM2⟩, r50, r49⟩ := hq
  rw [eM2] at r50 r49 ⊢
  rw [ev2]
  refine la_G sub 1 (cs := []) (pc' := (if x = x then 1191 else 310)) (ls' := la_ls i) (st' := []) (M' := M2) rfl trivial (pm_G_ite (fun _ => kk _ hI2 (r49.trans (q49.trans hl))) (fun c => absurd rfl c))
def tL6 : List (Nat × Instr) := [(312, .aload_n 1), (313, .aload_n 0), (314, .iload_n 3), (315, .iconst 1), (316, .iadd), (317, .iaload), (318, .aload_n 0), (319, .iload_n 3), (320, .iconst 2), (321, .iadd), (322, .iaload), (323, .invokevirtual 40), (326, .aload_n 2), (327, .aload_n 0), (328, .iload_n 3), (329, .iconst 1), (330, .iadd), (331, .iaload), (332, .aload_n 0), (333, .iload_n 3), (334, .iconst 2), (335, .iadd), (336, .iaload), (337, .invokevirtual 43), (340, .if_icmp .eq 851)]
theorem hL6 : tL6.all (fun e => decide (pm_tab mLa_law e.1 = some e.2)) = true := by decide +kernel
theorem la_6 {M : pm_M} {i Ln : Nat} {Q : Option pm_V → pm_M → Prop} (hI : Inv M) (hl : M.1 49 0 0 = nI Ln) (hL : Ln ≤ 320) (hi : i + 5 ≤ Ln) (kk : ∀ M2, Inv M2 → M2.1 49 0 0 = nI Ln → pm_G mLa_law 1191 (la_ls i) [] M2 Q) : pm_G mLa_law 312 (la_ls i) [] M Q := by
  have sub := la_sub hL6
  obtain ⟨x, M1, M2, e1, e2, hI2⟩ := ok_ticket (M.1 50 0 (i + 1)) (M.1 50 0 (i + 2)) M hI
  have v1 : vp_in (nI i + 1) (M.1 49 0 0).toNatClampNeg ∧ (nI i + 1).toNatClampNeg = i + 1 := la_ix (j := 1) hl hL hi (by omega)
  have v2 : vp_in (nI i + 2) (M.1 49 0 0).toNatClampNeg ∧ (nI i + 2).toNatClampNeg = i + 2 := la_ix (j := 2) hl hL hi (by omega)
  refine la_G sub 11 (cs := [vp_in (nI i + 1) (M.1 49 0 0).toNatClampNeg, vp_in (nI i + 2) (M.1 49 0 0).toNatClampNeg]) (pc' := 323) (ls' := la_ls i) (st' := [pm_i (M.1 50 0 (nI i + 2).toNatClampNeg), pm_i (M.1 50 0 (nI i + 1).toNatClampNeg), pm_r 0 0]) (M' := M) rfl ⟨v1.1, v2.1, trivial⟩ ?_
  rw [v1.2, v2.2]
  refine pm_G_callV (as := [pm_i (M.1 50 0 (i + 1)), pm_i (M.1 50 0 (i + 2))]) (t := 0) (k := 0) (st := []) k7_40 (sub _ _ rfl) rfl rfl rfl (Nat.le_of_ble_eq_true rfl) rfl (pm_Sem_keep e1) (fun v9 M9 hq => ?_)
  obtain ⟨⟨ev, eM⟩, q50, q49⟩ := hq
  rw [eM] at q50 q49 ⊢
  rw [ev]
  rw [← q49] at v1
  rw [← q49] at v2
  refine la_G sub 11 (cs := [vp_in (nI i + 1) (M1.1 49 0 0).toNatClampNeg, vp_in (nI i + 2) (M1.1 49 0 0).toNatClampNeg]) (pc' := 337) (ls' := la_ls i) (st' := [pm_i (M1.1 50 0 (nI i + 2).toNatClampNeg), pm_i (M1.1 50 0 (nI i + 1).toNatClampNeg), pm_r 29 0, pm_i x]) (M' := M1) rfl ⟨v1.1, v2.1, trivial⟩ ?_
  rw [v1.2, v2.2, q50]
  refine pm_G_callV (as := [pm_i (M.1 50 0 (i + 1)), pm_i (M.1 50 0 (i + 2))]) (t := 29) (k := 0) (st := [pm_i x]) k7_43 (sub _ _ rfl) rfl rfl rfl (Nat.le_of_ble_eq_true rfl) rfl (pm_Sem_keep e2) (fun v9 M9 hq => ?_)
  obtain ⟨⟨ev2, eM2⟩, r50, r49⟩ := hq
  rw [eM2] at r50 r49 ⊢
  rw [ev2]
  refine la_G sub 1 (cs := []) (pc' := (if x = x then 1191 else 343)) (ls' := la_ls i) (st' := []) (M' := M2) rfl trivial (pm_G_ite (fun _ => kk _ hI2 (r49.trans (q49.trans hl))) (fun c => absurd rfl c))
def tL7 : List (Nat × Instr) := [(345, .aload_n 1), (346, .aload_n 0), (347, .iload_n 3), (348, .iconst 1), (349, .iadd), (350, .iaload), (351, .aload_n 0), (352, .iload_n 3), (353, .iconst 2), (354, .iadd), (355, .iaload), (356, .invokevirtual 44), (359, .aload_n 2), (360, .aload_n 0), (361, .iload_n 3), (362, .iconst 1), (363, .iadd), (364, .iaload), (365, .aload_n 0), (366, .iload_n 3), (367, .iconst 2), (368, .iadd), (369, .iaload), (370, .invokevirtual 47), (373, .if_icmp .eq 818)]
theorem hL7 : tL7.all (fun e => decide (pm_tab mLa_law e.1 = some e.2)) = true := by decide +kernel
theorem la_7 {M : pm_M} {i Ln : Nat} {Q : Option pm_V → pm_M → Prop} (hI : Inv M) (hl : M.1 49 0 0 = nI Ln) (hL : Ln ≤ 320) (hi : i + 5 ≤ Ln) (kk : ∀ M2, Inv M2 → M2.1 49 0 0 = nI Ln → pm_G mLa_law 1191 (la_ls i) [] M2 Q) : pm_G mLa_law 345 (la_ls i) [] M Q := by
  have sub := la_sub hL7
  obtain ⟨x, M1, M2, e1, e2, hI2⟩ := ok_prize (M.1 50 0 (i + 1)) (M.1 50 0 (i + 2)) M hI
  have v1 : vp_in (nI i + 1) (M.1 49 0 0).toNatClampNeg ∧ (nI i + 1).toNatClampNeg = i + 1 := la_ix (j := 1) hl hL hi (by omega)
  have v2 : vp_in (nI i + 2) (M.1 49 0 0).toNatClampNeg ∧ (nI i + 2).toNatClampNeg = i + 2 := la_ix (j := 2) hl hL hi (by omega)
  refine la_G sub 11 (cs := [vp_in (nI i + 1) (M.1 49 0 0).toNatClampNeg, vp_in (nI i + 2) (M.1 49 0 0).toNatClampNeg]) (pc' := 356) (ls' := la_ls i) (st' := [pm_i (M.1 50 0 (nI i + 2).toNatClampNeg), pm_i (M.1 50 0 (nI i + 1).toNatClampNeg), pm_r 0 0]) (M' := M) rfl ⟨v1.1, v2.1, trivial⟩ ?_
  rw [v1.2, v2.2]
  refine pm_G_callV (as := [pm_i (M.1 50 0 (i + 1)), pm_i (M.1 50 0 (i + 2))]) (t := 0) (k := 0) (st := []) k7_44 (sub _ _ rfl) rfl rfl rfl (Nat.le_of_ble_eq_true rfl) rfl (pm_Sem_keep e1) (fun v9 M9 hq => ?_)
  obtain ⟨⟨ev, eM⟩, q50, q49⟩ := hq
  rw [eM] at q50 q49 ⊢
  rw [ev]
  rw [← q49] at v1
  rw [← q49] at v2
  refine la_G sub 11 (cs := [vp_in (nI i + 1) (M1.1 49 0 0).toNatClampNeg, vp_in (nI i + 2) (M1.1 49 0 0).toNatClampNeg]) (pc' := 370) (ls' := la_ls i) (st' := [pm_i (M1.1 50 0 (nI i + 2).toNatClampNeg), pm_i (M1.1 50 0 (nI i + 1).toNatClampNeg), pm_r 29 0, pm_i x]) (M' := M1) rfl ⟨v1.1, v2.1, trivial⟩ ?_
  rw [v1.2, v2.2, q50]
  refine pm_G_callV (as := [pm_i (M.1 50 0 (i + 1)), pm_i (M.1 50 0 (i + 2))]) (t := 29) (k := 0) (st := [pm_i x]) k7_47 (sub _ _ rfl) rfl rfl rfl (Nat.le_of_ble_eq_true rfl) rfl (pm_Sem_keep e2) (fun v9 M9 hq => ?_)
  obtain ⟨⟨ev2, eM2⟩, r50, r49⟩ := hq
  rw [eM2] at r50 r49 ⊢
  rw [ev2]
  refine la_G sub 1 (cs := []) (pc' := (if x = x then 1191 else 376)) (ls' := la_ls i) (st' := []) (M' := M2) rfl trivial (pm_G_ite (fun _ => kk _ hI2 (r49.trans (q49.trans hl))) (fun c => absurd rfl c))
def tL8 : List (Nat × Instr) := [(378, .aload_n 1), (379, .aload_n 0), (380, .iload_n 3), (381, .iconst 1), (382, .iadd), (383, .iaload), (384, .aload_n 0), (385, .iload_n 3), (386, .iconst 2), (387, .iadd), (388, .iaload), (389, .aload_n 0), (390, .iload_n 3), (391, .iconst 3), (392, .iadd), (393, .iaload), (394, .invokevirtual 48), (397, .aload_n 2), (398, .aload_n 0), (399, .iload_n 3), (400, .iconst 1), (401, .iadd), (402, .iaload), (403, .aload_n 0), (404, .iload_n 3), (405, .iconst 2), (406, .iadd), (407, .iaload), (408, .aload_n 0), (409, .iload_n 3), (410, .iconst 3), (411, .iadd), (412, .iaload), (413, .invokevirtual 52), (416, .if_icmp .eq 775)]
theorem hL8 : tL8.all (fun e => decide (pm_tab mLa_law e.1 = some e.2)) = true := by decide +kernel
theorem la_8 {M : pm_M} {i Ln : Nat} {Q : Option pm_V → pm_M → Prop} (hI : Inv M) (hl : M.1 49 0 0 = nI Ln) (hL : Ln ≤ 320) (hi : i + 5 ≤ Ln) (kk : ∀ M2, Inv M2 → M2.1 49 0 0 = nI Ln → pm_G mLa_law 1191 (la_ls i) [] M2 Q) : pm_G mLa_law 378 (la_ls i) [] M Q := by
  have sub := la_sub hL8
  obtain ⟨x, M1, M2, e1, e2, hI2⟩ := ok_sign (M.1 50 0 (i + 1)) (M.1 50 0 (i + 2)) (M.1 50 0 (i + 3)) M hI
  have v1 : vp_in (nI i + 1) (M.1 49 0 0).toNatClampNeg ∧ (nI i + 1).toNatClampNeg = i + 1 := la_ix (j := 1) hl hL hi (by omega)
  have v2 : vp_in (nI i + 2) (M.1 49 0 0).toNatClampNeg ∧ (nI i + 2).toNatClampNeg = i + 2 := la_ix (j := 2) hl hL hi (by omega)
  have v3 : vp_in (nI i + 3) (M.1 49 0 0).toNatClampNeg ∧ (nI i + 3).toNatClampNeg = i + 3 := la_ix (j := 3) hl hL hi (by omega)
  refine la_G sub 16 (cs := [vp_in (nI i + 1) (M.1 49 0 0).toNatClampNeg, vp_in (nI i + 2) (M.1 49 0 0).toNatClampNeg, vp_in (nI i + 3) (M.1 49 0 0).toNatClampNeg]) (pc' := 394) (ls' := la_ls i) (st' := [pm_i (M.1 50 0 (nI i + 3).toNatClampNeg), pm_i (M.1 50 0 (nI i + 2).toNatClampNeg), pm_i (M.1 50 0 (nI i + 1).toNatClampNeg), pm_r 0 0]) (M' := M) rfl ⟨v1.1, v2.1, v3.1, trivial⟩ ?_
  rw [v1.2, v2.2, v3.2]
  refine pm_G_callV (as := [pm_i (M.1 50 0 (i + 1)), pm_i (M.1 50 0 (i + 2)), pm_i (M.1 50 0 (i + 3))]) (t := 0) (k := 0) (st := []) k7_48 (sub _ _ rfl) rfl rfl rfl (Nat.le_of_ble_eq_true rfl) rfl (pm_Sem_keep e1) (fun v9 M9 hq => ?_)
  obtain ⟨⟨ev, eM⟩, q50, q49⟩ := hq
  rw [eM] at q50 q49 ⊢
  rw [ev]
  rw [← q49] at v1
  rw [← q49] at v2
  rw [← q49] at v3
  refine la_G sub 16 (cs := [vp_in (nI i + 1) (M1.1 49 0 0).toNatClampNeg, vp_in (nI i + 2) (M1.1 49 0 0).toNatClampNeg, vp_in (nI i + 3) (M1.1 49 0 0).toNatClampNeg]) (pc' := 413) (ls' := la_ls i) (st' := [pm_i (M1.1 50 0 (nI i + 3).toNatClampNeg), pm_i (M1.1 50 0 (nI i + 2).toNatClampNeg), pm_i (M1.1 50 0 (nI i + 1).toNatClampNeg), pm_r 29 0, pm_i x]) (M' := M1) rfl ⟨v1.1, v2.1, v3.1, trivial⟩ ?_
  rw [v1.2, v2.2, v3.2, q50]
  refine pm_G_callV (as := [pm_i (M.1 50 0 (i + 1)), pm_i (M.1 50 0 (i + 2)), pm_i (M.1 50 0 (i + 3))]) (t := 29) (k := 0) (st := [pm_i x]) k7_52 (sub _ _ rfl) rfl rfl rfl (Nat.le_of_ble_eq_true rfl) rfl (pm_Sem_keep e2) (fun v9 M9 hq => ?_)
  obtain ⟨⟨ev2, eM2⟩, r50, r49⟩ := hq
  rw [eM2] at r50 r49 ⊢
  rw [ev2]
  refine la_G sub 1 (cs := []) (pc' := (if x = x then 1191 else 419)) (ls' := la_ls i) (st' := []) (M' := M2) rfl trivial (pm_G_ite (fun _ => kk _ hI2 (r49.trans (q49.trans hl))) (fun c => absurd rfl c))
def tL9 : List (Nat × Instr) := [(421, .aload_n 1), (422, .aload_n 0), (423, .iload_n 3), (424, .iconst 1), (425, .iadd), (426, .iaload), (427, .aload_n 0), (428, .iload_n 3), (429, .iconst 2), (430, .iadd), (431, .iaload), (432, .invokevirtual 53), (435, .aload_n 2), (436, .aload_n 0), (437, .iload_n 3), (438, .iconst 1), (439, .iadd), (440, .iaload), (441, .aload_n 0), (442, .iload_n 3), (443, .iconst 2), (444, .iadd), (445, .iaload), (446, .invokevirtual 56), (449, .if_icmp .eq 742)]
theorem hL9 : tL9.all (fun e => decide (pm_tab mLa_law e.1 = some e.2)) = true := by decide +kernel
theorem la_9 {M : pm_M} {i Ln : Nat} {Q : Option pm_V → pm_M → Prop} (hI : Inv M) (hl : M.1 49 0 0 = nI Ln) (hL : Ln ≤ 320) (hi : i + 5 ≤ Ln) (kk : ∀ M2, Inv M2 → M2.1 49 0 0 = nI Ln → pm_G mLa_law 1191 (la_ls i) [] M2 Q) : pm_G mLa_law 421 (la_ls i) [] M Q := by
  have sub := la_sub hL9
  obtain ⟨x, M1, M2, e1, e2, hI2⟩ := ok_fill (M.1 50 0 (i + 1)) (M.1 50 0 (i + 2)) M hI
  have v1 : vp_in (nI i + 1) (M.1 49 0 0).toNatClampNeg ∧ (nI i + 1).toNatClampNeg = i + 1 := la_ix (j := 1) hl hL hi (by omega)
  have v2 : vp_in (nI i + 2) (M.1 49 0 0).toNatClampNeg ∧ (nI i + 2).toNatClampNeg = i + 2 := la_ix (j := 2) hl hL hi (by omega)
  refine la_G sub 11 (cs := [vp_in (nI i + 1) (M.1 49 0 0).toNatClampNeg, vp_in (nI i + 2) (M.1 49 0 0).toNatClampNeg]) (pc' := 432) (ls' := la_ls i) (st' := [pm_i (M.1 50 0 (nI i + 2).toNatClampNeg), pm_i (M.1 50 0 (nI i + 1).toNatClampNeg), pm_r 0 0]) (M' := M) rfl ⟨v1.1, v2.1, trivial⟩ ?_
  rw [v1.2, v2.2]
  refine pm_G_callV (as := [pm_i (M.1 50 0 (i + 1)), pm_i (M.1 50 0 (i + 2))]) (t := 0) (k := 0) (st := []) k7_53 (sub _ _ rfl) rfl rfl rfl (Nat.le_of_ble_eq_true rfl) rfl (pm_Sem_keep e1) (fun v9 M9 hq => ?_)
  obtain ⟨⟨ev, eM⟩, q50, q49⟩ := hq
  rw [eM] at q50 q49 ⊢
  rw [ev]
  rw [← q49] at v1
  rw [← q49] at v2
  refine la_G sub 11 (cs := [vp_in (nI i + 1) (M1.1 49 0 0).toNatClampNeg, vp_in (nI i + 2) (M1.1 49 0 0).toNatClampNeg]) (pc' := 446) (ls' := la_ls i) (st' := [pm_i (M1.1 50 0 (nI i + 2).toNatClampNeg), pm_i (M1.1 50 0 (nI i + 1).toNatClampNeg), pm_r 29 0, pm_i x]) (M' := M1) rfl ⟨v1.1, v2.1, trivial⟩ ?_
  rw [v1.2, v2.2, q50]
  refine pm_G_callV (as := [pm_i (M.1 50 0 (i + 1)), pm_i (M.1 50 0 (i + 2))]) (t := 29) (k := 0) (st := [pm_i x]) k7_56 (sub _ _ rfl) rfl rfl rfl (Nat.le_of_ble_eq_true rfl) rfl (pm_Sem_keep e2) (fun v9 M9 hq => ?_)
  obtain ⟨⟨ev2, eM2⟩, r50, r49⟩ := hq
  rw [eM2] at r50 r49 ⊢
  rw [ev2]
  refine la_G sub 1 (cs := []) (pc' := (if x = x then 1191 else 452)) (ls' := la_ls i) (st' := []) (M' := M2) rfl trivial (pm_G_ite (fun _ => kk _ hI2 (r49.trans (q49.trans hl))) (fun c => absurd rfl c))
def tL10 : List (Nat × Instr) := [(454, .aload_n 1), (455, .aload_n 0), (456, .iload_n 3), (457, .iconst 1), (458, .iadd), (459, .iaload), (460, .aload_n 0), (461, .iload_n 3), (462, .iconst 2), (463, .iadd), (464, .iaload), (465, .invokevirtual 57), (468, .aload_n 2), (469, .aload_n 0), (470, .iload_n 3), (471, .iconst 1), (472, .iadd), (473, .iaload), (474, .aload_n 0), (475, .iload_n 3), (476, .iconst 2), (477, .iadd), (478, .iaload), (479, .invokevirtual 60), (482, .if_icmp .eq 709)]
theorem hL10 : tL10.all (fun e => decide (pm_tab mLa_law e.1 = some e.2)) = true := by decide +kernel
theorem la_10 {M : pm_M} {i Ln : Nat} {Q : Option pm_V → pm_M → Prop} (hI : Inv M) (hl : M.1 49 0 0 = nI Ln) (hL : Ln ≤ 320) (hi : i + 5 ≤ Ln) (kk : ∀ M2, Inv M2 → M2.1 49 0 0 = nI Ln → pm_G mLa_law 1191 (la_ls i) [] M2 Q) : pm_G mLa_law 454 (la_ls i) [] M Q := by
  have sub := la_sub hL10
  obtain ⟨x, M1, M2, e1, e2, hI2⟩ := ok_promise (M.1 50 0 (i + 1)) (M.1 50 0 (i + 2)) M hI
  have v1 : vp_in (nI i + 1) (M.1 49 0 0).toNatClampNeg ∧ (nI i + 1).toNatClampNeg = i + 1 := la_ix (j := 1) hl hL hi (by omega)
  have v2 : vp_in (nI i + 2) (M.1 49 0 0).toNatClampNeg ∧ (nI i + 2).toNatClampNeg = i + 2 := la_ix (j := 2) hl hL hi (by omega)
  refine la_G sub 11 (cs := [vp_in (nI i + 1) (M.1 49 0 0).toNatClampNeg, vp_in (nI i + 2) (M.1 49 0 0).toNatClampNeg]) (pc' := 465) (ls' := la_ls i) (st' := [pm_i (M.1 50 0 (nI i + 2).toNatClampNeg), pm_i (M.1 50 0 (nI i + 1).toNatClampNeg), pm_r 0 0]) (M' := M) rfl ⟨v1.1, v2.1, trivial⟩ ?_
  rw [v1.2, v2.2]
  refine pm_G_callV (as := [pm_i (M.1 50 0 (i + 1)), pm_i (M.1 50 0 (i + 2))]) (t := 0) (k := 0) (st := []) k7_57 (sub _ _ rfl) rfl rfl rfl (Nat.le_of_ble_eq_true rfl) rfl (pm_Sem_keep e1) (fun v9 M9 hq => ?_)
  obtain ⟨⟨ev, eM⟩, q50, q49⟩ := hq
  rw [eM] at q50 q49 ⊢
  rw [ev]
  rw [← q49] at v1
  rw [← q49] at v2
  refine la_G sub 11 (cs := [vp_in (nI i + 1) (M1.1 49 0 0).toNatClampNeg, vp_in (nI i + 2) (M1.1 49 0 0).toNatClampNeg]) (pc' := 479) (ls' := la_ls i) (st' := [pm_i (M1.1 50 0 (nI i + 2).toNatClampNeg), pm_i (M1.1 50 0 (nI i + 1).toNatClampNeg), pm_r 29 0, pm_i x]) (M' := M1) rfl ⟨v1.1, v2.1, trivial⟩ ?_
  rw [v1.2, v2.2, q50]
  refine pm_G_callV (as := [pm_i (M.1 50 0 (i + 1)), pm_i (M.1 50 0 (i + 2))]) (t := 29) (k := 0) (st := [pm_i x]) k7_60 (sub _ _ rfl) rfl rfl rfl (Nat.le_of_ble_eq_true rfl) rfl (pm_Sem_keep e2) (fun v9 M9 hq => ?_)
  obtain ⟨⟨ev2, eM2⟩, r50, r49⟩ := hq
  rw [eM2] at r50 r49 ⊢
  rw [ev2]
  refine la_G sub 1 (cs := []) (pc' := (if x = x then 1191 else 485)) (ls' := la_ls i) (st' := []) (M' := M2) rfl trivial (pm_G_ite (fun _ => kk _ hI2 (r49.trans (q49.trans hl))) (fun c => absurd rfl c))
def tL11 : List (Nat × Instr) := [(487, .aload_n 1), (488, .aload_n 0), (489, .iload_n 3), (490, .iconst 1), (491, .iadd), (492, .iaload), (493, .aload_n 0), (494, .iload_n 3), (495, .iconst 2), (496, .iadd), (497, .iaload), (498, .invokevirtual 61), (501, .aload_n 2), (502, .aload_n 0), (503, .iload_n 3), (504, .iconst 1), (505, .iadd), (506, .iaload), (507, .aload_n 0), (508, .iload_n 3), (509, .iconst 2), (510, .iadd), (511, .iaload), (512, .invokevirtual 64), (515, .if_icmp .eq 676)]
theorem hL11 : tL11.all (fun e => decide (pm_tab mLa_law e.1 = some e.2)) = true := by decide +kernel
theorem la_11 {M : pm_M} {i Ln : Nat} {Q : Option pm_V → pm_M → Prop} (hI : Inv M) (hl : M.1 49 0 0 = nI Ln) (hL : Ln ≤ 320) (hi : i + 5 ≤ Ln) (kk : ∀ M2, Inv M2 → M2.1 49 0 0 = nI Ln → pm_G mLa_law 1191 (la_ls i) [] M2 Q) : pm_G mLa_law 487 (la_ls i) [] M Q := by
  have sub := la_sub hL11
  obtain ⟨x, M1, M2, e1, e2, hI2⟩ := ok_draw (M.1 50 0 (i + 1)) (M.1 50 0 (i + 2)) M hI
  have v1 : vp_in (nI i + 1) (M.1 49 0 0).toNatClampNeg ∧ (nI i + 1).toNatClampNeg = i + 1 := la_ix (j := 1) hl hL hi (by omega)
  have v2 : vp_in (nI i + 2) (M.1 49 0 0).toNatClampNeg ∧ (nI i + 2).toNatClampNeg = i + 2 := la_ix (j := 2) hl hL hi (by omega)
  refine la_G sub 11 (cs := [vp_in (nI i + 1) (M.1 49 0 0).toNatClampNeg, vp_in (nI i + 2) (M.1 49 0 0).toNatClampNeg]) (pc' := 498) (ls' := la_ls i) (st' := [pm_i (M.1 50 0 (nI i + 2).toNatClampNeg), pm_i (M.1 50 0 (nI i + 1).toNatClampNeg), pm_r 0 0]) (M' := M) rfl ⟨v1.1, v2.1, trivial⟩ ?_
  rw [v1.2, v2.2]
  refine pm_G_callV (as := [pm_i (M.1 50 0 (i + 1)), pm_i (M.1 50 0 (i + 2))]) (t := 0) (k := 0) (st := []) k7_61 (sub _ _ rfl) rfl rfl rfl (Nat.le_of_ble_eq_true rfl) rfl (pm_Sem_keep e1) (fun v9 M9 hq => ?_)
  obtain ⟨⟨ev, eM⟩, q50, q49⟩ := hq
  rw [eM] at q50 q49 ⊢
  rw [ev]
  rw [← q49] at v1
  rw [← q49] at v2
  refine la_G sub 11 (cs := [vp_in (nI i + 1) (M1.1 49 0 0).toNatClampNeg, vp_in (nI i + 2) (M1.1 49 0 0).toNatClampNeg]) (pc' := 512) (ls' := la_ls i) (st' := [pm_i (M1.1 50 0 (nI i + 2).toNatClampNeg), pm_i (M1.1 50 0 (nI i + 1).toNatClampNeg), pm_r 29 0, pm_i x]) (M' := M1) rfl ⟨v1.1, v2.1, trivial⟩ ?_
  rw [v1.2, v2.2, q50]
  refine pm_G_callV (as := [pm_i (M.1 50 0 (i + 1)), pm_i (M.1 50 0 (i + 2))]) (t := 29) (k := 0) (st := [pm_i x]) k7_64 (sub _ _ rfl) rfl rfl rfl (Nat.le_of_ble_eq_true rfl) rfl (pm_Sem_keep e2) (fun v9 M9 hq => ?_)
  obtain ⟨⟨ev2, eM2⟩, r50, r49⟩ := hq
  rw [eM2] at r50 r49 ⊢
  rw [ev2]
  refine la_G sub 1 (cs := []) (pc' := (if x = x then 1191 else 518)) (ls' := la_ls i) (st' := []) (M' := M2) rfl trivial (pm_G_ite (fun _ => kk _ hI2 (r49.trans (q49.trans hl))) (fun c => absurd rfl c))
def tL12 : List (Nat × Instr) := [(520, .aload_n 1), (521, .aload_n 0), (522, .iload_n 3), (523, .iconst 1), (524, .iadd), (525, .iaload), (526, .invokevirtual 65), (529, .aload_n 2), (530, .aload_n 0), (531, .iload_n 3), (532, .iconst 1), (533, .iadd), (534, .iaload), (535, .invokevirtual 69), (538, .lcmp), (539, .ifCond .eq 652)]
theorem hL12 : tL12.all (fun e => decide (pm_tab mLa_law e.1 = some e.2)) = true := by decide +kernel
theorem la_12 {M : pm_M} {i Ln : Nat} {Q : Option pm_V → pm_M → Prop} (hI : Inv M) (hl : M.1 49 0 0 = nI Ln) (hL : Ln ≤ 320) (hi : i + 5 ≤ Ln) (kk : ∀ M2, Inv M2 → M2.1 49 0 0 = nI Ln → pm_G mLa_law 1191 (la_ls i) [] M2 Q) : pm_G mLa_law 520 (la_ls i) [] M Q := by
  have sub := la_sub hL12
  obtain ⟨x, M1, M2, e1, e2, hI2⟩ := ok_worth (M.1 50 0 (i + 1)) M hI
  have v1 : vp_in (nI i + 1) (M.1 49 0 0).toNatClampNeg ∧ (nI i + 1).toNatClampNeg = i + 1 := la_ix (j := 1) hl hL hi (by omega)
  refine la_G sub 6 (cs := [vp_in (nI i + 1) (M.1 49 0 0).toNatClampNeg]) (pc' := 526) (ls' := la_ls i) (st' := [pm_i (M.1 50 0 (nI i + 1).toNatClampNeg), pm_r 0 0]) (M' := M) rfl ⟨v1.1, trivial⟩ ?_
  rw [v1.2]
  refine pm_G_callV (as := [pm_i (M.1 50 0 (i + 1))]) (t := 0) (k := 0) (st := []) k7_65 (sub _ _ rfl) rfl rfl rfl (Nat.le_of_ble_eq_true rfl) rfl (pm_Sem_keep e1) (fun v9 M9 hq => ?_)
  obtain ⟨⟨ev, eM⟩, q50, q49⟩ := hq
  rw [eM] at q50 q49 ⊢
  rw [ev]
  rw [← q49] at v1
  refine la_G sub 6 (cs := [vp_in (nI i + 1) (M1.1 49 0 0).toNatClampNeg]) (pc' := 535) (ls' := la_ls i) (st' := [pm_i (M1.1 50 0 (nI i + 1).toNatClampNeg), pm_r 29 0, pm_l x]) (M' := M1) rfl ⟨v1.1, trivial⟩ ?_
  rw [v1.2, q50]
  refine pm_G_callV (as := [pm_i (M.1 50 0 (i + 1))]) (t := 29) (k := 0) (st := [pm_l x]) k7_69 (sub _ _ rfl) rfl rfl rfl (Nat.le_of_ble_eq_true rfl) rfl (pm_Sem_keep e2) (fun v9 M9 hq => ?_)
  obtain ⟨⟨ev2, eM2⟩, r50, r49⟩ := hq
  rw [eM2] at r50 r49 ⊢
  rw [ev2]
  refine la_G sub 2 (cs := []) (pc' := (if lg_cmp x x = 0 then 1191 else 542)) (ls' := la_ls i) (st' := []) (M' := M2) rfl trivial (pm_G_ite (fun _ => kk _ hI2 (r49.trans (q49.trans hl))) (fun c => absurd ((lg_cmp_eq x x).mpr rfl) c))
def tL13 : List (Nat × Instr) := [(544, .aload_n 1), (545, .aload_n 0), (546, .iload_n 3), (547, .iconst 1), (548, .iadd), (549, .iaload), (550, .aload_n 0), (551, .iload_n 3), (552, .iconst 2), (553, .iadd), (554, .iaload), (555, .invokevirtual 70), (558, .aload_n 2), (559, .aload_n 0), (560, .iload_n 3), (561, .iconst 1), (562, .iadd), (563, .iaload), (564, .aload_n 0), (565, .iload_n 3), (566, .iconst 2), (567, .iadd), (568, .iaload), (569, .invokevirtual 74), (572, .lcmp), (573, .ifCond .eq 618)]
theorem hL13 : tL13.all (fun e => decide (pm_tab mLa_law e.1 = some e.2)) = true := by decide +kernel
theorem la_13 {M : pm_M} {i Ln : Nat} {Q : Option pm_V → pm_M → Prop} (hI : Inv M) (hl : M.1 49 0 0 = nI Ln) (hL : Ln ≤ 320) (hi : i + 5 ≤ Ln) (kk : ∀ M2, Inv M2 → M2.1 49 0 0 = nI Ln → pm_G mLa_law 1191 (la_ls i) [] M2 Q) : pm_G mLa_law 544 (la_ls i) [] M Q := by
  have sub := la_sub hL13
  obtain ⟨x, M1, M2, e1, e2, hI2⟩ := ok_day (M.1 50 0 (i + 1)) (M.1 50 0 (i + 2)) M hI
  have v1 : vp_in (nI i + 1) (M.1 49 0 0).toNatClampNeg ∧ (nI i + 1).toNatClampNeg = i + 1 := la_ix (j := 1) hl hL hi (by omega)
  have v2 : vp_in (nI i + 2) (M.1 49 0 0).toNatClampNeg ∧ (nI i + 2).toNatClampNeg = i + 2 := la_ix (j := 2) hl hL hi (by omega)
  refine la_G sub 11 (cs := [vp_in (nI i + 1) (M.1 49 0 0).toNatClampNeg, vp_in (nI i + 2) (M.1 49 0 0).toNatClampNeg]) (pc' := 555) (ls' := la_ls i) (st' := [pm_i (M.1 50 0 (nI i + 2).toNatClampNeg), pm_i (M.1 50 0 (nI i + 1).toNatClampNeg), pm_r 0 0]) (M' := M) rfl ⟨v1.1, v2.1, trivial⟩ ?_
  rw [v1.2, v2.2]
  refine pm_G_callV (as := [pm_i (M.1 50 0 (i + 1)), pm_i (M.1 50 0 (i + 2))]) (t := 0) (k := 0) (st := []) k7_70 (sub _ _ rfl) rfl rfl rfl (Nat.le_of_ble_eq_true rfl) rfl (pm_Sem_keep e1) (fun v9 M9 hq => ?_)
  obtain ⟨⟨ev, eM⟩, q50, q49⟩ := hq
  rw [eM] at q50 q49 ⊢
  rw [ev]
  rw [← q49] at v1
  rw [← q49] at v2
  refine la_G sub 11 (cs := [vp_in (nI i + 1) (M1.1 49 0 0).toNatClampNeg, vp_in (nI i + 2) (M1.1 49 0 0).toNatClampNeg]) (pc' := 569) (ls' := la_ls i) (st' := [pm_i (M1.1 50 0 (nI i + 2).toNatClampNeg), pm_i (M1.1 50 0 (nI i + 1).toNatClampNeg), pm_r 29 0, pm_l x]) (M' := M1) rfl ⟨v1.1, v2.1, trivial⟩ ?_
  rw [v1.2, v2.2, q50]
  refine pm_G_callV (as := [pm_i (M.1 50 0 (i + 1)), pm_i (M.1 50 0 (i + 2))]) (t := 29) (k := 0) (st := [pm_l x]) k7_74 (sub _ _ rfl) rfl rfl rfl (Nat.le_of_ble_eq_true rfl) rfl (pm_Sem_keep e2) (fun v9 M9 hq => ?_)
  obtain ⟨⟨ev2, eM2⟩, r50, r49⟩ := hq
  rw [eM2] at r50 r49 ⊢
  rw [ev2]
  refine la_G sub 2 (cs := []) (pc' := (if lg_cmp x x = 0 then 1191 else 576)) (ls' := la_ls i) (st' := []) (M' := M2) rfl trivial (pm_G_ite (fun _ => kk _ hI2 (r49.trans (q49.trans hl))) (fun c => absurd ((lg_cmp_eq x x).mpr rfl) c))
def tL14 : List (Nat × Instr) := [(578, .aload_n 1), (579, .aload_n 0), (580, .iload_n 3), (581, .iconst 1), (582, .iadd), (583, .iaload), (584, .aload_n 0), (585, .iload_n 3), (586, .iconst 2), (587, .iadd), (588, .iaload), (589, .invokevirtual 75), (592, .aload_n 2), (593, .aload_n 0), (594, .iload_n 3), (595, .iconst 1), (596, .iadd), (597, .iaload), (598, .aload_n 0), (599, .iload_n 3), (600, .iconst 2), (601, .iadd), (602, .iaload), (603, .invokevirtual 78), (606, .lcmp), (607, .ifCond .eq 584)]
theorem hL14 : tL14.all (fun e => decide (pm_tab mLa_law e.1 = some e.2)) = true := by decide +kernel
theorem la_14 {M : pm_M} {i Ln : Nat} {Q : Option pm_V → pm_M → Prop} (hI : Inv M) (hl : M.1 49 0 0 = nI Ln) (hL : Ln ≤ 320) (hi : i + 5 ≤ Ln) (kk : ∀ M2, Inv M2 → M2.1 49 0 0 = nI Ln → pm_G mLa_law 1191 (la_ls i) [] M2 Q) : pm_G mLa_law 578 (la_ls i) [] M Q := by
  have sub := la_sub hL14
  obtain ⟨x, M1, M2, e1, e2, hI2⟩ := ok_mean (M.1 50 0 (i + 1)) (M.1 50 0 (i + 2)) M hI
  have v1 : vp_in (nI i + 1) (M.1 49 0 0).toNatClampNeg ∧ (nI i + 1).toNatClampNeg = i + 1 := la_ix (j := 1) hl hL hi (by omega)
  have v2 : vp_in (nI i + 2) (M.1 49 0 0).toNatClampNeg ∧ (nI i + 2).toNatClampNeg = i + 2 := la_ix (j := 2) hl hL hi (by omega)
  refine la_G sub 11 (cs := [vp_in (nI i + 1) (M.1 49 0 0).toNatClampNeg, vp_in (nI i + 2) (M.1 49 0 0).toNatClampNeg]) (pc' := 589) (ls' := la_ls i) (st' := [pm_i (M.1 50 0 (nI i + 2).toNatClampNeg), pm_i (M.1 50 0 (nI i + 1).toNatClampNeg), pm_r 0 0]) (M' := M) rfl ⟨v1.1, v2.1, trivial⟩ ?_
  rw [v1.2, v2.2]
  refine pm_G_callV (as := [pm_i (M.1 50 0 (i + 1)), pm_i (M.1 50 0 (i + 2))]) (t := 0) (k := 0) (st := []) k7_75 (sub _ _ rfl) rfl rfl rfl (Nat.le_of_ble_eq_true rfl) rfl (pm_Sem_keep e1) (fun v9 M9 hq => ?_)
  obtain ⟨⟨ev, eM⟩, q50, q49⟩ := hq
  rw [eM] at q50 q49 ⊢
  rw [ev]
  rw [← q49] at v1
  rw [← q49] at v2
  refine la_G sub 11 (cs := [vp_in (nI i + 1) (M1.1 49 0 0).toNatClampNeg, vp_in (nI i + 2) (M1.1 49 0 0).toNatClampNeg]) (pc' := 603) (ls' := la_ls i) (st' := [pm_i (M1.1 50 0 (nI i + 2).toNatClampNeg), pm_i (M1.1 50 0 (nI i + 1).toNatClampNeg), pm_r 29 0, pm_l x]) (M' := M1) rfl ⟨v1.1, v2.1, trivial⟩ ?_
  rw [v1.2, v2.2, q50]
  refine pm_G_callV (as := [pm_i (M.1 50 0 (i + 1)), pm_i (M.1 50 0 (i + 2))]) (t := 29) (k := 0) (st := [pm_l x]) k7_78 (sub _ _ rfl) rfl rfl rfl (Nat.le_of_ble_eq_true rfl) rfl (pm_Sem_keep e2) (fun v9 M9 hq => ?_)
  obtain ⟨⟨ev2, eM2⟩, r50, r49⟩ := hq
  rw [eM2] at r50 r49 ⊢
  rw [ev2]
  refine la_G sub 2 (cs := []) (pc' := (if lg_cmp x x = 0 then 1191 else 610)) (ls' := la_ls i) (st' := []) (M' := M2) rfl trivial (pm_G_ite (fun _ => kk _ hI2 (r49.trans (q49.trans hl))) (fun c => absurd ((lg_cmp_eq x x).mpr rfl) c))
def tL15 : List (Nat × Instr) := [(612, .aload_n 1), (613, .aload_n 0), (614, .iload_n 3), (615, .iconst 1), (616, .iadd), (617, .iaload), (618, .aload_n 0), (619, .iload_n 3), (620, .iconst 2), (621, .iadd), (622, .iaload), (623, .aload_n 0), (624, .iload_n 3), (625, .iconst 3), (626, .iadd), (627, .iaload), (628, .invokevirtual 79), (631, .aload_n 2), (632, .aload_n 0), (633, .iload_n 3), (634, .iconst 1), (635, .iadd), (636, .iaload), (637, .aload_n 0), (638, .iload_n 3), (639, .iconst 2), (640, .iadd), (641, .iaload), (642, .aload_n 0), (643, .iload_n 3), (644, .iconst 3), (645, .iadd), (646, .iaload), (647, .invokevirtual 83), (650, .lcmp), (651, .ifCond .eq 540)]
theorem hL15 : tL15.all (fun e => decide (pm_tab mLa_law e.1 = some e.2)) = true := by decide +kernel
theorem la_15 {M : pm_M} {i Ln : Nat} {Q : Option pm_V → pm_M → Prop} (hI : Inv M) (hl : M.1 49 0 0 = nI Ln) (hL : Ln ≤ 320) (hi : i + 5 ≤ Ln) (kk : ∀ M2, Inv M2 → M2.1 49 0 0 = nI Ln → pm_G mLa_law 1191 (la_ls i) [] M2 Q) : pm_G mLa_law 612 (la_ls i) [] M Q := by
  have sub := la_sub hL15
  obtain ⟨x, M1, M2, e1, e2, hI2⟩ := ok_luck (M.1 50 0 (i + 1)) (M.1 50 0 (i + 2)) (M.1 50 0 (i + 3)) M hI
  have v1 : vp_in (nI i + 1) (M.1 49 0 0).toNatClampNeg ∧ (nI i + 1).toNatClampNeg = i + 1 := la_ix (j := 1) hl hL hi (by omega)
  have v2 : vp_in (nI i + 2) (M.1 49 0 0).toNatClampNeg ∧ (nI i + 2).toNatClampNeg = i + 2 := la_ix (j := 2) hl hL hi (by omega)
  have v3 : vp_in (nI i + 3) (M.1 49 0 0).toNatClampNeg ∧ (nI i + 3).toNatClampNeg = i + 3 := la_ix (j := 3) hl hL hi (by omega)
  refine la_G sub 16 (cs := [vp_in (nI i + 1) (M.1 49 0 0).toNatClampNeg, vp_in (nI i + 2) (M.1 49 0 0).toNatClampNeg, vp_in (nI i + 3) (M.1 49 0 0).toNatClampNeg]) (pc' := 628) (ls' := la_ls i) (st' := [pm_i (M.1 50 0 (nI i + 3).toNatClampNeg), pm_i (M.1 50 0 (nI i + 2).toNatClampNeg), pm_i (M.1 50 0 (nI i + 1).toNatClampNeg), pm_r 0 0]) (M' := M) rfl ⟨v1.1, v2.1, v3.1, trivial⟩ ?_
  rw [v1.2, v2.2, v3.2]
  refine pm_G_callV (as := [pm_i (M.1 50 0 (i + 1)), pm_i (M.1 50 0 (i + 2)), pm_i (M.1 50 0 (i + 3))]) (t := 0) (k := 0) (st := []) k7_79 (sub _ _ rfl) rfl rfl rfl (Nat.le_of_ble_eq_true rfl) rfl (pm_Sem_keep e1) (fun v9 M9 hq => ?_)
  obtain ⟨⟨ev, eM⟩, q50, q49⟩ := hq
  rw [eM] at q50 q49 ⊢
  rw [ev]
  rw [← q49] at v1
  rw [← q49] at v2
  rw [← q49] at v3
  refine la_G sub 16 (cs := [vp_in (nI i + 1) (M1.1 49 0 0).toNatClampNeg, vp_in (nI i + 2) (M1.1 49 0 0).toNatClampNeg, vp_in (nI i + 3) (M1.1 49 0 0).toNatClampNeg]) (pc' := 647) (ls' := la_ls i) (st' := [pm_i (M1.1 50 0 (nI i + 3).toNatClampNeg), pm_i (M1.1 50 0 (nI i + 2).toNatClampNeg), pm_i (M1.1 50 0 (nI i + 1).toNatClampNeg), pm_r 29 0, pm_l x]) (M' := M1) rfl ⟨v1.1, v2.1, v3.1, trivial⟩ ?_
  rw [v1.2, v2.2, v3.2, q50]
  refine pm_G_callV (as := [pm_i (M.1 50 0 (i + 1)), pm_i (M.1 50 0 (i + 2)), pm_i (M.1 50 0 (i + 3))]) (t := 29) (k := 0) (st := [pm_l x]) k7_83 (sub _ _ rfl) rfl rfl rfl (Nat.le_of_ble_eq_true rfl) rfl (pm_Sem_keep e2) (fun v9 M9 hq => ?_)
  obtain ⟨⟨ev2, eM2⟩, r50, r49⟩ := hq
  rw [eM2] at r50 r49 ⊢
  rw [ev2]
  refine la_G sub 2 (cs := []) (pc' := (if lg_cmp x x = 0 then 1191 else 654)) (ls' := la_ls i) (st' := []) (M' := M2) rfl trivial (pm_G_ite (fun _ => kk _ hI2 (r49.trans (q49.trans hl))) (fun c => absurd ((lg_cmp_eq x x).mpr rfl) c))
def tL16 : List (Nat × Instr) := [(656, .aload_n 1), (657, .aload_n 0), (658, .iload_n 3), (659, .iconst 1), (660, .iadd), (661, .iaload), (662, .invokevirtual 84), (665, .aload_n 2), (666, .aload_n 0), (667, .iload_n 3), (668, .iconst 1), (669, .iadd), (670, .iaload), (671, .invokevirtual 87), (674, .lcmp), (675, .ifCond .eq 516)]
theorem hL16 : tL16.all (fun e => decide (pm_tab mLa_law e.1 = some e.2)) = true := by decide +kernel
theorem la_16 {M : pm_M} {i Ln : Nat} {Q : Option pm_V → pm_M → Prop} (hI : Inv M) (hl : M.1 49 0 0 = nI Ln) (hL : Ln ≤ 320) (hi : i + 5 ≤ Ln) (kk : ∀ M2, Inv M2 → M2.1 49 0 0 = nI Ln → pm_G mLa_law 1191 (la_ls i) [] M2 Q) : pm_G mLa_law 656 (la_ls i) [] M Q := by
  have sub := la_sub hL16
  obtain ⟨x, M1, M2, e1, e2, hI2⟩ := ok_solid (M.1 50 0 (i + 1)) M hI
  have v1 : vp_in (nI i + 1) (M.1 49 0 0).toNatClampNeg ∧ (nI i + 1).toNatClampNeg = i + 1 := la_ix (j := 1) hl hL hi (by omega)
  refine la_G sub 6 (cs := [vp_in (nI i + 1) (M.1 49 0 0).toNatClampNeg]) (pc' := 662) (ls' := la_ls i) (st' := [pm_i (M.1 50 0 (nI i + 1).toNatClampNeg), pm_r 0 0]) (M' := M) rfl ⟨v1.1, trivial⟩ ?_
  rw [v1.2]
  refine pm_G_callV (as := [pm_i (M.1 50 0 (i + 1))]) (t := 0) (k := 0) (st := []) k7_84 (sub _ _ rfl) rfl rfl rfl (Nat.le_of_ble_eq_true rfl) rfl (pm_Sem_keep e1) (fun v9 M9 hq => ?_)
  obtain ⟨⟨ev, eM⟩, q50, q49⟩ := hq
  rw [eM] at q50 q49 ⊢
  rw [ev]
  rw [← q49] at v1
  refine la_G sub 6 (cs := [vp_in (nI i + 1) (M1.1 49 0 0).toNatClampNeg]) (pc' := 671) (ls' := la_ls i) (st' := [pm_i (M1.1 50 0 (nI i + 1).toNatClampNeg), pm_r 29 0, pm_l x]) (M' := M1) rfl ⟨v1.1, trivial⟩ ?_
  rw [v1.2, q50]
  refine pm_G_callV (as := [pm_i (M.1 50 0 (i + 1))]) (t := 29) (k := 0) (st := [pm_l x]) k7_87 (sub _ _ rfl) rfl rfl rfl (Nat.le_of_ble_eq_true rfl) rfl (pm_Sem_keep e2) (fun v9 M9 hq => ?_)
  obtain ⟨⟨ev2, eM2⟩, r50, r49⟩ := hq
  rw [eM2] at r50 r49 ⊢
  rw [ev2]
  refine la_G sub 2 (cs := []) (pc' := (if lg_cmp x x = 0 then 1191 else 678)) (ls' := la_ls i) (st' := []) (M' := M2) rfl trivial (pm_G_ite (fun _ => kk _ hI2 (r49.trans (q49.trans hl))) (fun c => absurd ((lg_cmp_eq x x).mpr rfl) c))
def tL17 : List (Nat × Instr) := [(680, .aload_n 1), (681, .aload_n 0), (682, .iload_n 3), (683, .iconst 1), (684, .iadd), (685, .iaload), (686, .aload_n 0), (687, .iload_n 3), (688, .iconst 2), (689, .iadd), (690, .iaload), (691, .invokevirtual 88), (694, .aload_n 2), (695, .aload_n 0), (696, .iload_n 3), (697, .iconst 1), (698, .iadd), (699, .iaload), (700, .aload_n 0), (701, .iload_n 3), (702, .iconst 2), (703, .iadd), (704, .iaload), (705, .invokevirtual 91), (708, .if_icmp .eq 483)]
theorem hL17 : tL17.all (fun e => decide (pm_tab mLa_law e.1 = some e.2)) = true := by decide +kernel
theorem la_17 {M : pm_M} {i Ln : Nat} {Q : Option pm_V → pm_M → Prop} (hI : Inv M) (hl : M.1 49 0 0 = nI Ln) (hL : Ln ≤ 320) (hi : i + 5 ≤ Ln) (kk : ∀ M2, Inv M2 → M2.1 49 0 0 = nI Ln → pm_G mLa_law 1191 (la_ls i) [] M2 Q) : pm_G mLa_law 680 (la_ls i) [] M Q := by
  have sub := la_sub hL17
  obtain ⟨x, M1, M2, e1, e2, hI2⟩ := ok_ends (M.1 50 0 (i + 1)) (M.1 50 0 (i + 2)) M hI
  have v1 : vp_in (nI i + 1) (M.1 49 0 0).toNatClampNeg ∧ (nI i + 1).toNatClampNeg = i + 1 := la_ix (j := 1) hl hL hi (by omega)
  have v2 : vp_in (nI i + 2) (M.1 49 0 0).toNatClampNeg ∧ (nI i + 2).toNatClampNeg = i + 2 := la_ix (j := 2) hl hL hi (by omega)
  refine la_G sub 11 (cs := [vp_in (nI i + 1) (M.1 49 0 0).toNatClampNeg, vp_in (nI i + 2) (M.1 49 0 0).toNatClampNeg]) (pc' := 691) (ls' := la_ls i) (st' := [pm_i (M.1 50 0 (nI i + 2).toNatClampNeg), pm_i (M.1 50 0 (nI i + 1).toNatClampNeg), pm_r 0 0]) (M' := M) rfl ⟨v1.1, v2.1, trivial⟩ ?_
  rw [v1.2, v2.2]
  refine pm_G_callV (as := [pm_i (M.1 50 0 (i + 1)), pm_i (M.1 50 0 (i + 2))]) (t := 0) (k := 0) (st := []) k7_88 (sub _ _ rfl) rfl rfl rfl (Nat.le_of_ble_eq_true rfl) rfl (pm_Sem_keep e1) (fun v9 M9 hq => ?_)
  obtain ⟨⟨ev, eM⟩, q50, q49⟩ := hq
  rw [eM] at q50 q49 ⊢
  rw [ev]
  rw [← q49] at v1
  rw [← q49] at v2
  refine la_G sub 11 (cs := [vp_in (nI i + 1) (M1.1 49 0 0).toNatClampNeg, vp_in (nI i + 2) (M1.1 49 0 0).toNatClampNeg]) (pc' := 705) (ls' := la_ls i) (st' := [pm_i (M1.1 50 0 (nI i + 2).toNatClampNeg), pm_i (M1.1 50 0 (nI i + 1).toNatClampNeg), pm_r 29 0, pm_i x]) (M' := M1) rfl ⟨v1.1, v2.1, trivial⟩ ?_
  rw [v1.2, v2.2, q50]
  refine pm_G_callV (as := [pm_i (M.1 50 0 (i + 1)), pm_i (M.1 50 0 (i + 2))]) (t := 29) (k := 0) (st := [pm_i x]) k7_91 (sub _ _ rfl) rfl rfl rfl (Nat.le_of_ble_eq_true rfl) rfl (pm_Sem_keep e2) (fun v9 M9 hq => ?_)
  obtain ⟨⟨ev2, eM2⟩, r50, r49⟩ := hq
  rw [eM2] at r50 r49 ⊢
  rw [ev2]
  refine la_G sub 1 (cs := []) (pc' := (if x = x then 1191 else 711)) (ls' := la_ls i) (st' := []) (M' := M2) rfl trivial (pm_G_ite (fun _ => kk _ hI2 (r49.trans (q49.trans hl))) (fun c => absurd rfl c))
def tL18 : List (Nat × Instr) := [(713, .aload_n 1), (714, .aload_n 0), (715, .iload_n 3), (716, .iconst 1), (717, .iadd), (718, .iaload), (719, .aload_n 0), (720, .iload_n 3), (721, .iconst 2), (722, .iadd), (723, .iaload), (724, .invokevirtual 92), (727, .aload_n 2), (728, .aload_n 0), (729, .iload_n 3), (730, .iconst 1), (731, .iadd), (732, .iaload), (733, .aload_n 0), (734, .iload_n 3), (735, .iconst 2), (736, .iadd), (737, .iaload), (738, .invokevirtual 95), (741, .if_icmp .eq 450)]
theorem hL18 : tL18.all (fun e => decide (pm_tab mLa_law e.1 = some e.2)) = true := by decide +kernel
theorem la_18 {M : pm_M} {i Ln : Nat} {Q : Option pm_V → pm_M → Prop} (hI : Inv M) (hl : M.1 49 0 0 = nI Ln) (hL : Ln ≤ 320) (hi : i + 5 ≤ Ln) (kk : ∀ M2, Inv M2 → M2.1 49 0 0 = nI Ln → pm_G mLa_law 1191 (la_ls i) [] M2 Q) : pm_G mLa_law 713 (la_ls i) [] M Q := by
  have sub := la_sub hL18
  obtain ⟨x, M1, M2, e1, e2, hI2⟩ := ok_fee (M.1 50 0 (i + 1)) (M.1 50 0 (i + 2)) M hI
  have v1 : vp_in (nI i + 1) (M.1 49 0 0).toNatClampNeg ∧ (nI i + 1).toNatClampNeg = i + 1 := la_ix (j := 1) hl hL hi (by omega)
  have v2 : vp_in (nI i + 2) (M.1 49 0 0).toNatClampNeg ∧ (nI i + 2).toNatClampNeg = i + 2 := la_ix (j := 2) hl hL hi (by omega)
  refine la_G sub 11 (cs := [vp_in (nI i + 1) (M.1 49 0 0).toNatClampNeg, vp_in (nI i + 2) (M.1 49 0 0).toNatClampNeg]) (pc' := 724) (ls' := la_ls i) (st' := [pm_i (M.1 50 0 (nI i + 2).toNatClampNeg), pm_i (M.1 50 0 (nI i + 1).toNatClampNeg), pm_r 0 0]) (M' := M) rfl ⟨v1.1, v2.1, trivial⟩ ?_
  rw [v1.2, v2.2]
  refine pm_G_callV (as := [pm_i (M.1 50 0 (i + 1)), pm_i (M.1 50 0 (i + 2))]) (t := 0) (k := 0) (st := []) k7_92 (sub _ _ rfl) rfl rfl rfl (Nat.le_of_ble_eq_true rfl) rfl (pm_Sem_keep e1) (fun v9 M9 hq => ?_)
  obtain ⟨⟨ev, eM⟩, q50, q49⟩ := hq
  rw [eM] at q50 q49 ⊢
  rw [ev]
  rw [← q49] at v1
  rw [← q49] at v2
  refine la_G sub 11 (cs := [vp_in (nI i + 1) (M1.1 49 0 0).toNatClampNeg, vp_in (nI i + 2) (M1.1 49 0 0).toNatClampNeg]) (pc' := 738) (ls' := la_ls i) (st' := [pm_i (M1.1 50 0 (nI i + 2).toNatClampNeg), pm_i (M1.1 50 0 (nI i + 1).toNatClampNeg), pm_r 29 0, pm_i x]) (M' := M1) rfl ⟨v1.1, v2.1, trivial⟩ ?_
  rw [v1.2, v2.2, q50]
  refine pm_G_callV (as := [pm_i (M.1 50 0 (i + 1)), pm_i (M.1 50 0 (i + 2))]) (t := 29) (k := 0) (st := [pm_i x]) k7_95 (sub _ _ rfl) rfl rfl rfl (Nat.le_of_ble_eq_true rfl) rfl (pm_Sem_keep e2) (fun v9 M9 hq => ?_)
  obtain ⟨⟨ev2, eM2⟩, r50, r49⟩ := hq
  rw [eM2] at r50 r49 ⊢
  rw [ev2]
  refine la_G sub 1 (cs := []) (pc' := (if x = x then 1191 else 744)) (ls' := la_ls i) (st' := []) (M' := M2) rfl trivial (pm_G_ite (fun _ => kk _ hI2 (r49.trans (q49.trans hl))) (fun c => absurd rfl c))
def tL19 : List (Nat × Instr) := [(746, .aload_n 1), (747, .aload_n 0), (748, .iload_n 3), (749, .iconst 1), (750, .iadd), (751, .iaload), (752, .invokevirtual 96), (755, .aload_n 2), (756, .aload_n 0), (757, .iload_n 3), (758, .iconst 1), (759, .iadd), (760, .iaload), (761, .invokevirtual 99), (764, .if_icmp .eq 427)]
theorem hL19 : tL19.all (fun e => decide (pm_tab mLa_law e.1 = some e.2)) = true := by decide +kernel
theorem la_19 {M : pm_M} {i Ln : Nat} {Q : Option pm_V → pm_M → Prop} (hI : Inv M) (hl : M.1 49 0 0 = nI Ln) (hL : Ln ≤ 320) (hi : i + 5 ≤ Ln) (kk : ∀ M2, Inv M2 → M2.1 49 0 0 = nI Ln → pm_G mLa_law 1191 (la_ls i) [] M2 Q) : pm_G mLa_law 746 (la_ls i) [] M Q := by
  have sub := la_sub hL19
  obtain ⟨x, M1, M2, e1, e2, hI2⟩ := ok_kind (M.1 50 0 (i + 1)) M hI
  have v1 : vp_in (nI i + 1) (M.1 49 0 0).toNatClampNeg ∧ (nI i + 1).toNatClampNeg = i + 1 := la_ix (j := 1) hl hL hi (by omega)
  refine la_G sub 6 (cs := [vp_in (nI i + 1) (M.1 49 0 0).toNatClampNeg]) (pc' := 752) (ls' := la_ls i) (st' := [pm_i (M.1 50 0 (nI i + 1).toNatClampNeg), pm_r 0 0]) (M' := M) rfl ⟨v1.1, trivial⟩ ?_
  rw [v1.2]
  refine pm_G_callV (as := [pm_i (M.1 50 0 (i + 1))]) (t := 0) (k := 0) (st := []) k7_96 (sub _ _ rfl) rfl rfl rfl (Nat.le_of_ble_eq_true rfl) rfl (pm_Sem_keep e1) (fun v9 M9 hq => ?_)
  obtain ⟨⟨ev, eM⟩, q50, q49⟩ := hq
  rw [eM] at q50 q49 ⊢
  rw [ev]
  rw [← q49] at v1
  refine la_G sub 6 (cs := [vp_in (nI i + 1) (M1.1 49 0 0).toNatClampNeg]) (pc' := 761) (ls' := la_ls i) (st' := [pm_i (M1.1 50 0 (nI i + 1).toNatClampNeg), pm_r 29 0, pm_i x]) (M' := M1) rfl ⟨v1.1, trivial⟩ ?_
  rw [v1.2, q50]
  refine pm_G_callV (as := [pm_i (M.1 50 0 (i + 1))]) (t := 29) (k := 0) (st := [pm_i x]) k7_99 (sub _ _ rfl) rfl rfl rfl (Nat.le_of_ble_eq_true rfl) rfl (pm_Sem_keep e2) (fun v9 M9 hq => ?_)
  obtain ⟨⟨ev2, eM2⟩, r50, r49⟩ := hq
  rw [eM2] at r50 r49 ⊢
  rw [ev2]
  refine la_G sub 1 (cs := []) (pc' := (if x = x then 1191 else 767)) (ls' := la_ls i) (st' := []) (M' := M2) rfl trivial (pm_G_ite (fun _ => kk _ hI2 (r49.trans (q49.trans hl))) (fun c => absurd rfl c))
def tL20 : List (Nat × Instr) := [(769, .aload_n 1), (770, .aload_n 0), (771, .iload_n 3), (772, .iconst 1), (773, .iadd), (774, .iaload), (775, .invokevirtual 100), (778, .aload_n 2), (779, .aload_n 0), (780, .iload_n 3), (781, .iconst 1), (782, .iadd), (783, .iaload), (784, .invokevirtual 103), (787, .if_icmp .eq 404)]
theorem hL20 : tL20.all (fun e => decide (pm_tab mLa_law e.1 = some e.2)) = true := by decide +kernel
theorem la_20 {M : pm_M} {i Ln : Nat} {Q : Option pm_V → pm_M → Prop} (hI : Inv M) (hl : M.1 49 0 0 = nI Ln) (hL : Ln ≤ 320) (hi : i + 5 ≤ Ln) (kk : ∀ M2, Inv M2 → M2.1 49 0 0 = nI Ln → pm_G mLa_law 1191 (la_ls i) [] M2 Q) : pm_G mLa_law 769 (la_ls i) [] M Q := by
  have sub := la_sub hL20
  obtain ⟨x, M1, M2, e1, e2, hI2⟩ := ok_buy (M.1 50 0 (i + 1)) M hI
  have v1 : vp_in (nI i + 1) (M.1 49 0 0).toNatClampNeg ∧ (nI i + 1).toNatClampNeg = i + 1 := la_ix (j := 1) hl hL hi (by omega)
  refine la_G sub 6 (cs := [vp_in (nI i + 1) (M.1 49 0 0).toNatClampNeg]) (pc' := 775) (ls' := la_ls i) (st' := [pm_i (M.1 50 0 (nI i + 1).toNatClampNeg), pm_r 0 0]) (M' := M) rfl ⟨v1.1, trivial⟩ ?_
  rw [v1.2]
  refine pm_G_callV (as := [pm_i (M.1 50 0 (i + 1))]) (t := 0) (k := 0) (st := []) k7_100 (sub _ _ rfl) rfl rfl rfl (Nat.le_of_ble_eq_true rfl) rfl (pm_Sem_keep e1) (fun v9 M9 hq => ?_)
  obtain ⟨⟨ev, eM⟩, q50, q49⟩ := hq
  rw [eM] at q50 q49 ⊢
  rw [ev]
  rw [← q49] at v1
  refine la_G sub 6 (cs := [vp_in (nI i + 1) (M1.1 49 0 0).toNatClampNeg]) (pc' := 784) (ls' := la_ls i) (st' := [pm_i (M1.1 50 0 (nI i + 1).toNatClampNeg), pm_r 29 0, pm_i x]) (M' := M1) rfl ⟨v1.1, trivial⟩ ?_
  rw [v1.2, q50]
  refine pm_G_callV (as := [pm_i (M.1 50 0 (i + 1))]) (t := 29) (k := 0) (st := [pm_i x]) k7_103 (sub _ _ rfl) rfl rfl rfl (Nat.le_of_ble_eq_true rfl) rfl (pm_Sem_keep e2) (fun v9 M9 hq => ?_)
  obtain ⟨⟨ev2, eM2⟩, r50, r49⟩ := hq
  rw [eM2] at r50 r49 ⊢
  rw [ev2]
  refine la_G sub 1 (cs := []) (pc' := (if x = x then 1191 else 790)) (ls' := la_ls i) (st' := []) (M' := M2) rfl trivial (pm_G_ite (fun _ => kk _ hI2 (r49.trans (q49.trans hl))) (fun c => absurd rfl c))
def tL21 : List (Nat × Instr) := [(792, .aload_n 1), (793, .aload_n 0), (794, .iload_n 3), (795, .iconst 1), (796, .iadd), (797, .iaload), (798, .aload_n 0), (799, .iload_n 3), (800, .iconst 2), (801, .iadd), (802, .iaload), (803, .aload_n 0), (804, .iload_n 3), (805, .iconst 3), (806, .iadd), (807, .iaload), (808, .invokevirtual 104), (811, .aload_n 2), (812, .aload_n 0), (813, .iload_n 3), (814, .iconst 1), (815, .iadd), (816, .iaload), (817, .aload_n 0), (818, .iload_n 3), (819, .iconst 2), (820, .iadd), (821, .iaload), (822, .aload_n 0), (823, .iload_n 3), (824, .iconst 3), (825, .iadd), (826, .iaload), (827, .invokevirtual 107), (830, .if_icmp .eq 361)]
theorem hL21 : tL21.all (fun e => decide (pm_tab mLa_law e.1 = some e.2)) = true := by decide +kernel
theorem la_21 {M : pm_M} {i Ln : Nat} {Q : Option pm_V → pm_M → Prop} (hI : Inv M) (hl : M.1 49 0 0 = nI Ln) (hL : Ln ≤ 320) (hi : i + 5 ≤ Ln) (kk : ∀ M2, Inv M2 → M2.1 49 0 0 = nI Ln → pm_G mLa_law 1191 (la_ls i) [] M2 Q) : pm_G mLa_law 792 (la_ls i) [] M Q := by
  have sub := la_sub hL21
  obtain ⟨x, M1, M2, e1, e2, hI2⟩ := ok_cap (M.1 50 0 (i + 1)) (M.1 50 0 (i + 2)) (M.1 50 0 (i + 3)) M hI
  have v1 : vp_in (nI i + 1) (M.1 49 0 0).toNatClampNeg ∧ (nI i + 1).toNatClampNeg = i + 1 := la_ix (j := 1) hl hL hi (by omega)
  have v2 : vp_in (nI i + 2) (M.1 49 0 0).toNatClampNeg ∧ (nI i + 2).toNatClampNeg = i + 2 := la_ix (j := 2) hl hL hi (by omega)
  have v3 : vp_in (nI i + 3) (M.1 49 0 0).toNatClampNeg ∧ (nI i + 3).toNatClampNeg = i + 3 := la_ix (j := 3) hl hL hi (by omega)
  refine la_G sub 16 (cs := [vp_in (nI i + 1) (M.1 49 0 0).toNatClampNeg, vp_in (nI i + 2) (M.1 49 0 0).toNatClampNeg, vp_in (nI i + 3) (M.1 49 0 0).toNatClampNeg]) (pc' := 808) (ls' := la_ls i) (st' := [pm_i (M.1 50 0 (nI i + 3).toNatClampNeg), pm_i (M.1 50 0 (nI i + 2).toNatClampNeg), pm_i (M.1 50 0 (nI i + 1).toNatClampNeg), pm_r 0 0]) (M' := M) rfl ⟨v1.1, v2.1, v3.1, trivial⟩ ?_
  rw [v1.2, v2.2, v3.2]
  refine pm_G_callV (as := [pm_i (M.1 50 0 (i + 1)), pm_i (M.1 50 0 (i + 2)), pm_i (M.1 50 0 (i + 3))]) (t := 0) (k := 0) (st := []) k7_104 (sub _ _ rfl) rfl rfl rfl (Nat.le_of_ble_eq_true rfl) rfl (pm_Sem_keep e1) (fun v9 M9 hq => ?_)
  obtain ⟨⟨ev, eM⟩, q50, q49⟩ := hq
  rw [eM] at q50 q49 ⊢
  rw [ev]
  rw [← q49] at v1
  rw [← q49] at v2
  rw [← q49] at v3
  refine la_G sub 16 (cs := [vp_in (nI i + 1) (M1.1 49 0 0).toNatClampNeg, vp_in (nI i + 2) (M1.1 49 0 0).toNatClampNeg, vp_in (nI i + 3) (M1.1 49 0 0).toNatClampNeg]) (pc' := 827) (ls' := la_ls i) (st' := [pm_i (M1.1 50 0 (nI i + 3).toNatClampNeg), pm_i (M1.1 50 0 (nI i + 2).toNatClampNeg), pm_i (M1.1 50 0 (nI i + 1).toNatClampNeg), pm_r 29 0, pm_i x]) (M' := M1) rfl ⟨v1.1, v2.1, v3.1, trivial⟩ ?_
  rw [v1.2, v2.2, v3.2, q50]
  refine pm_G_callV (as := [pm_i (M.1 50 0 (i + 1)), pm_i (M.1 50 0 (i + 2)), pm_i (M.1 50 0 (i + 3))]) (t := 29) (k := 0) (st := [pm_i x]) k7_107 (sub _ _ rfl) rfl rfl rfl (Nat.le_of_ble_eq_true rfl) rfl (pm_Sem_keep e2) (fun v9 M9 hq => ?_)
  obtain ⟨⟨ev2, eM2⟩, r50, r49⟩ := hq
  rw [eM2] at r50 r49 ⊢
  rw [ev2]
  refine la_G sub 1 (cs := []) (pc' := (if x = x then 1191 else 833)) (ls' := la_ls i) (st' := []) (M' := M2) rfl trivial (pm_G_ite (fun _ => kk _ hI2 (r49.trans (q49.trans hl))) (fun c => absurd rfl c))
def tL22 : List (Nat × Instr) := [(835, .aload_n 1), (836, .aload_n 0), (837, .iload_n 3), (838, .iconst 1), (839, .iadd), (840, .iaload), (841, .aload_n 0), (842, .iload_n 3), (843, .iconst 2), (844, .iadd), (845, .iaload), (846, .invokevirtual 108), (849, .aload_n 2), (850, .aload_n 0), (851, .iload_n 3), (852, .iconst 1), (853, .iadd), (854, .iaload), (855, .aload_n 0), (856, .iload_n 3), (857, .iconst 2), (858, .iadd), (859, .iaload), (860, .invokevirtual 111), (863, .if_icmp .eq 328)]
theorem hL22 : tL22.all (fun e => decide (pm_tab mLa_law e.1 = some e.2)) = true := by decide +kernel
theorem la_22 {M : pm_M} {i Ln : Nat} {Q : Option pm_V → pm_M → Prop} (hI : Inv M) (hl : M.1 49 0 0 = nI Ln) (hL : Ln ≤ 320) (hi : i + 5 ≤ Ln) (kk : ∀ M2, Inv M2 → M2.1 49 0 0 = nI Ln → pm_G mLa_law 1191 (la_ls i) [] M2 Q) : pm_G mLa_law 835 (la_ls i) [] M Q := by
  have sub := la_sub hL22
  obtain ⟨x, M1, M2, e1, e2, hI2⟩ := ok_see (M.1 50 0 (i + 1)) (M.1 50 0 (i + 2)) M hI
  have v1 : vp_in (nI i + 1) (M.1 49 0 0).toNatClampNeg ∧ (nI i + 1).toNatClampNeg = i + 1 := la_ix (j := 1) hl hL hi (by omega)
  have v2 : vp_in (nI i + 2) (M.1 49 0 0).toNatClampNeg ∧ (nI i + 2).toNatClampNeg = i + 2 := la_ix (j := 2) hl hL hi (by omega)
  refine la_G sub 11 (cs := [vp_in (nI i + 1) (M.1 49 0 0).toNatClampNeg, vp_in (nI i + 2) (M.1 49 0 0).toNatClampNeg]) (pc' := 846) (ls' := la_ls i) (st' := [pm_i (M.1 50 0 (nI i + 2).toNatClampNeg), pm_i (M.1 50 0 (nI i + 1).toNatClampNeg), pm_r 0 0]) (M' := M) rfl ⟨v1.1, v2.1, trivial⟩ ?_
  rw [v1.2, v2.2]
  refine pm_G_callV (as := [pm_i (M.1 50 0 (i + 1)), pm_i (M.1 50 0 (i + 2))]) (t := 0) (k := 0) (st := []) k7_108 (sub _ _ rfl) rfl rfl rfl (Nat.le_of_ble_eq_true rfl) rfl (pm_Sem_keep e1) (fun v9 M9 hq => ?_)
  obtain ⟨⟨ev, eM⟩, q50, q49⟩ := hq
  rw [eM] at q50 q49 ⊢
  rw [ev]
  rw [← q49] at v1
  rw [← q49] at v2
  refine la_G sub 11 (cs := [vp_in (nI i + 1) (M1.1 49 0 0).toNatClampNeg, vp_in (nI i + 2) (M1.1 49 0 0).toNatClampNeg]) (pc' := 860) (ls' := la_ls i) (st' := [pm_i (M1.1 50 0 (nI i + 2).toNatClampNeg), pm_i (M1.1 50 0 (nI i + 1).toNatClampNeg), pm_r 29 0, pm_i x]) (M' := M1) rfl ⟨v1.1, v2.1, trivial⟩ ?_
  rw [v1.2, v2.2, q50]
  refine pm_G_callV (as := [pm_i (M.1 50 0 (i + 1)), pm_i (M.1 50 0 (i + 2))]) (t := 29) (k := 0) (st := [pm_i x]) k7_111 (sub _ _ rfl) rfl rfl rfl (Nat.le_of_ble_eq_true rfl) rfl (pm_Sem_keep e2) (fun v9 M9 hq => ?_)
  obtain ⟨⟨ev2, eM2⟩, r50, r49⟩ := hq
  rw [eM2] at r50 r49 ⊢
  rw [ev2]
  refine la_G sub 1 (cs := []) (pc' := (if x = x then 1191 else 866)) (ls' := la_ls i) (st' := []) (M' := M2) rfl trivial (pm_G_ite (fun _ => kk _ hI2 (r49.trans (q49.trans hl))) (fun c => absurd rfl c))
def tL23 : List (Nat × Instr) := [(868, .aload_n 1), (869, .aload_n 0), (870, .iload_n 3), (871, .iconst 1), (872, .iadd), (873, .iaload), (874, .invokevirtual 112), (877, .aload_n 2), (878, .aload_n 0), (879, .iload_n 3), (880, .iconst 1), (881, .iadd), (882, .iaload), (883, .invokevirtual 115), (886, .if_icmp .eq 305)]
theorem hL23 : tL23.all (fun e => decide (pm_tab mLa_law e.1 = some e.2)) = true := by decide +kernel
theorem la_23 {M : pm_M} {i Ln : Nat} {Q : Option pm_V → pm_M → Prop} (hI : Inv M) (hl : M.1 49 0 0 = nI Ln) (hL : Ln ≤ 320) (hi : i + 5 ≤ Ln) (kk : ∀ M2, Inv M2 → M2.1 49 0 0 = nI Ln → pm_G mLa_law 1191 (la_ls i) [] M2 Q) : pm_G mLa_law 868 (la_ls i) [] M Q := by
  have sub := la_sub hL23
  obtain ⟨x, M1, M2, e1, e2, hI2⟩ := ok_forget (M.1 50 0 (i + 1)) M hI
  have v1 : vp_in (nI i + 1) (M.1 49 0 0).toNatClampNeg ∧ (nI i + 1).toNatClampNeg = i + 1 := la_ix (j := 1) hl hL hi (by omega)
  refine la_G sub 6 (cs := [vp_in (nI i + 1) (M.1 49 0 0).toNatClampNeg]) (pc' := 874) (ls' := la_ls i) (st' := [pm_i (M.1 50 0 (nI i + 1).toNatClampNeg), pm_r 0 0]) (M' := M) rfl ⟨v1.1, trivial⟩ ?_
  rw [v1.2]
  refine pm_G_callV (as := [pm_i (M.1 50 0 (i + 1))]) (t := 0) (k := 0) (st := []) k7_112 (sub _ _ rfl) rfl rfl rfl (Nat.le_of_ble_eq_true rfl) rfl (pm_Sem_keep e1) (fun v9 M9 hq => ?_)
  obtain ⟨⟨ev, eM⟩, q50, q49⟩ := hq
  rw [eM] at q50 q49 ⊢
  rw [ev]
  rw [← q49] at v1
  refine la_G sub 6 (cs := [vp_in (nI i + 1) (M1.1 49 0 0).toNatClampNeg]) (pc' := 883) (ls' := la_ls i) (st' := [pm_i (M1.1 50 0 (nI i + 1).toNatClampNeg), pm_r 29 0, pm_i x]) (M' := M1) rfl ⟨v1.1, trivial⟩ ?_
  rw [v1.2, q50]
  refine pm_G_callV (as := [pm_i (M.1 50 0 (i + 1))]) (t := 29) (k := 0) (st := [pm_i x]) k7_115 (sub _ _ rfl) rfl rfl rfl (Nat.le_of_ble_eq_true rfl) rfl (pm_Sem_keep e2) (fun v9 M9 hq => ?_)
  obtain ⟨⟨ev2, eM2⟩, r50, r49⟩ := hq
  rw [eM2] at r50 r49 ⊢
  rw [ev2]
  refine la_G sub 1 (cs := []) (pc' := (if x = x then 1191 else 889)) (ls' := la_ls i) (st' := []) (M' := M2) rfl trivial (pm_G_ite (fun _ => kk _ hI2 (r49.trans (q49.trans hl))) (fun c => absurd rfl c))
def tL24 : List (Nat × Instr) := [(891, .aload_n 1), (892, .aload_n 0), (893, .iload_n 3), (894, .iconst 1), (895, .iadd), (896, .iaload), (897, .invokevirtual 116), (900, .aload_n 2), (901, .aload_n 0), (902, .iload_n 3), (903, .iconst 1), (904, .iadd), (905, .iaload), (906, .invokevirtual 119), (909, .if_icmp .eq 282)]
theorem hL24 : tL24.all (fun e => decide (pm_tab mLa_law e.1 = some e.2)) = true := by decide +kernel
theorem la_24 {M : pm_M} {i Ln : Nat} {Q : Option pm_V → pm_M → Prop} (hI : Inv M) (hl : M.1 49 0 0 = nI Ln) (hL : Ln ≤ 320) (hi : i + 5 ≤ Ln) (kk : ∀ M2, Inv M2 → M2.1 49 0 0 = nI Ln → pm_G mLa_law 1191 (la_ls i) [] M2 Q) : pm_G mLa_law 891 (la_ls i) [] M Q := by
  have sub := la_sub hL24
  obtain ⟨x, M1, M2, e1, e2, hI2⟩ := ok_fits (M.1 50 0 (i + 1)) M hI
  have v1 : vp_in (nI i + 1) (M.1 49 0 0).toNatClampNeg ∧ (nI i + 1).toNatClampNeg = i + 1 := la_ix (j := 1) hl hL hi (by omega)
  refine la_G sub 6 (cs := [vp_in (nI i + 1) (M.1 49 0 0).toNatClampNeg]) (pc' := 897) (ls' := la_ls i) (st' := [pm_i (M.1 50 0 (nI i + 1).toNatClampNeg), pm_r 0 0]) (M' := M) rfl ⟨v1.1, trivial⟩ ?_
  rw [v1.2]
  refine pm_G_callV (as := [pm_i (M.1 50 0 (i + 1))]) (t := 0) (k := 0) (st := []) k7_116 (sub _ _ rfl) rfl rfl rfl (Nat.le_of_ble_eq_true rfl) rfl (pm_Sem_keep e1) (fun v9 M9 hq => ?_)
  obtain ⟨⟨ev, eM⟩, q50, q49⟩ := hq
  rw [eM] at q50 q49 ⊢
  rw [ev]
  rw [← q49] at v1
  refine la_G sub 6 (cs := [vp_in (nI i + 1) (M1.1 49 0 0).toNatClampNeg]) (pc' := 906) (ls' := la_ls i) (st' := [pm_i (M1.1 50 0 (nI i + 1).toNatClampNeg), pm_r 29 0, pm_i x]) (M' := M1) rfl ⟨v1.1, trivial⟩ ?_
  rw [v1.2, q50]
  refine pm_G_callV (as := [pm_i (M.1 50 0 (i + 1))]) (t := 29) (k := 0) (st := [pm_i x]) k7_119 (sub _ _ rfl) rfl rfl rfl (Nat.le_of_ble_eq_true rfl) rfl (pm_Sem_keep e2) (fun v9 M9 hq => ?_)
  obtain ⟨⟨ev2, eM2⟩, r50, r49⟩ := hq
  rw [eM2] at r50 r49 ⊢
  rw [ev2]
  refine la_G sub 1 (cs := []) (pc' := (if x = x then 1191 else 912)) (ls' := la_ls i) (st' := []) (M' := M2) rfl trivial (pm_G_ite (fun _ => kk _ hI2 (r49.trans (q49.trans hl))) (fun c => absurd rfl c))
def tL25 : List (Nat × Instr) := [(914, .aload_n 1), (915, .aload_n 0), (916, .iload_n 3), (917, .iconst 1), (918, .iadd), (919, .iaload), (920, .invokevirtual 120), (923, .aload_n 2), (924, .aload_n 0), (925, .iload_n 3), (926, .iconst 1), (927, .iadd), (928, .iaload), (929, .invokevirtual 123), (932, .if_icmp .eq 259)]
theorem hL25 : tL25.all (fun e => decide (pm_tab mLa_law e.1 = some e.2)) = true := by decide +kernel
theorem la_25 {M : pm_M} {i Ln : Nat} {Q : Option pm_V → pm_M → Prop} (hI : Inv M) (hl : M.1 49 0 0 = nI Ln) (hL : Ln ≤ 320) (hi : i + 5 ≤ Ln) (kk : ∀ M2, Inv M2 → M2.1 49 0 0 = nI Ln → pm_G mLa_law 1191 (la_ls i) [] M2 Q) : pm_G mLa_law 914 (la_ls i) [] M Q := by
  have sub := la_sub hL25
  obtain ⟨x, M1, M2, e1, e2, hI2⟩ := ok_ask (M.1 50 0 (i + 1)) M hI
  have v1 : vp_in (nI i + 1) (M.1 49 0 0).toNatClampNeg ∧ (nI i + 1).toNatClampNeg = i + 1 := la_ix (j := 1) hl hL hi (by omega)
  refine la_G sub 6 (cs := [vp_in (nI i + 1) (M.1 49 0 0).toNatClampNeg]) (pc' := 920) (ls' := la_ls i) (st' := [pm_i (M.1 50 0 (nI i + 1).toNatClampNeg), pm_r 0 0]) (M' := M) rfl ⟨v1.1, trivial⟩ ?_
  rw [v1.2]
  refine pm_G_callV (as := [pm_i (M.1 50 0 (i + 1))]) (t := 0) (k := 0) (st := []) k7_120 (sub _ _ rfl) rfl rfl rfl (Nat.le_of_ble_eq_true rfl) rfl (pm_Sem_keep e1) (fun v9 M9 hq => ?_)
  obtain ⟨⟨ev, eM⟩, q50, q49⟩ := hq
  rw [eM] at q50 q49 ⊢
  rw [ev]
  rw [← q49] at v1
  refine la_G sub 6 (cs := [vp_in (nI i + 1) (M1.1 49 0 0).toNatClampNeg]) (pc' := 929) (ls' := la_ls i) (st' := [pm_i (M1.1 50 0 (nI i + 1).toNatClampNeg), pm_r 29 0, pm_i x]) (M' := M1) rfl ⟨v1.1, trivial⟩ ?_
  rw [v1.2, q50]
  refine pm_G_callV (as := [pm_i (M.1 50 0 (i + 1))]) (t := 29) (k := 0) (st := [pm_i x]) k7_123 (sub _ _ rfl) rfl rfl rfl (Nat.le_of_ble_eq_true rfl) rfl (pm_Sem_keep e2) (fun v9 M9 hq => ?_)
  obtain ⟨⟨ev2, eM2⟩, r50, r49⟩ := hq
  rw [eM2] at r50 r49 ⊢
  rw [ev2]
  refine la_G sub 1 (cs := []) (pc' := (if x = x then 1191 else 935)) (ls' := la_ls i) (st' := []) (M' := M2) rfl trivial (pm_G_ite (fun _ => kk _ hI2 (r49.trans (q49.trans hl))) (fun c => absurd rfl c))
def tL26 : List (Nat × Instr) := [(937, .aload_n 1), (938, .aload_n 0), (939, .iload_n 3), (940, .iconst 1), (941, .iadd), (942, .iaload), (943, .aload_n 0), (944, .iload_n 3), (945, .iconst 2), (946, .iadd), (947, .iaload), (948, .invokevirtual 124), (951, .aload_n 2), (952, .aload_n 0), (953, .iload_n 3), (954, .iconst 1), (955, .iadd), (956, .iaload), (957, .aload_n 0), (958, .iload_n 3), (959, .iconst 2), (960, .iadd), (961, .iaload), (962, .invokevirtual 127), (965, .if_icmp .eq 226)]
theorem hL26 : tL26.all (fun e => decide (pm_tab mLa_law e.1 = some e.2)) = true := by decide +kernel
theorem la_26 {M : pm_M} {i Ln : Nat} {Q : Option pm_V → pm_M → Prop} (hI : Inv M) (hl : M.1 49 0 0 = nI Ln) (hL : Ln ≤ 320) (hi : i + 5 ≤ Ln) (kk : ∀ M2, Inv M2 → M2.1 49 0 0 = nI Ln → pm_G mLa_law 1191 (la_ls i) [] M2 Q) : pm_G mLa_law 937 (la_ls i) [] M Q := by
  have sub := la_sub hL26
  obtain ⟨x, M1, M2, e1, e2, hI2⟩ := ok_drift (M.1 50 0 (i + 1)) (M.1 50 0 (i + 2)) M hI
  have v1 : vp_in (nI i + 1) (M.1 49 0 0).toNatClampNeg ∧ (nI i + 1).toNatClampNeg = i + 1 := la_ix (j := 1) hl hL hi (by omega)
  have v2 : vp_in (nI i + 2) (M.1 49 0 0).toNatClampNeg ∧ (nI i + 2).toNatClampNeg = i + 2 := la_ix (j := 2) hl hL hi (by omega)
  refine la_G sub 11 (cs := [vp_in (nI i + 1) (M.1 49 0 0).toNatClampNeg, vp_in (nI i + 2) (M.1 49 0 0).toNatClampNeg]) (pc' := 948) (ls' := la_ls i) (st' := [pm_i (M.1 50 0 (nI i + 2).toNatClampNeg), pm_i (M.1 50 0 (nI i + 1).toNatClampNeg), pm_r 0 0]) (M' := M) rfl ⟨v1.1, v2.1, trivial⟩ ?_
  rw [v1.2, v2.2]
  refine pm_G_callV (as := [pm_i (M.1 50 0 (i + 1)), pm_i (M.1 50 0 (i + 2))]) (t := 0) (k := 0) (st := []) k7_124 (sub _ _ rfl) rfl rfl rfl (Nat.le_of_ble_eq_true rfl) rfl (pm_Sem_keep e1) (fun v9 M9 hq => ?_)
  obtain ⟨⟨ev, eM⟩, q50, q49⟩ := hq
  rw [eM] at q50 q49 ⊢
  rw [ev]
  rw [← q49] at v1
  rw [← q49] at v2
  refine la_G sub 11 (cs := [vp_in (nI i + 1) (M1.1 49 0 0).toNatClampNeg, vp_in (nI i + 2) (M1.1 49 0 0).toNatClampNeg]) (pc' := 962) (ls' := la_ls i) (st' := [pm_i (M1.1 50 0 (nI i + 2).toNatClampNeg), pm_i (M1.1 50 0 (nI i + 1).toNatClampNeg), pm_r 29 0, pm_i x]) (M' := M1) rfl ⟨v1.1, v2.1, trivial⟩ ?_
  rw [v1.2, v2.2, q50]
  refine pm_G_callV (as := [pm_i (M.1 50 0 (i + 1)), pm_i (M.1 50 0 (i + 2))]) (t := 29) (k := 0) (st := [pm_i x]) k7_127 (sub _ _ rfl) rfl rfl rfl (Nat.le_of_ble_eq_true rfl) rfl (pm_Sem_keep e2) (fun v9 M9 hq => ?_)
  obtain ⟨⟨ev2, eM2⟩, r50, r49⟩ := hq
  rw [eM2] at r50 r49 ⊢
  rw [ev2]
  refine la_G sub 1 (cs := []) (pc' := (if x = x then 1191 else 968)) (ls' := la_ls i) (st' := []) (M' := M2) rfl trivial (pm_G_ite (fun _ => kk _ hI2 (r49.trans (q49.trans hl))) (fun c => absurd rfl c))
def tL27 : List (Nat × Instr) := [(970, .aload_n 1), (971, .aload_n 0), (972, .iload_n 3), (973, .iconst 1), (974, .iadd), (975, .iaload), (976, .invokevirtual 128), (979, .aload_n 2), (980, .aload_n 0), (981, .iload_n 3), (982, .iconst 1), (983, .iadd), (984, .iaload), (985, .invokevirtual 131), (988, .if_icmp .eq 203)]
theorem hL27 : tL27.all (fun e => decide (pm_tab mLa_law e.1 = some e.2)) = true := by decide +kernel
theorem la_27 {M : pm_M} {i Ln : Nat} {Q : Option pm_V → pm_M → Prop} (hI : Inv M) (hl : M.1 49 0 0 = nI Ln) (hL : Ln ≤ 320) (hi : i + 5 ≤ Ln) (kk : ∀ M2, Inv M2 → M2.1 49 0 0 = nI Ln → pm_G mLa_law 1191 (la_ls i) [] M2 Q) : pm_G mLa_law 970 (la_ls i) [] M Q := by
  have sub := la_sub hL27
  obtain ⟨x, M1, M2, e1, e2, hI2⟩ := ok_keep (M.1 50 0 (i + 1)) M hI
  have v1 : vp_in (nI i + 1) (M.1 49 0 0).toNatClampNeg ∧ (nI i + 1).toNatClampNeg = i + 1 := la_ix (j := 1) hl hL hi (by omega)
  refine la_G sub 6 (cs := [vp_in (nI i + 1) (M.1 49 0 0).toNatClampNeg]) (pc' := 976) (ls' := la_ls i) (st' := [pm_i (M.1 50 0 (nI i + 1).toNatClampNeg), pm_r 0 0]) (M' := M) rfl ⟨v1.1, trivial⟩ ?_
  rw [v1.2]
  refine pm_G_callV (as := [pm_i (M.1 50 0 (i + 1))]) (t := 0) (k := 0) (st := []) k7_128 (sub _ _ rfl) rfl rfl rfl (Nat.le_of_ble_eq_true rfl) rfl (pm_Sem_keep e1) (fun v9 M9 hq => ?_)
  obtain ⟨⟨ev, eM⟩, q50, q49⟩ := hq
  rw [eM] at q50 q49 ⊢
  rw [ev]
  rw [← q49] at v1
  refine la_G sub 6 (cs := [vp_in (nI i + 1) (M1.1 49 0 0).toNatClampNeg]) (pc' := 985) (ls' := la_ls i) (st' := [pm_i (M1.1 50 0 (nI i + 1).toNatClampNeg), pm_r 29 0, pm_i x]) (M' := M1) rfl ⟨v1.1, trivial⟩ ?_
  rw [v1.2, q50]
  refine pm_G_callV (as := [pm_i (M.1 50 0 (i + 1))]) (t := 29) (k := 0) (st := [pm_i x]) k7_131 (sub _ _ rfl) rfl rfl rfl (Nat.le_of_ble_eq_true rfl) rfl (pm_Sem_keep e2) (fun v9 M9 hq => ?_)
  obtain ⟨⟨ev2, eM2⟩, r50, r49⟩ := hq
  rw [eM2] at r50 r49 ⊢
  rw [ev2]
  refine la_G sub 1 (cs := []) (pc' := (if x = x then 1191 else 991)) (ls' := la_ls i) (st' := []) (M' := M2) rfl trivial (pm_G_ite (fun _ => kk _ hI2 (r49.trans (q49.trans hl))) (fun c => absurd rfl c))
def tL28 : List (Nat × Instr) := [(993, .aload_n 1), (994, .aload_n 0), (995, .iload_n 3), (996, .iconst 1), (997, .iadd), (998, .iaload), (999, .invokevirtual 132), (1002, .aload_n 2), (1003, .aload_n 0), (1004, .iload_n 3), (1005, .iconst 1), (1006, .iadd), (1007, .iaload), (1008, .invokevirtual 135), (1011, .if_icmp .eq 180)]
theorem hL28 : tL28.all (fun e => decide (pm_tab mLa_law e.1 = some e.2)) = true := by decide +kernel
theorem la_28 {M : pm_M} {i Ln : Nat} {Q : Option pm_V → pm_M → Prop} (hI : Inv M) (hl : M.1 49 0 0 = nI Ln) (hL : Ln ≤ 320) (hi : i + 5 ≤ Ln) (kk : ∀ M2, Inv M2 → M2.1 49 0 0 = nI Ln → pm_G mLa_law 1191 (la_ls i) [] M2 Q) : pm_G mLa_law 993 (la_ls i) [] M Q := by
  have sub := la_sub hL28
  obtain ⟨x, M1, M2, e1, e2, hI2⟩ := ok_back (M.1 50 0 (i + 1)) M hI
  have v1 : vp_in (nI i + 1) (M.1 49 0 0).toNatClampNeg ∧ (nI i + 1).toNatClampNeg = i + 1 := la_ix (j := 1) hl hL hi (by omega)
  refine la_G sub 6 (cs := [vp_in (nI i + 1) (M.1 49 0 0).toNatClampNeg]) (pc' := 999) (ls' := la_ls i) (st' := [pm_i (M.1 50 0 (nI i + 1).toNatClampNeg), pm_r 0 0]) (M' := M) rfl ⟨v1.1, trivial⟩ ?_
  rw [v1.2]
  refine pm_G_callV (as := [pm_i (M.1 50 0 (i + 1))]) (t := 0) (k := 0) (st := []) k7_132 (sub _ _ rfl) rfl rfl rfl (Nat.le_of_ble_eq_true rfl) rfl (pm_Sem_keep e1) (fun v9 M9 hq => ?_)
  obtain ⟨⟨ev, eM⟩, q50, q49⟩ := hq
  rw [eM] at q50 q49 ⊢
  rw [ev]
  rw [← q49] at v1
  refine la_G sub 6 (cs := [vp_in (nI i + 1) (M1.1 49 0 0).toNatClampNeg]) (pc' := 1008) (ls' := la_ls i) (st' := [pm_i (M1.1 50 0 (nI i + 1).toNatClampNeg), pm_r 29 0, pm_i x]) (M' := M1) rfl ⟨v1.1, trivial⟩ ?_
  rw [v1.2, q50]
  refine pm_G_callV (as := [pm_i (M.1 50 0 (i + 1))]) (t := 29) (k := 0) (st := [pm_i x]) k7_135 (sub _ _ rfl) rfl rfl rfl (Nat.le_of_ble_eq_true rfl) rfl (pm_Sem_keep e2) (fun v9 M9 hq => ?_)
  obtain ⟨⟨ev2, eM2⟩, r50, r49⟩ := hq
  rw [eM2] at r50 r49 ⊢
  rw [ev2]
  refine la_G sub 1 (cs := []) (pc' := (if x = x then 1191 else 1014)) (ls' := la_ls i) (st' := []) (M' := M2) rfl trivial (pm_G_ite (fun _ => kk _ hI2 (r49.trans (q49.trans hl))) (fun c => absurd rfl c))
def tL29 : List (Nat × Instr) := [(1016, .aload_n 1), (1017, .aload_n 0), (1018, .iload_n 3), (1019, .iconst 1), (1020, .iadd), (1021, .iaload), (1022, .aload_n 0), (1023, .iload_n 3), (1024, .iconst 2), (1025, .iadd), (1026, .iaload), (1027, .aload_n 0), (1028, .iload_n 3), (1029, .iconst 3), (1030, .iadd), (1031, .iaload), (1032, .invokevirtual 136), (1035, .aload_n 2), (1036, .aload_n 0), (1037, .iload_n 3), (1038, .iconst 1), (1039, .iadd), (1040, .iaload), (1041, .aload_n 0), (1042, .iload_n 3), (1043, .iconst 2), (1044, .iadd), (1045, .iaload), (1046, .aload_n 0), (1047, .iload_n 3), (1048, .iconst 3), (1049, .iadd), (1050, .iaload), (1051, .invokevirtual 139), (1054, .if_icmp .eq 137)]
theorem hL29 : tL29.all (fun e => decide (pm_tab mLa_law e.1 = some e.2)) = true := by decide +kernel
theorem la_29 {M : pm_M} {i Ln : Nat} {Q : Option pm_V → pm_M → Prop} (hI : Inv M) (hl : M.1 49 0 0 = nI Ln) (hL : Ln ≤ 320) (hi : i + 5 ≤ Ln) (kk : ∀ M2, Inv M2 → M2.1 49 0 0 = nI Ln → pm_G mLa_law 1191 (la_ls i) [] M2 Q) : pm_G mLa_law 1016 (la_ls i) [] M Q := by
  have sub := la_sub hL29
  obtain ⟨x, M1, M2, e1, e2, hI2⟩ := ok_sheet (M.1 50 0 (i + 1)) (M.1 50 0 (i + 2)) (M.1 50 0 (i + 3)) M hI
  have v1 : vp_in (nI i + 1) (M.1 49 0 0).toNatClampNeg ∧ (nI i + 1).toNatClampNeg = i + 1 := la_ix (j := 1) hl hL hi (by omega)
  have v2 : vp_in (nI i + 2) (M.1 49 0 0).toNatClampNeg ∧ (nI i + 2).toNatClampNeg = i + 2 := la_ix (j := 2) hl hL hi (by omega)
  have v3 : vp_in (nI i + 3) (M.1 49 0 0).toNatClampNeg ∧ (nI i + 3).toNatClampNeg = i + 3 := la_ix (j := 3) hl hL hi (by omega)
  refine la_G sub 16 (cs := [vp_in (nI i + 1) (M.1 49 0 0).toNatClampNeg, vp_in (nI i + 2) (M.1 49 0 0).toNatClampNeg, vp_in (nI i + 3) (M.1 49 0 0).toNatClampNeg]) (pc' := 1032) (ls' := la_ls i) (st' := [pm_i (M.1 50 0 (nI i + 3).toNatClampNeg), pm_i (M.1 50 0 (nI i + 2).toNatClampNeg), pm_i (M.1 50 0 (nI i + 1).toNatClampNeg), pm_r 0 0]) (M' := M) rfl ⟨v1.1, v2.1, v3.1, trivial⟩ ?_
  rw [v1.2, v2.2, v3.2]
  refine pm_G_callV (as := [pm_i (M.1 50 0 (i + 1)), pm_i (M.1 50 0 (i + 2)), pm_i (M.1 50 0 (i + 3))]) (t := 0) (k := 0) (st := []) k7_136 (sub _ _ rfl) rfl rfl rfl (Nat.le_of_ble_eq_true rfl) rfl (pm_Sem_keep e1) (fun v9 M9 hq => ?_)
  obtain ⟨⟨ev, eM⟩, q50, q49⟩ := hq
  rw [eM] at q50 q49 ⊢
  rw [ev]
  rw [← q49] at v1
  rw [← q49] at v2
  rw [← q49] at v3
  refine la_G sub 16 (cs := [vp_in (nI i + 1) (M1.1 49 0 0).toNatClampNeg, vp_in (nI i + 2) (M1.1 49 0 0).toNatClampNeg, vp_in (nI i + 3) (M1.1 49 0 0).toNatClampNeg]) (pc' := 1051) (ls' := la_ls i) (st' := [pm_i (M1.1 50 0 (nI i + 3).toNatClampNeg), pm_i (M1.1 50 0 (nI i + 2).toNatClampNeg), pm_i (M1.1 50 0 (nI i + 1).toNatClampNeg), pm_r 29 0, pm_i x]) (M' := M1) rfl ⟨v1.1, v2.1, v3.1, trivial⟩ ?_
  rw [v1.2, v2.2, v3.2, q50]
  refine pm_G_callV (as := [pm_i (M.1 50 0 (i + 1)), pm_i (M.1 50 0 (i + 2)), pm_i (M.1 50 0 (i + 3))]) (t := 29) (k := 0) (st := [pm_i x]) k7_139 (sub _ _ rfl) rfl rfl rfl (Nat.le_of_ble_eq_true rfl) rfl (pm_Sem_keep e2) (fun v9 M9 hq => ?_)
  obtain ⟨⟨ev2, eM2⟩, r50, r49⟩ := hq
  rw [eM2] at r50 r49 ⊢
  rw [ev2]
  refine la_G sub 1 (cs := []) (pc' := (if x = x then 1191 else 1057)) (ls' := la_ls i) (st' := []) (M' := M2) rfl trivial (pm_G_ite (fun _ => kk _ hI2 (r49.trans (q49.trans hl))) (fun c => absurd rfl c))
def tL30 : List (Nat × Instr) := [(1059, .aload_n 1), (1060, .aload_n 0), (1061, .iload_n 3), (1062, .iconst 1), (1063, .iadd), (1064, .iaload), (1065, .aload_n 0), (1066, .iload_n 3), (1067, .iconst 2), (1068, .iadd), (1069, .iaload), (1070, .aload_n 0), (1071, .iload_n 3), (1072, .iconst 3), (1073, .iadd), (1074, .iaload), (1075, .invokevirtual 140), (1078, .aload_n 2), (1079, .aload_n 0), (1080, .iload_n 3), (1081, .iconst 1), (1082, .iadd), (1083, .iaload), (1084, .aload_n 0), (1085, .iload_n 3), (1086, .iconst 2), (1087, .iadd), (1088, .iaload), (1089, .aload_n 0), (1090, .iload_n 3), (1091, .iconst 3), (1092, .iadd), (1093, .iaload), (1094, .invokevirtual 143), (1097, .if_icmp .eq 94)]
theorem hL30 : tL30.all (fun e => decide (pm_tab mLa_law e.1 = some e.2)) = true := by decide +kernel
theorem la_30 {M : pm_M} {i Ln : Nat} {Q : Option pm_V → pm_M → Prop} (hI : Inv M) (hl : M.1 49 0 0 = nI Ln) (hL : Ln ≤ 320) (hi : i + 5 ≤ Ln) (kk : ∀ M2, Inv M2 → M2.1 49 0 0 = nI Ln → pm_G mLa_law 1191 (la_ls i) [] M2 Q) : pm_G mLa_law 1059 (la_ls i) [] M Q := by
  have sub := la_sub hL30
  obtain ⟨x, M1, M2, e1, e2, hI2⟩ := ok_lay (M.1 50 0 (i + 1)) (M.1 50 0 (i + 2)) (M.1 50 0 (i + 3)) M hI
  have v1 : vp_in (nI i + 1) (M.1 49 0 0).toNatClampNeg ∧ (nI i + 1).toNatClampNeg = i + 1 := la_ix (j := 1) hl hL hi (by omega)
  have v2 : vp_in (nI i + 2) (M.1 49 0 0).toNatClampNeg ∧ (nI i + 2).toNatClampNeg = i + 2 := la_ix (j := 2) hl hL hi (by omega)
  have v3 : vp_in (nI i + 3) (M.1 49 0 0).toNatClampNeg ∧ (nI i + 3).toNatClampNeg = i + 3 := la_ix (j := 3) hl hL hi (by omega)
  refine la_G sub 16 (cs := [vp_in (nI i + 1) (M.1 49 0 0).toNatClampNeg, vp_in (nI i + 2) (M.1 49 0 0).toNatClampNeg, vp_in (nI i + 3) (M.1 49 0 0).toNatClampNeg]) (pc' := 1075) (ls' := la_ls i) (st' := [pm_i (M.1 50 0 (nI i + 3).toNatClampNeg), pm_i (M.1 50 0 (nI i + 2).toNatClampNeg), pm_i (M.1 50 0 (nI i + 1).toNatClampNeg), pm_r 0 0]) (M' := M) rfl ⟨v1.1, v2.1, v3.1, trivial⟩ ?_
  rw [v1.2, v2.2, v3.2]
  refine pm_G_callV (as := [pm_i (M.1 50 0 (i + 1)), pm_i (M.1 50 0 (i + 2)), pm_i (M.1 50 0 (i + 3))]) (t := 0) (k := 0) (st := []) k7_140 (sub _ _ rfl) rfl rfl rfl (Nat.le_of_ble_eq_true rfl) rfl (pm_Sem_keep e1) (fun v9 M9 hq => ?_)
  obtain ⟨⟨ev, eM⟩, q50, q49⟩ := hq
  rw [eM] at q50 q49 ⊢
  rw [ev]
  rw [← q49] at v1
  rw [← q49] at v2
  rw [← q49] at v3
  refine la_G sub 16 (cs := [vp_in (nI i + 1) (M1.1 49 0 0).toNatClampNeg, vp_in (nI i + 2) (M1.1 49 0 0).toNatClampNeg, vp_in (nI i + 3) (M1.1 49 0 0).toNatClampNeg]) (pc' := 1094) (ls' := la_ls i) (st' := [pm_i (M1.1 50 0 (nI i + 3).toNatClampNeg), pm_i (M1.1 50 0 (nI i + 2).toNatClampNeg), pm_i (M1.1 50 0 (nI i + 1).toNatClampNeg), pm_r 29 0, pm_i x]) (M' := M1) rfl ⟨v1.1, v2.1, v3.1, trivial⟩ ?_
  rw [v1.2, v2.2, v3.2, q50]
  refine pm_G_callV (as := [pm_i (M.1 50 0 (i + 1)), pm_i (M.1 50 0 (i + 2)), pm_i (M.1 50 0 (i + 3))]) (t := 29) (k := 0) (st := [pm_i x]) k7_143 (sub _ _ rfl) rfl rfl rfl (Nat.le_of_ble_eq_true rfl) rfl (pm_Sem_keep e2) (fun v9 M9 hq => ?_)
  obtain ⟨⟨ev2, eM2⟩, r50, r49⟩ := hq
  rw [eM2] at r50 r49 ⊢
  rw [ev2]
  refine la_G sub 1 (cs := []) (pc' := (if x = x then 1191 else 1100)) (ls' := la_ls i) (st' := []) (M' := M2) rfl trivial (pm_G_ite (fun _ => kk _ hI2 (r49.trans (q49.trans hl))) (fun c => absurd rfl c))
def tL31 : List (Nat × Instr) := [(1102, .aload_n 1), (1103, .aload_n 0), (1104, .iload_n 3), (1105, .iconst 1), (1106, .iadd), (1107, .iaload), (1108, .aload_n 0), (1109, .iload_n 3), (1110, .iconst 2), (1111, .iadd), (1112, .iaload), (1113, .aload_n 0), (1114, .iload_n 3), (1115, .iconst 3), (1116, .iadd), (1117, .iaload), (1118, .aload_n 0), (1119, .iload_n 3), (1120, .iconst 4), (1121, .iadd), (1122, .iaload), (1123, .invokevirtual 144), (1126, .aload_n 2), (1127, .aload_n 0), (1128, .iload_n 3), (1129, .iconst 1), (1130, .iadd), (1131, .iaload), (1132, .aload_n 0), (1133, .iload_n 3), (1134, .iconst 2), (1135, .iadd), (1136, .iaload), (1137, .aload_n 0), (1138, .iload_n 3), (1139, .iconst 3), (1140, .iadd), (1141, .iaload), (1142, .aload_n 0), (1143, .iload_n 3), (1144, .iconst 4), (1145, .iadd), (1146, .iaload), (1147, .invokevirtual 148), (1150, .if_icmp .eq 41)]
theorem hL31 : tL31.all (fun e => decide (pm_tab mLa_law e.1 = some e.2)) = true := by decide +kernel
theorem la_31 {M : pm_M} {i Ln : Nat} {Q : Option pm_V → pm_M → Prop} (hI : Inv M) (hl : M.1 49 0 0 = nI Ln) (hL : Ln ≤ 320) (hi : i + 5 ≤ Ln) (kk : ∀ M2, Inv M2 → M2.1 49 0 0 = nI Ln → pm_G mLa_law 1191 (la_ls i) [] M2 Q) : pm_G mLa_law 1102 (la_ls i) [] M Q := by
  have sub := la_sub hL31
  obtain ⟨x, M1, M2, e1, e2, hI2⟩ := ok_read (M.1 50 0 (i + 1)) (M.1 50 0 (i + 2)) (M.1 50 0 (i + 3)) (M.1 50 0 (i + 4)) M hI
  have v1 : vp_in (nI i + 1) (M.1 49 0 0).toNatClampNeg ∧ (nI i + 1).toNatClampNeg = i + 1 := la_ix (j := 1) hl hL hi (by omega)
  have v2 : vp_in (nI i + 2) (M.1 49 0 0).toNatClampNeg ∧ (nI i + 2).toNatClampNeg = i + 2 := la_ix (j := 2) hl hL hi (by omega)
  have v3 : vp_in (nI i + 3) (M.1 49 0 0).toNatClampNeg ∧ (nI i + 3).toNatClampNeg = i + 3 := la_ix (j := 3) hl hL hi (by omega)
  have v4 : vp_in (nI i + 4) (M.1 49 0 0).toNatClampNeg ∧ (nI i + 4).toNatClampNeg = i + 4 := la_ix (j := 4) hl hL hi (by omega)
  refine la_G sub 21 (cs := [vp_in (nI i + 1) (M.1 49 0 0).toNatClampNeg, vp_in (nI i + 2) (M.1 49 0 0).toNatClampNeg, vp_in (nI i + 3) (M.1 49 0 0).toNatClampNeg, vp_in (nI i + 4) (M.1 49 0 0).toNatClampNeg]) (pc' := 1123) (ls' := la_ls i) (st' := [pm_i (M.1 50 0 (nI i + 4).toNatClampNeg), pm_i (M.1 50 0 (nI i + 3).toNatClampNeg), pm_i (M.1 50 0 (nI i + 2).toNatClampNeg), pm_i (M.1 50 0 (nI i + 1).toNatClampNeg), pm_r 0 0]) (M' := M) rfl ⟨v1.1, v2.1, v3.1, v4.1, trivial⟩ ?_
  rw [v1.2, v2.2, v3.2, v4.2]
  refine pm_G_callV (as := [pm_i (M.1 50 0 (i + 1)), pm_i (M.1 50 0 (i + 2)), pm_i (M.1 50 0 (i + 3)), pm_i (M.1 50 0 (i + 4))]) (t := 0) (k := 0) (st := []) k7_144 (sub _ _ rfl) rfl rfl rfl (Nat.le_of_ble_eq_true rfl) rfl (pm_Sem_keep e1) (fun v9 M9 hq => ?_)
  obtain ⟨⟨ev, eM⟩, q50, q49⟩ := hq
  rw [eM] at q50 q49 ⊢
  rw [ev]
  rw [← q49] at v1
  rw [← q49] at v2
  rw [← q49] at v3
  rw [← q49] at v4
  refine la_G sub 21 (cs := [vp_in (nI i + 1) (M1.1 49 0 0).toNatClampNeg, vp_in (nI i + 2) (M1.1 49 0 0).toNatClampNeg, vp_in (nI i + 3) (M1.1 49 0 0).toNatClampNeg, vp_in (nI i + 4) (M1.1 49 0 0).toNatClampNeg]) (pc' := 1147) (ls' := la_ls i) (st' := [pm_i (M1.1 50 0 (nI i + 4).toNatClampNeg), pm_i (M1.1 50 0 (nI i + 3).toNatClampNeg), pm_i (M1.1 50 0 (nI i + 2).toNatClampNeg), pm_i (M1.1 50 0 (nI i + 1).toNatClampNeg), pm_r 29 0, pm_i x]) (M' := M1) rfl ⟨v1.1, v2.1, v3.1, v4.1, trivial⟩ ?_
  rw [v1.2, v2.2, v3.2, v4.2, q50]
  refine pm_G_callV (as := [pm_i (M.1 50 0 (i + 1)), pm_i (M.1 50 0 (i + 2)), pm_i (M.1 50 0 (i + 3)), pm_i (M.1 50 0 (i + 4))]) (t := 29) (k := 0) (st := [pm_i x]) k7_148 (sub _ _ rfl) rfl rfl rfl (Nat.le_of_ble_eq_true rfl) rfl (pm_Sem_keep e2) (fun v9 M9 hq => ?_)
  obtain ⟨⟨ev2, eM2⟩, r50, r49⟩ := hq
  rw [eM2] at r50 r49 ⊢
  rw [ev2]
  refine la_G sub 1 (cs := []) (pc' := (if x = x then 1191 else 1153)) (ls' := la_ls i) (st' := []) (M' := M2) rfl trivial (pm_G_ite (fun _ => kk _ hI2 (r49.trans (q49.trans hl))) (fun c => absurd rfl c))
def tL32 : List (Nat × Instr) := [(1155, .aload_n 1), (1156, .invokevirtual 149), (1159, .aload_n 2), (1160, .invokevirtual 152), (1163, .if_icmp .eq 28)]
theorem hL32 : tL32.all (fun e => decide (pm_tab mLa_law e.1 = some e.2)) = true := by decide +kernel
theorem la_32 {M : pm_M} {i Ln : Nat} {Q : Option pm_V → pm_M → Prop} (hI : Inv M) (hl : M.1 49 0 0 = nI Ln) (hL : Ln ≤ 320) (hi : i + 5 ≤ Ln) (kk : ∀ M2, Inv M2 → M2.1 49 0 0 = nI Ln → pm_G mLa_law 1191 (la_ls i) [] M2 Q) : pm_G mLa_law 1155 (la_ls i) [] M Q := by
  have sub := la_sub hL32
  obtain ⟨x, M1, M2, e1, e2, hI2⟩ := ok_torn M hI
  refine la_G sub 1 (cs := []) (pc' := 1156) (ls' := la_ls i) (st' := [pm_r 0 0]) (M' := M) rfl trivial ?_
  refine pm_G_callV (as := []) (t := 0) (k := 0) (st := []) k7_149 (sub _ _ rfl) rfl rfl rfl (Nat.le_of_ble_eq_true rfl) rfl (pm_Sem_keep e1) (fun v9 M9 hq => ?_)
  obtain ⟨⟨ev, eM⟩, q50, q49⟩ := hq
  rw [eM] at q50 q49 ⊢
  rw [ev]
  refine la_G sub 1 (cs := []) (pc' := 1160) (ls' := la_ls i) (st' := [pm_r 29 0, pm_i x]) (M' := M1) rfl trivial ?_
  refine pm_G_callV (as := []) (t := 29) (k := 0) (st := [pm_i x]) k7_152 (sub _ _ rfl) rfl rfl rfl (Nat.le_of_ble_eq_true rfl) rfl (pm_Sem_keep e2) (fun v9 M9 hq => ?_)
  obtain ⟨⟨ev2, eM2⟩, r50, r49⟩ := hq
  rw [eM2] at r50 r49 ⊢
  rw [ev2]
  refine la_G sub 1 (cs := []) (pc' := (if x = x then 1191 else 1166)) (ls' := la_ls i) (st' := []) (M' := M2) rfl trivial (pm_G_ite (fun _ => kk _ hI2 (r49.trans (q49.trans hl))) (fun c => absurd rfl c))
def tL33 : List (Nat × Instr) := [(1168, .aload_n 1), (1169, .aload_n 0), (1170, .iload_n 3), (1171, .iconst 1), (1172, .iadd), (1173, .iaload), (1174, .invokevirtual 153), (1177, .aload_n 2), (1178, .aload_n 0), (1179, .iload_n 3), (1180, .iconst 1), (1181, .iadd), (1182, .iaload), (1183, .invokevirtual 156), (1186, .if_icmp .eq 5)]
theorem hL33 : tL33.all (fun e => decide (pm_tab mLa_law e.1 = some e.2)) = true := by decide +kernel
theorem la_33 {M : pm_M} {i Ln : Nat} {Q : Option pm_V → pm_M → Prop} (hI : Inv M) (hl : M.1 49 0 0 = nI Ln) (hL : Ln ≤ 320) (hi : i + 5 ≤ Ln) (kk : ∀ M2, Inv M2 → M2.1 49 0 0 = nI Ln → pm_G mLa_law 1191 (la_ls i) [] M2 Q) : pm_G mLa_law 1168 (la_ls i) [] M Q := by
  have sub := la_sub hL33
  obtain ⟨x, M1, M2, e1, e2, hI2⟩ := ok_count (M.1 50 0 (i + 1)) M hI
  have v1 : vp_in (nI i + 1) (M.1 49 0 0).toNatClampNeg ∧ (nI i + 1).toNatClampNeg = i + 1 := la_ix (j := 1) hl hL hi (by omega)
  refine la_G sub 6 (cs := [vp_in (nI i + 1) (M.1 49 0 0).toNatClampNeg]) (pc' := 1174) (ls' := la_ls i) (st' := [pm_i (M.1 50 0 (nI i + 1).toNatClampNeg), pm_r 0 0]) (M' := M) rfl ⟨v1.1, trivial⟩ ?_
  rw [v1.2]
  refine pm_G_callV (as := [pm_i (M.1 50 0 (i + 1))]) (t := 0) (k := 0) (st := []) k7_153 (sub _ _ rfl) rfl rfl rfl (Nat.le_of_ble_eq_true rfl) rfl (pm_Sem_keep e1) (fun v9 M9 hq => ?_)
  obtain ⟨⟨ev, eM⟩, q50, q49⟩ := hq
  rw [eM] at q50 q49 ⊢
  rw [ev]
  rw [← q49] at v1
  refine la_G sub 6 (cs := [vp_in (nI i + 1) (M1.1 49 0 0).toNatClampNeg]) (pc' := 1183) (ls' := la_ls i) (st' := [pm_i (M1.1 50 0 (nI i + 1).toNatClampNeg), pm_r 29 0, pm_i x]) (M' := M1) rfl ⟨v1.1, trivial⟩ ?_
  rw [v1.2, q50]
  refine pm_G_callV (as := [pm_i (M.1 50 0 (i + 1))]) (t := 29) (k := 0) (st := [pm_i x]) k7_156 (sub _ _ rfl) rfl rfl rfl (Nat.le_of_ble_eq_true rfl) rfl (pm_Sem_keep e2) (fun v9 M9 hq => ?_)
  obtain ⟨⟨ev2, eM2⟩, r50, r49⟩ := hq
  rw [eM2] at r50 r49 ⊢
  rw [ev2]
  refine la_G sub 1 (cs := []) (pc' := (if x = x then 1191 else 1189)) (ls' := la_ls i) (st' := []) (M' := M2) rfl trivial (pm_G_ite (fun _ => kk _ hI2 (r49.trans (q49.trans hl))) (fun c => absurd rfl c))
