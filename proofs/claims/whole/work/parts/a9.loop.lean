def tLs : List (Nat × Instr) := [(26, .aload_n 0), (27, .iload_n 3), (28, .iaload), (29, .bipush 63), (31, .iand), (32, .tableswitch 1159 0 33 #[152, 175, 198, 211, 224, 247, 280, 313, 346, 389, 422, 455, 488, 512, 546, 580, 624, 648, 681, 714, 737, 760, 803, 836, 859, 882, 905, 938, 961, 984, 1027, 1070, 1123, 1136])]
theorem hLs : tLs.all (fun e => decide (pm_tab mLa_law e.1 = some e.2)) = true := by decide +kernel
def tLt : List (Nat × Instr) := [(16, .iconst 0), (17, .istore_n 3), (18, .iload_n 3), (19, .aload_n 0), (20, .arraylength), (21, .iconst 5), (22, .isub), (23, .if_icmp .gt 1174)]
theorem hLt : tLt.all (fun e => decide (pm_tab mLa_law e.1 = some e.2)) = true := by decide +kernel
def tLu : List (Nat × Instr) := [(1191, .iinc 3 5), (1194, .goto (-1176)), (1197, .iconst 1), (1198, .ireturn)]
theorem hLu : tLu.all (fun e => decide (pm_tab mLa_law e.1 = some e.2)) = true := by decide +kernel
theorem la_all {M : pm_M} {i Ln : Nat} {Q : Option pm_V → pm_M → Prop} (hI : Inv M) (hl : M.1 49 0 0 = nI Ln) (hL : Ln ≤ 320) (hi : i + 5 ≤ Ln) (kk : ∀ M2, Inv M2 → M2.1 49 0 0 = nI Ln → pm_G mLa_law 1191 (la_ls i) [] M2 Q) : pm_G mLa_law 26 (la_ls i) [] M Q := by
  have sub := la_sub hLs
  refine la_G sub 5 (cs := [vp_in (nI i) (M.1 49 0 0).toNatClampNeg]) (pc' := 32) (ls' := la_ls i) (st' := [pm_i (M.1 50 0 (nI i).toNatClampNeg &&& 63)]) (M' := M) rfl ⟨by rw [hl, pm_cl4 (by omega)]; exact pm_vin (by omega) (by omega), trivial⟩ ?_
  obtain ⟨j, hj, ej⟩ := pk_andE (M.1 50 0 (nI i).toNatClampNeg) (m := 63) 6 (by decide)
  rw [ej]
  refine pm_G_tsw (d := 1159) (lo := 0) (hi := 33) (offs := #[152, 175, 198, 211, 224, 247, 280, 313, 346, 389, 422, 455, 488, 512, 546, 580, 624, 648, 681, 714, 737, 760, 803, 836, 859, 882, 905, 938, 961, 984, 1027, 1070, 1123, 1136]) (sub _ _ rfl) (by decide) (by decide) (by decide +kernel) ?_
  have hj : j < 64 := hj
  by_cases q : 34 ≤ j
  · have e : pm_tsw 32 1159 0 33 #[152, 175, 198, 211, 224, 247, 280, 313, 346, 389, 422, 455, 488, 512, 546, 580, 624, 648, 681, 714, 737, 760, 803, 836, 859, 882, 905, 938, 961, 984, 1027, 1070, 1123, 1136] (nI j) = 1191 := by
      unfold pm_tsw
      rw [if_pos]
      · rfl
      · rw [nI_toInt (by omega)]
        omega
    rw [e]
    exact kk M hI hl
  · rcases (show j = 0 ∨ j = 1 ∨ j = 2 ∨ j = 3 ∨ j = 4 ∨ j = 5 ∨ j = 6 ∨ j = 7 ∨ j = 8 ∨ j = 9 ∨ j = 10 ∨ j = 11 ∨ j = 12 ∨ j = 13 ∨ j = 14 ∨ j = 15 ∨ j = 16 ∨ j = 17 ∨ j = 18 ∨ j = 19 ∨ j = 20 ∨ j = 21 ∨ j = 22 ∨ j = 23 ∨ j = 24 ∨ j = 25 ∨ j = 26 ∨ j = 27 ∨ j = 28 ∨ j = 29 ∨ j = 30 ∨ j = 31 ∨ j = 32 ∨ j = 33 by omega) with rfl | rfl | rfl | rfl | rfl | rfl | rfl | rfl | rfl | rfl | rfl | rfl | rfl | rfl | rfl | rfl | rfl | rfl | rfl | rfl | rfl | rfl | rfl | rfl | rfl | rfl | rfl | rfl | rfl | rfl | rfl | rfl | rfl | rfl
    · rw [show pm_tsw 32 1159 0 33 #[152, 175, 198, 211, 224, 247, 280, 313, 346, 389, 422, 455, 488, 512, 546, 580, 624, 648, 681, 714, 737, 760, 803, 836, 859, 882, 905, 938, 961, 984, 1027, 1070, 1123, 1136] (nI 0) = 184 by decide +kernel]
      exact la_0 hI hl hL hi kk
    · rw [show pm_tsw 32 1159 0 33 #[152, 175, 198, 211, 224, 247, 280, 313, 346, 389, 422, 455, 488, 512, 546, 580, 624, 648, 681, 714, 737, 760, 803, 836, 859, 882, 905, 938, 961, 984, 1027, 1070, 1123, 1136] (nI 1) = 207 by decide +kernel]
      exact la_1 hI hl hL hi kk
    · rw [show pm_tsw 32 1159 0 33 #[152, 175, 198, 211, 224, 247, 280, 313, 346, 389, 422, 455, 488, 512, 546, 580, 624, 648, 681, 714, 737, 760, 803, 836, 859, 882, 905, 938, 961, 984, 1027, 1070, 1123, 1136] (nI 2) = 230 by decide +kernel]
      exact la_2 hI hl hL hi kk
    · rw [show pm_tsw 32 1159 0 33 #[152, 175, 198, 211, 224, 247, 280, 313, 346, 389, 422, 455, 488, 512, 546, 580, 624, 648, 681, 714, 737, 760, 803, 836, 859, 882, 905, 938, 961, 984, 1027, 1070, 1123, 1136] (nI 3) = 243 by decide +kernel]
      exact la_3 hI hl hL hi kk
    · rw [show pm_tsw 32 1159 0 33 #[152, 175, 198, 211, 224, 247, 280, 313, 346, 389, 422, 455, 488, 512, 546, 580, 624, 648, 681, 714, 737, 760, 803, 836, 859, 882, 905, 938, 961, 984, 1027, 1070, 1123, 1136] (nI 4) = 256 by decide +kernel]
      exact la_4 hI hl hL hi kk
    · rw [show pm_tsw 32 1159 0 33 #[152, 175, 198, 211, 224, 247, 280, 313, 346, 389, 422, 455, 488, 512, 546, 580, 624, 648, 681, 714, 737, 760, 803, 836, 859, 882, 905, 938, 961, 984, 1027, 1070, 1123, 1136] (nI 5) = 279 by decide +kernel]
      exact la_5 hI hl hL hi kk
    · rw [show pm_tsw 32 1159 0 33 #[152, 175, 198, 211, 224, 247, 280, 313, 346, 389, 422, 455, 488, 512, 546, 580, 624, 648, 681, 714, 737, 760, 803, 836, 859, 882, 905, 938, 961, 984, 1027, 1070, 1123, 1136] (nI 6) = 312 by decide +kernel]
      exact la_6 hI hl hL hi kk
    · rw [show pm_tsw 32 1159 0 33 #[152, 175, 198, 211, 224, 247, 280, 313, 346, 389, 422, 455, 488, 512, 546, 580, 624, 648, 681, 714, 737, 760, 803, 836, 859, 882, 905, 938, 961, 984, 1027, 1070, 1123, 1136] (nI 7) = 345 by decide +kernel]
      exact la_7 hI hl hL hi kk
    · rw [show pm_tsw 32 1159 0 33 #[152, 175, 198, 211, 224, 247, 280, 313, 346, 389, 422, 455, 488, 512, 546, 580, 624, 648, 681, 714, 737, 760, 803, 836, 859, 882, 905, 938, 961, 984, 1027, 1070, 1123, 1136] (nI 8) = 378 by decide +kernel]
      exact la_8 hI hl hL hi kk
    · rw [show pm_tsw 32 1159 0 33 #[152, 175, 198, 211, 224, 247, 280, 313, 346, 389, 422, 455, 488, 512, 546, 580, 624, 648, 681, 714, 737, 760, 803, 836, 859, 882, 905, 938, 961, 984, 1027, 1070, 1123, 1136] (nI 9) = 421 by decide +kernel]
      exact la_9 hI hl hL hi kk
    · rw [show pm_tsw 32 1159 0 33 #[152, 175, 198, 211, 224, 247, 280, 313, 346, 389, 422, 455, 488, 512, 546, 580, 624, 648, 681, 714, 737, 760, 803, 836, 859, 882, 905, 938, 961, 984, 1027, 1070, 1123, 1136] (nI 10) = 454 by decide +kernel]
      exact la_10 hI hl hL hi kk
    · rw [show pm_tsw 32 1159 0 33 #[152, 175, 198, 211, 224, 247, 280, 313, 346, 389, 422, 455, 488, 512, 546, 580, 624, 648, 681, 714, 737, 760, 803, 836, 859, 882, 905, 938, 961, 984, 1027, 1070, 1123, 1136] (nI 11) = 487 by decide +kernel]
      exact la_11 hI hl hL hi kk
    · rw [show pm_tsw 32 1159 0 33 #[152, 175, 198, 211, 224, 247, 280, 313, 346, 389, 422, 455, 488, 512, 546, 580, 624, 648, 681, 714, 737, 760, 803, 836, 859, 882, 905, 938, 961, 984, 1027, 1070, 1123, 1136] (nI 12) = 520 by decide +kernel]
      exact la_12 hI hl hL hi kk
    · rw [show pm_tsw 32 1159 0 33 #[152, 175, 198, 211, 224, 247, 280, 313, 346, 389, 422, 455, 488, 512, 546, 580, 624, 648, 681, 714, 737, 760, 803, 836, 859, 882, 905, 938, 961, 984, 1027, 1070, 1123, 1136] (nI 13) = 544 by decide +kernel]
      exact la_13 hI hl hL hi kk
    · rw [show pm_tsw 32 1159 0 33 #[152, 175, 198, 211, 224, 247, 280, 313, 346, 389, 422, 455, 488, 512, 546, 580, 624, 648, 681, 714, 737, 760, 803, 836, 859, 882, 905, 938, 961, 984, 1027, 1070, 1123, 1136] (nI 14) = 578 by decide +kernel]
      exact la_14 hI hl hL hi kk
    · rw [show pm_tsw 32 1159 0 33 #[152, 175, 198, 211, 224, 247, 280, 313, 346, 389, 422, 455, 488, 512, 546, 580, 624, 648, 681, 714, 737, 760, 803, 836, 859, 882, 905, 938, 961, 984, 1027, 1070, 1123, 1136] (nI 15) = 612 by decide +kernel]
      exact la_15 hI hl hL hi kk
    · rw [show pm_tsw 32 1159 0 33 #[152, 175, 198, 211, 224, 247, 280, 313, 346, 389, 422, 455, 488, 512, 546, 580, 624, 648, 681, 714, 737, 760, 803, 836, 859, 882, 905, 938, 961, 984, 1027, 1070, 1123, 1136] (nI 16) = 656 by decide +kernel]
      exact la_16 hI hl hL hi kk
    · rw [show pm_tsw 32 1159 0 33 #[152, 175, 198, 211, 224, 247, 280, 313, 346, 389, 422, 455, 488, 512, 546, 580, 624, 648, 681, 714, 737, 760, 803, 836, 859, 882, 905, 938, 961, 984, 1027, 1070, 1123, 1136] (nI 17) = 680 by decide +kernel]
      exact la_17 hI hl hL hi kk
    · rw [show pm_tsw 32 1159 0 33 #[152, 175, 198, 211, 224, 247, 280, 313, 346, 389, 422, 455, 488, 512, 546, 580, 624, 648, 681, 714, 737, 760, 803, 836, 859, 882, 905, 938, 961, 984, 1027, 1070, 1123, 1136] (nI 18) = 713 by decide +kernel]
      exact la_18 hI hl hL hi kk
    · rw [show pm_tsw 32 1159 0 33 #[152, 175, 198, 211, 224, 247, 280, 313, 346, 389, 422, 455, 488, 512, 546, 580, 624, 648, 681, 714, 737, 760, 803, 836, 859, 882, 905, 938, 961, 984, 1027, 1070, 1123, 1136] (nI 19) = 746 by decide +kernel]
      exact la_19 hI hl hL hi kk
    · rw [show pm_tsw 32 1159 0 33 #[152, 175, 198, 211, 224, 247, 280, 313, 346, 389, 422, 455, 488, 512, 546, 580, 624, 648, 681, 714, 737, 760, 803, 836, 859, 882, 905, 938, 961, 984, 1027, 1070, 1123, 1136] (nI 20) = 769 by decide +kernel]
      exact la_20 hI hl hL hi kk
    · rw [show pm_tsw 32 1159 0 33 #[152, 175, 198, 211, 224, 247, 280, 313, 346, 389, 422, 455, 488, 512, 546, 580, 624, 648, 681, 714, 737, 760, 803, 836, 859, 882, 905, 938, 961, 984, 1027, 1070, 1123, 1136] (nI 21) = 792 by decide +kernel]
      exact la_21 hI hl hL hi kk
    · rw [show pm_tsw 32 1159 0 33 #[152, 175, 198, 211, 224, 247, 280, 313, 346, 389, 422, 455, 488, 512, 546, 580, 624, 648, 681, 714, 737, 760, 803, 836, 859, 882, 905, 938, 961, 984, 1027, 1070, 1123, 1136] (nI 22) = 835 by decide +kernel]
      exact la_22 hI hl hL hi kk
    · rw [show pm_tsw 32 1159 0 33 #[152, 175, 198, 211, 224, 247, 280, 313, 346, 389, 422, 455, 488, 512, 546, 580, 624, 648, 681, 714, 737, 760, 803, 836, 859, 882, 905, 938, 961, 984, 1027, 1070, 1123, 1136] (nI 23) = 868 by decide +kernel]
      exact la_23 hI hl hL hi kk
    · rw [show pm_tsw 32 1159 0 33 #[152, 175, 198, 211, 224, 247, 280, 313, 346, 389, 422, 455, 488, 512, 546, 580, 624, 648, 681, 714, 737, 760, 803, 836, 859, 882, 905, 938, 961, 984, 1027, 1070, 1123, 1136] (nI 24) = 891 by decide +kernel]
      exact la_24 hI hl hL hi kk
    · rw [show pm_tsw 32 1159 0 33 #[152, 175, 198, 211, 224, 247, 280, 313, 346, 389, 422, 455, 488, 512, 546, 580, 624, 648, 681, 714, 737, 760, 803, 836, 859, 882, 905, 938, 961, 984, 1027, 1070, 1123, 1136] (nI 25) = 914 by decide +kernel]
      exact la_25 hI hl hL hi kk
    · rw [show pm_tsw 32 1159 0 33 #[152, 175, 198, 211, 224, 247, 280, 313, 346, 389, 422, 455, 488, 512, 546, 580, 624, 648, 681, 714, 737, 760, 803, 836, 859, 882, 905, 938, 961, 984, 1027, 1070, 1123, 1136] (nI 26) = 937 by decide +kernel]
      exact la_26 hI hl hL hi kk
    · rw [show pm_tsw 32 1159 0 33 #[152, 175, 198, 211, 224, 247, 280, 313, 346, 389, 422, 455, 488, 512, 546, 580, 624, 648, 681, 714, 737, 760, 803, 836, 859, 882, 905, 938, 961, 984, 1027, 1070, 1123, 1136] (nI 27) = 970 by decide +kernel]
      exact la_27 hI hl hL hi kk
    · rw [show pm_tsw 32 1159 0 33 #[152, 175, 198, 211, 224, 247, 280, 313, 346, 389, 422, 455, 488, 512, 546, 580, 624, 648, 681, 714, 737, 760, 803, 836, 859, 882, 905, 938, 961, 984, 1027, 1070, 1123, 1136] (nI 28) = 993 by decide +kernel]
      exact la_28 hI hl hL hi kk
    · rw [show pm_tsw 32 1159 0 33 #[152, 175, 198, 211, 224, 247, 280, 313, 346, 389, 422, 455, 488, 512, 546, 580, 624, 648, 681, 714, 737, 760, 803, 836, 859, 882, 905, 938, 961, 984, 1027, 1070, 1123, 1136] (nI 29) = 1016 by decide +kernel]
      exact la_29 hI hl hL hi kk
    · rw [show pm_tsw 32 1159 0 33 #[152, 175, 198, 211, 224, 247, 280, 313, 346, 389, 422, 455, 488, 512, 546, 580, 624, 648, 681, 714, 737, 760, 803, 836, 859, 882, 905, 938, 961, 984, 1027, 1070, 1123, 1136] (nI 30) = 1059 by decide +kernel]
      exact la_30 hI hl hL hi kk
    · rw [show pm_tsw 32 1159 0 33 #[152, 175, 198, 211, 224, 247, 280, 313, 346, 389, 422, 455, 488, 512, 546, 580, 624, 648, 681, 714, 737, 760, 803, 836, 859, 882, 905, 938, 961, 984, 1027, 1070, 1123, 1136] (nI 31) = 1102 by decide +kernel]
      exact la_31 hI hl hL hi kk
    · rw [show pm_tsw 32 1159 0 33 #[152, 175, 198, 211, 224, 247, 280, 313, 346, 389, 422, 455, 488, 512, 546, 580, 624, 648, 681, 714, 737, 760, 803, 836, 859, 882, 905, 938, 961, 984, 1027, 1070, 1123, 1136] (nI 32) = 1155 by decide +kernel]
      exact la_32 hI hl hL hi kk
    · rw [show pm_tsw 32 1159 0 33 #[152, 175, 198, 211, 224, 247, 280, 313, 346, 389, 422, 455, 488, 512, 546, 580, 624, 648, 681, 714, 737, 760, 803, 836, 859, 882, 905, 938, 961, 984, 1027, 1070, 1123, 1136] (nI 33) = 1168 by decide +kernel]
      exact la_33 hI hl hL hi kk
theorem la_loop {Ln : Nat} (hL : Ln ≤ 320) : ∀ (m i : Nat) (M : pm_M), Ln < i + 5 * m → i ≤ 330 → Inv M → M.1 49 0 0 = nI Ln → pm_G mLa_law 18 (la_ls i) [] M (fun v _ => v = some (pm_i 1)) := by
  have subT := la_sub hLt
  have subU := la_sub hLu
  intro m
  induction m with
  | zero =>
    intro i M hm hi hI hl
    refine la_G subT 6 (cs := []) (pc' := (if M.1 49 0 0 - 5 < nI i then 1197 else 26)) (ls' := la_ls i) (st' := []) (M' := M) rfl trivial (pm_G_ite (fun _ => ?_) (fun c => absurd ?_ c))
    · refine la_G subU 1 (cs := []) (pc' := 1198) (ls' := la_ls i) (st' := [pm_i 1]) (M' := M) rfl trivial (pm_G_ret (i := .ireturn) (v := some (pm_i 1)) (subU _ _ rfl) ⟨_, _, rfl, rfl, rfl, rfl⟩ rfl)
    · rw [hl, Int32.lt_iff_toInt_lt, show (5 : Int32) = nI 5 from rfl, pk_sub_toInt (by omega) (by omega), nI_toInt (by omega)]
      omega
  | succ m ih =>
    intro i M hm hi hI hl
    have e : (M.1 49 0 0 - 5 < nI i) ↔ Ln < i + 5 := by
      rw [hl, Int32.lt_iff_toInt_lt, show (5 : Int32) = nI 5 from rfl, pk_sub_toInt (by omega) (by omega), nI_toInt (by omega)]
      omega
    refine la_G subT 6 (cs := []) (pc' := (if M.1 49 0 0 - 5 < nI i then 1197 else 26)) (ls' := la_ls i) (st' := []) (M' := M) rfl trivial (pm_G_ite (fun _ => ?_) (fun c => ?_))
    · refine la_G subU 1 (cs := []) (pc' := 1198) (ls' := la_ls i) (st' := [pm_i 1]) (M' := M) rfl trivial (pm_G_ret (i := .ireturn) (v := some (pm_i 1)) (subU _ _ rfl) ⟨_, _, rfl, rfl, rfl, rfl⟩ rfl)
    · have c1 : ¬ Ln < i + 5 := fun x => c (e.mpr x)
      refine la_all hI hl hL (by omega) (fun M2 hI2 hl2 => ?_)
      refine la_G subU 2 (cs := []) (pc' := 18) (ls' := [some (pm_r 50 0), some (pm_r 0 0), some (pm_r 29 0), some (pm_i (nI i + 5))]) (st' := []) (M' := M2) rfl trivial ?_
      rw [show nI i + 5 = nI (i + 5) from nI_add i 5]
      exact ih (i + 5) M2 (by omega) (by omega) hI2 hl2
/-- the law behind its two constructors -/
theorem la_body {Ln : Nat} (hL : Ln ≤ 320) {M : pm_M} (hI : Inv M) (hl : M.1 49 0 0 = nI Ln) : pm_G mLa_law 16 [some (pm_r 50 0), some (pm_r 0 0), some (pm_r 29 0), none] [] M (fun v _ => v = some (pm_i 1)) :=
  la_G (la_sub hLt) 2 (cs := []) (pc' := 18) (ls' := la_ls 0) (st' := []) (M' := M) rfl trivial (la_loop hL 65 0 M (by omega) (by omega) hI hl)
