/-! the mean, and the rows of sums -/
theorem weigh_ne {k1 t k : Nat} {a2 : Int32} {M : pm_M} (h : t ≠ 12 ∧ t ≠ 13 ∧ t ≠ 14 ∧ t ≠ 15 ∧ t ≠ 16) : (gRe_weigh k1 a2 M).1 t k = M.1 t k := by
  unfold gRe_weigh
  rw [pm_set_ne _ _ (Ne.symm h.2.2.2.2), pm_set_ne _ _ (Ne.symm h.2.2.2.1), look_ne ⟨h.1, h.2.1, h.2.2.1⟩]
theorem weigh_n {k1 : Nat} {a2 : Int32} {M : pm_M} : (gRe_weigh k1 a2 M).1 12 0 0 = nI (re_L k1 M).length := by
  unfold gRe_weigh
  rw [pm_set_ne _ _ (by decide), pm_set_ne _ _ (by decide), look_n]
theorem weigh_o {k1 : Nat} {a2 : Int32} {M : pm_M} : (gRe_weigh k1 a2 M).1 12 0 1 = nI (md_fact (re_L k1 M).length) := by
  unfold gRe_weigh
  rw [pm_set_ne _ _ (by decide), pm_set_ne _ _ (by decide), look_o]
theorem weigh_f {k1 a : Nat} {a2 : Int32} {M : pm_M} (ha : a < (re_L k1 M).length) : (gRe_weigh k1 a2 M).1 15 0 a = re_F k1 a2 M a := by
  unfold gRe_weigh
  rw [pm_set_ne _ _ (by decide), pm_set_at, if_pos ha]
theorem weigh_s {k1 i j : Nat} {a2 : Int32} {M : pm_M} (hi : i < (re_L k1 M).length) (hj : j < (re_L k1 M).length) (h4 : (re_L k1 M).length ≤ 4) : (gRe_weigh k1 a2 M).1 16 0 (4 * i + j) = re_S k1 a2 M i j := by
  unfold gRe_weigh
  rw [pm_set_at]
  have a1 : (4 * i + j) / 4 = i := by omega
  have a2 : (4 * i + j) % 4 = j := by omega
  rw [a1, a2, if_pos ⟨hi, hj⟩]
def re_parts (n : Nat) : Nat := if n = 0 then 1 else 2 * n
theorem fRe_meanParts_at {M : pm_M} {n : Nat} (h : M.1 12 0 0 = nI n) (hn : n ≤ 4) : fRe_meanParts M = nI (re_parts n) := by
  unfold fRe_meanParts re_parts
  rw [h]
  have : ∀ n : Fin 5, (if nI n.val = 0 then (1 : Int32) else 2 * nI n.val) = nI (if n.val = 0 then 1 else 2 * n.val) := by decide +kernel
  exact this ⟨n, by omega⟩
def fRe_meanSum (k1 : Nat) (a2 : Int32) (M : pm_M) : Int32 := M.1 5 k1 a2.toNatClampNeg * nI (re_parts (re_L k1 M).length) + pm_sumI (fun i => re_F k1 a2 M i * nI (re_L k1 M).length * (nI (re_L k1 M).length + 1) + pm_sumI (fun j => 2 * re_S k1 a2 M i j) (re_L k1 M).length) (re_L k1 M).length
def gRe_meanSum (k1 : Nat) (a2 : Int32) (M : pm_M) : pm_M := gRe_weigh k1 a2 M
def sRe_meanSum (k1 : Nat) (a2 : Int32) (M : pm_M) : Prop := sRe_weigh k1 a2 M ∧ vp_in a2 4
set_option maxHeartbeats 1000000 in
theorem eRe_meanSum {k1 : Nat} {a2 : Int32} {M : pm_M} (hs : sRe_meanSum k1 a2 M) : pm_Ev mRe_meanSum [pm_r 12 0, pm_r 4 k1, pm_i a2] M (some (pm_i (fRe_meanSum k1 a2 M))) (gRe_meanSum k1 a2 M) := by
  refine pm_Sem_of (ls := [some (pm_r 12 0), some (pm_r 4 k1), some (pm_i a2), none, none, none]) ok_mRe_meanSum (by decide +kernel) rfl (by decide) (Nat.le_of_ble_eq_true rfl) rfl ?_
  obtain ⟨hw, hv⟩ := hs
  refine bRe_meanSum_0 (eRe_weigh hw) ?_
  obtain ⟨⟨T, h4, hT⟩, hlen⟩ := hw
  have hn4 := re_L_len (k := k1) hT h4
  refine bRe_meanSum_6 hv eRe_meanParts (bRe_meanSum_16 ?_)
  rw [fRe_meanParts_at weigh_n hn4, weigh_ne (by decide)]
  unfold fRe_meanSum gRe_meanSum
  have wf := fun a (ha : a < (re_L k1 M).length) => weigh_f (a2 := a2) ha
  have ws := fun i j (hi : i < (re_L k1 M).length) (hj : j < (re_L k1 M).length) => weigh_s (a2 := a2) hi hj hn4
  have wn := weigh_n (k1 := k1) (a2 := a2) (M := M)
  generalize hM1 : gRe_weigh k1 a2 M = M1 at wf ws wn ⊢
  generalize hn : (re_L k1 M).length = n at hn4 wf ws wn ⊢
  generalize hb : M.1 5 k1 a2.toNatClampNeg * nI (re_parts n) = b
  refine pm_upto (N := n) (P := fun i => pm_G mRe_meanSum 21 [some (pm_r 12 0), some (pm_r 4 k1), some (pm_i a2), some (pm_i (b + pm_sumI (fun i => re_F k1 a2 M i * nI n * (nI n + 1) + pm_sumI (fun j => 2 * re_S k1 a2 M i j) n) i)), some (pm_i (nI i)), none] [] M1 (pm_D (some (pm_i (b + pm_sumI (fun i => re_F k1 a2 M i * nI n * (nI n + 1) + pm_sumI (fun j => 2 * re_S k1 a2 M i j) n) n))) M1)) ?_ ?_ 0 (Nat.zero_le _) |> fun h => by
    have h := h
    rw [show b + pm_sumI (fun i => re_F k1 a2 M i * nI n * (nI n + 1) + pm_sumI (fun j => 2 * re_S k1 a2 M i j) n) 0 = b by simp [pm_sumI]] at h
    exact h
  · refine bRe_meanSum_21 (fun _ => bRe_meanSum_93 ⟨rfl, rfl⟩) (fun h => absurd ?_ h)
    rw [wn]
    exact (pm_le4 (by omega) (by omega)).mpr (Nat.le_refl _)
  · intro i hi kk
    refine bRe_meanSum_21 (fun h => ?_) (fun _ => ?_)
    · rw [wn] at h
      have := (pm_le4 (by omega) (by omega)).mp h
      omega
    · refine bRe_meanSum_30 (pm_vin (by omega) (by omega)) ?_
      rw [pm_cl4 (show i ≤ 1000 by omega), wf i hi, wn]
      generalize hc : b + pm_sumI (fun i => re_F k1 a2 M i * nI n * (nI n + 1) + pm_sumI (fun j => 2 * re_S k1 a2 M i j) n) i + re_F k1 a2 M i * nI n * (nI n + 1) = c
      have key2 := pm_upto (N := n) (P := fun j => pm_G mRe_meanSum 55 [some (pm_r 12 0), some (pm_r 4 k1), some (pm_i a2), some (pm_i (pm_acc c (fun j => 2 * re_S k1 a2 M i j) j)), some (pm_i (nI i)), some (pm_i (nI j))] [] M1 (pm_D (some (pm_i (b + pm_sumI (fun i => re_F k1 a2 M i * nI n * (nI n + 1) + pm_sumI (fun j => 2 * re_S k1 a2 M i j) n) n))) M1)) ?_ ?_ 0 (Nat.zero_le _)
      · exact key2
      · refine bRe_meanSum_55 (fun _ => bRe_meanSum_87 ?_) (fun h => absurd ?_ h)
        · rw [nI_1, pm_acc_eq]
          rw [pm_sumI, ← Int32.add_assoc, ← Int32.add_assoc, hc] at kk
          exact pm_G_le (ls' := [some (pm_r 12 0), some (pm_r 4 k1), some (pm_i a2), some (pm_i (c + pm_sumI (fun j => 2 * re_S k1 a2 M i j) n)), some (pm_i (nI (i + 1))), none]) ⟨Or.inr rfl, Or.inr rfl, Or.inr rfl, Or.inr rfl, Or.inr rfl, Or.inl rfl, trivial⟩ kk
        · rw [wn]
          exact (pm_le4 (by omega) (by omega)).mpr (Nat.le_refl _)
      · intro j hj k2
        refine bRe_meanSum_55 (fun h => ?_) (fun _ => ?_)
        · rw [wn] at h
          have := (pm_le4 (by omega) (by omega)).mp h
          omega
        · refine bRe_meanSum_64 (re_ix (by omega) (by omega)).2 ?_
          rw [(re_ix (show i < 4 by omega) (show j < 4 by omega)).1, ws i j hi hj, nI_1]
          exact k2
/-! the rows of sums -/
def re_ord (row i : Nat) : Nat := (pm_ORD (4 * row + i)).toNatClampNeg
theorem re_ord_lt {n row i : Nat} (hn : n ≤ 4) (hr : row < md_fact n) (hi : i < n) : re_ord row i < n ∧ pm_ORD (4 * row + i) = nI (re_ord row i) := by
  have : ∀ n : Fin 5, ∀ row : Fin 24, ∀ i : Fin 4, row.val < md_fact n.val → i.val < n.val → re_ord row.val i.val < n.val ∧ pm_ORD (4 * row.val + i.val) = nI (re_ord row.val i.val) := by decide +kernel
  exact this ⟨n, by omega⟩ ⟨row, by have := md_fact4 hn; omega⟩ ⟨i, by omega⟩ hr hi
theorem re_rx {row i : Nat} (hr : row < 24) (hi : i < 4) : Int32.toNatClampNeg ((4 * nI row) + nI i) = 4 * row + i ∧ vp_in ((4 * nI row) + nI i) 96 := by
  have : ∀ row : Fin 24, ∀ i : Fin 4, Int32.toNatClampNeg ((4 * nI row.val) + nI i.val) = 4 * row.val + i.val ∧ vp_in ((4 * nI row.val) + nI i.val) 96 := by
    unfold vp_in
    decide +kernel
  exact this ⟨row, hr⟩ ⟨i, hi⟩
theorem re_px {p row : Nat} (hp : p < 4) (hr : row < 24) : Int32.toNatClampNeg ((24 * nI p) + nI row) = 24 * p + row ∧ vp_in ((24 * nI p) + nI row) 96 := by
  have : ∀ p : Fin 4, ∀ row : Fin 24, Int32.toNatClampNeg ((24 * nI p.val) + nI row.val) = 24 * p.val + row.val ∧ vp_in ((24 * nI p.val) + nI row.val) 96 := by
    unfold vp_in
    decide +kernel
  exact this ⟨p, hp⟩ ⟨row, hr⟩
def re_A (k : Nat) (x : Int32) (M : pm_M) (row : Nat) : Int32 := pm_sumI (fun i => (nI i + 1) * re_F k x M (re_ord row i)) (re_L k M).length
def re_B (k : Nat) (x : Int32) (M : pm_M) (row : Nat) : Int32 := pm_sumI (fun i => re_S k x M i (re_ord row i)) (re_L k M).length
def re_sp (M0 : pm_M) (f s : Nat → Int32) : pm_M := pm_set (pm_set M0 17 0 f) 18 0 s
def gRe_spread (k1 : Nat) (a2 : Int32) (M : pm_M) : pm_M := re_sp (gRe_weigh k1 a2 M) (fun q => if 24 * a2.toNatClampNeg ≤ q ∧ q < 24 * a2.toNatClampNeg + md_fact (re_L k1 M).length then re_A k1 a2 M (q - 24 * a2.toNatClampNeg) else M.1 17 0 q) (fun q => if 24 * a2.toNatClampNeg ≤ q ∧ q < 24 * a2.toNatClampNeg + md_fact (re_L k1 M).length then re_B k1 a2 M (q - 24 * a2.toNatClampNeg) else M.1 18 0 q)
def sRe_spread (k1 : Nat) (a2 : Int32) (M : pm_M) : Prop := sRe_weigh k1 a2 M ∧ ∃ p, p < 4 ∧ a2 = nI p
set_option maxHeartbeats 1000000 in
theorem eRe_spread {k1 : Nat} {a2 : Int32} {M : pm_M} (hs : sRe_spread k1 a2 M) : pm_Ev mRe_spread [pm_r 12 0, pm_r 4 k1, pm_i a2] M none (gRe_spread k1 a2 M) := by
  refine pm_Sem_of (ls := [some (pm_r 12 0), some (pm_r 4 k1), some (pm_i a2), none, none, none, none, none]) ok_mRe_spread (by decide +kernel) rfl (by decide) (Nat.le_of_ble_eq_true rfl) rfl ?_
  obtain ⟨hw, p, hp, rfl⟩ := hs
  refine bRe_spread_0 (eRe_weigh hw) (bRe_spread_6 ?_)
  obtain ⟨⟨T, h4, hT⟩, hlen⟩ := hw
  have hn4 := re_L_len (k := k1) hT h4
  unfold gRe_spread
  rw [pm_cl4 (show p ≤ 1000 by omega)]
  have wf := fun a (ha : a < (re_L k1 M).length) => weigh_f (a2 := nI p) ha
  have ws := fun i j (hi : i < (re_L k1 M).length) (hj : j < (re_L k1 M).length) => weigh_s (a2 := nI p) hi hj hn4
  have wn := weigh_n (k1 := k1) (a2 := nI p) (M := M)
  have wo := weigh_o (k1 := k1) (a2 := nI p) (M := M)
  have d17 : ∀ a, (gRe_weigh k1 (nI p) M).1 17 0 a = M.1 17 0 a := fun a => by rw [weigh_ne (by decide)]
  have d18 : ∀ a, (gRe_weigh k1 (nI p) M).1 18 0 a = M.1 18 0 a := fun a => by rw [weigh_ne (by decide)]
  unfold re_A re_B
  generalize hM1 : gRe_weigh k1 (nI p) M = M1 at wf ws wn wo d17 d18 ⊢
  generalize hn : (re_L k1 M).length = n at hn4 wf ws wn wo ⊢
  have hf24 := md_fact4 hn4
  have rn : ∀ f s, (re_sp M1 f s).1 12 0 0 = nI n := fun f s => by unfold re_sp; rw [pm_set_ne _ _ (by decide), pm_set_ne _ _ (by decide), wn]
  have ro : ∀ f s, (re_sp M1 f s).1 12 0 1 = nI (md_fact n) := fun f s => by unfold re_sp; rw [pm_set_ne _ _ (by decide), pm_set_ne _ _ (by decide), wo]
  have r15 : ∀ f s, (re_sp M1 f s).1 15 0 = M1.1 15 0 := fun f s => by unfold re_sp; rw [pm_set_ne _ _ (by decide), pm_set_ne _ _ (by decide)]
  have r16 : ∀ f s, (re_sp M1 f s).1 16 0 = M1.1 16 0 := fun f s => by unfold re_sp; rw [pm_set_ne _ _ (by decide), pm_set_ne _ _ (by decide)]
  have pp : ∀ f s i x y, pm_set (pm_set (re_sp M1 f s) 17 0 (upd ((re_sp M1 f s).1 17 0) i x)) 18 0 (upd ((re_sp M1 f s).1 18 0) i y) = re_sp M1 (upd f i x) (upd s i y) := fun f s i x y => by
    unfold re_sp
    rw [pm_set_ne _ _ (by decide), pm_set_at, pm_set_at, pm_set_comm (t := 18) (t' := 17) (by decide), pm_set_set, pm_set_set]
  have stepf : ∀ (g d : Nat → Int32) (row : Nat), upd (fun q => if 24 * p ≤ q ∧ q < 24 * p + row then g (q - 24 * p) else d q) (24 * p + row) (g row) = (fun q => if 24 * p ≤ q ∧ q < 24 * p + (row + 1) then g (q - 24 * p) else d q) := by
    intro g d row
    funext q
    unfold upd
    dsimp only
    by_cases h2 : q = 24 * p + row
    · subst h2
      rw [if_pos rfl, if_pos (by omega)]
      congr 1
      omega
    · rw [if_neg h2]
      by_cases h1 : 24 * p ≤ q ∧ q < 24 * p + row
      · rw [if_pos h1, if_pos (by omega)]
      · rw [if_neg h1, if_neg (by omega)]
  have key := pm_upto (N := md_fact n) (P := fun row => pm_G mRe_spread 8 [some (pm_r 12 0), some (pm_r 4 k1), some (pm_i (nI p)), some (pm_i (nI row)), none, none, none, none] [] (re_sp M1 (fun q => if 24 * p ≤ q ∧ q < 24 * p + row then pm_sumI (fun i => (nI i + 1) * re_F k1 (nI p) M (re_ord (q - 24 * p) i)) n else M.1 17 0 q) (fun q => if 24 * p ≤ q ∧ q < 24 * p + row then pm_sumI (fun i => re_S k1 (nI p) M i (re_ord (q - 24 * p) i)) n else M.1 18 0 q)) (pm_D none (re_sp M1 (fun q => if 24 * p ≤ q ∧ q < 24 * p + md_fact n then pm_sumI (fun i => (nI i + 1) * re_F k1 (nI p) M (re_ord (q - 24 * p) i)) n else M.1 17 0 q) (fun q => if 24 * p ≤ q ∧ q < 24 * p + md_fact n then pm_sumI (fun i => re_S k1 (nI p) M i (re_ord (q - 24 * p) i)) n else M.1 18 0 q)))) ?_ ?_ 0 (Nat.zero_le _)
  · have e1 : re_sp M1 (fun q => if 24 * p ≤ q ∧ q < 24 * p + 0 then pm_sumI (fun i => (nI i + 1) * re_F k1 (nI p) M (re_ord (q - 24 * p) i)) n else M.1 17 0 q) (fun q => if 24 * p ≤ q ∧ q < 24 * p + 0 then pm_sumI (fun i => re_S k1 (nI p) M i (re_ord (q - 24 * p) i)) n else M.1 18 0 q) = M1 := by
      unfold re_sp
      rw [pm_set_id (M := M1) (t := 17) (k := 0) (fun j => by rw [if_neg (by omega), d17]), pm_set_id (M := M1) (t := 18) (k := 0) (fun j => by rw [if_neg (by omega), d18])]
    rw [e1] at key
    exact key
  · refine bRe_spread_8 (fun _ => bRe_spread_118 ⟨rfl, rfl⟩) (fun h => absurd ?_ h)
    rw [ro]
    exact (pm_le4 (by omega) (by omega)).mpr (Nat.le_refl _)
  · intro row hr kk
    refine bRe_spread_8 (fun h => ?_) (fun _ => ?_)
    · rw [ro] at h
      have := (pm_le4 (by omega) (by omega)).mp h
      omega
    · refine bRe_spread_16 ?_
      rw [← stepf (fun row => pm_sumI (fun i => (nI i + 1) * re_F k1 (nI p) M (re_ord row i)) n), ← stepf (fun row => pm_sumI (fun i => re_S k1 (nI p) M i (re_ord row i)) n), ← pp] at kk
      generalize (fun q => if 24 * p ≤ q ∧ q < 24 * p + row then pm_sumI (fun i => (nI i + 1) * re_F k1 (nI p) M (re_ord (q - 24 * p) i)) n else M.1 17 0 q) = f at kk ⊢
      generalize (fun q => if 24 * p ≤ q ∧ q < 24 * p + row then pm_sumI (fun i => re_S k1 (nI p) M i (re_ord (q - 24 * p) i)) n else M.1 18 0 q) = s at kk ⊢
      generalize hQ : (pm_D none (re_sp M1 (fun q => if 24 * p ≤ q ∧ q < 24 * p + md_fact n then pm_sumI (fun i => (nI i + 1) * re_F k1 (nI p) M (re_ord (q - 24 * p) i)) n else M.1 17 0 q) (fun q => if 24 * p ≤ q ∧ q < 24 * p + md_fact n then pm_sumI (fun i => re_S k1 (nI p) M i (re_ord (q - 24 * p) i)) n else M.1 18 0 q))) = Q at kk ⊢
      have key2 := pm_upto (N := n) (P := fun i => pm_G mRe_spread 25 [some (pm_r 12 0), some (pm_r 4 k1), some (pm_i (nI p)), some (pm_i (nI row)), some (pm_i (pm_sumI (fun i => (nI i + 1) * re_F k1 (nI p) M (re_ord row i)) i)), some (pm_i (pm_sumI (fun i => re_S k1 (nI p) M i (re_ord row i)) i)), some (pm_i (nI i)), none] [] (re_sp M1 f s) Q) ?_ ?_ 0 (Nat.zero_le _)
      · exact key2
      · refine bRe_spread_25 (fun _ => ?_) (fun h => absurd ?_ h)
        · refine bRe_spread_86 (re_px hp (by omega)).2 (re_px hp (by omega)).2 ?_
          rw [(re_px hp (show row < 24 by omega)).1, nI_1]
          exact pm_G_le (ls' := [some (pm_r 12 0), some (pm_r 4 k1), some (pm_i (nI p)), some (pm_i (nI (row + 1))), none, none, none, none]) ⟨Or.inr rfl, Or.inr rfl, Or.inr rfl, Or.inr rfl, Or.inl rfl, Or.inl rfl, Or.inl rfl, Or.inl rfl, trivial⟩ kk
        · rw [rn]
          exact (pm_le4 (by omega) (by omega)).mpr (Nat.le_refl _)
      · intro i hi k2
        obtain ⟨o1, o2⟩ := re_ord_lt hn4 hr hi
        refine bRe_spread_25 (fun h => ?_) (fun _ => ?_)
        · rw [rn] at h
          have := (pm_le4 (by omega) (by omega)).mp h
          omega
        · refine bRe_spread_34 (re_rx (by omega) (by omega)).2 ?_ ?_ ?_
          · rw [(re_rx (show row < 24 by omega) (show i < 4 by omega)).1, o2]
            exact pm_vin (by omega) (by omega)
          · rw [(re_rx (show row < 24 by omega) (show i < 4 by omega)).1, o2]
            exact (re_ix (by omega) (by omega)).2
          · rw [(re_rx (show row < 24 by omega) (show i < 4 by omega)).1, o2, pm_cl4 (show re_ord row i ≤ 1000 by omega), (re_ix (show i < 4 by omega) (show re_ord row i < 4 by omega)).1, r15, r16, wf _ o1, ws _ _ hi o1, nI_1]
            refine pm_G_le (ls' := [some (pm_r 12 0), some (pm_r 4 k1), some (pm_i (nI p)), some (pm_i (nI row)), some (pm_i (pm_sumI (fun i => (nI i + 1) * re_F k1 (nI p) M (re_ord row i)) i + nI (i + 1) * re_F k1 (nI p) M (re_ord row i))), some (pm_i (pm_sumI (fun i => re_S k1 (nI p) M i (re_ord row i)) i + re_S k1 (nI p) M i (re_ord row i))), some (pm_i (nI (i + 1))), none]) ⟨Or.inr rfl, Or.inr rfl, Or.inr rfl, Or.inr rfl, Or.inr rfl, Or.inr rfl, Or.inr rfl, Or.inl rfl, trivial⟩ ?_
            rw [pm_sumI, pm_sumI, nI_1] at k2
            exact k2
