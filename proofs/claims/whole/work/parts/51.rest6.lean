/-! reads after a spread -/
theorem spread_ne {k1 t k : Nat} {a2 : Int32} {M : pm_M} (h : t ≠ 12 ∧ t ≠ 13 ∧ t ≠ 14 ∧ t ≠ 15 ∧ t ≠ 16 ∧ t ≠ 17 ∧ t ≠ 18) : (gRe_spread k1 a2 M).1 t k = M.1 t k := by
  unfold gRe_spread re_sp
  rw [pm_set_ne _ _ (Ne.symm h.2.2.2.2.2.2), pm_set_ne _ _ (Ne.symm h.2.2.2.2.2.1), weigh_ne ⟨h.1, h.2.1, h.2.2.1, h.2.2.2.1, h.2.2.2.2.1⟩]
theorem spread_lo {k1 t : Nat} {a2 : Int32} {M : pm_M} (h : t ≠ 17 ∧ t ≠ 18) : (gRe_spread k1 a2 M).1 t = (gRe_weigh k1 a2 M).1 t := by
  unfold gRe_spread re_sp
  funext k
  rw [pm_set_ne _ _ (Ne.symm h.2), pm_set_ne _ _ (Ne.symm h.1)]
theorem weigh_lo {k1 t : Nat} {a2 : Int32} {M : pm_M} (h : t ≠ 15 ∧ t ≠ 16) : (gRe_weigh k1 a2 M).1 t = (gRe_look k1 M).1 t := by
  unfold gRe_weigh
  funext k
  rw [pm_set_ne _ _ (Ne.symm h.2), pm_set_ne _ _ (Ne.symm h.1)]
theorem spread_look {k1 t : Nat} {a2 : Int32} {M : pm_M} (h : t ≠ 15 ∧ t ≠ 16 ∧ t ≠ 17 ∧ t ≠ 18) : (gRe_spread k1 a2 M).1 t = (gRe_look k1 M).1 t := (spread_lo h.2.2).trans (weigh_lo ⟨h.1, h.2.1⟩)
theorem spread_A {k1 p row : Nat} {M : pm_M} (hp : p < 4) (hr : row < md_fact (re_L k1 M).length) : (gRe_spread k1 (nI p) M).1 17 0 (24 * p + row) = re_A k1 (nI p) M row := by
  unfold gRe_spread re_sp
  rw [pm_set_ne _ _ (by decide), pm_set_at, pm_cl4 (by omega), if_pos (by omega), Nat.add_sub_cancel_left]
theorem spread_B {k1 p row : Nat} {M : pm_M} (hp : p < 4) (hr : row < md_fact (re_L k1 M).length) : (gRe_spread k1 (nI p) M).1 18 0 (24 * p + row) = re_B k1 (nI p) M row := by
  unfold gRe_spread re_sp
  rw [pm_set_at, pm_cl4 (by omega), if_pos (by omega), Nat.add_sub_cancel_left]
theorem spread_Ax {k1 p p' row : Nat} {M : pm_M} (hp : p < 4) (hne : p' ≠ p) (hr : row < 24) (hf : md_fact (re_L k1 M).length ≤ 24) : (gRe_spread k1 (nI p) M).1 17 0 (24 * p' + row) = M.1 17 0 (24 * p' + row) := by
  unfold gRe_spread re_sp
  rw [pm_set_ne _ _ (by decide), pm_set_at, pm_cl4 (by omega), if_neg (by omega)]
theorem spread_Bx {k1 p p' row : Nat} {M : pm_M} (hp : p < 4) (hne : p' ≠ p) (hr : row < 24) (hf : md_fact (re_L k1 M).length ≤ 24) : (gRe_spread k1 (nI p) M).1 18 0 (24 * p' + row) = M.1 18 0 (24 * p' + row) := by
  unfold gRe_spread re_sp
  rw [pm_set_at, pm_cl4 (by omega), if_neg (by omega)]
/-- the wheel is the same -/
def re_same (k : Nat) (M M' : pm_M) : Prop := M'.1 4 k = M.1 4 k ∧ M'.1 6 k = M.1 6 k ∧ M'.1 7 k = M.1 7 k ∧ M'.1 8 k = M.1 8 k ∧ M'.1 9 k = M.1 9 k
theorem re_L_of {k : Nat} {M M' : pm_M} (h : re_same k M M') : re_L k M' = re_L k M := by unfold re_L; rw [h.1, h.2.2.1]
theorem re_P_of {k : Nat} {M M' : pm_M} (h : re_same k M M') : re_P k M' = re_P k M := by unfold re_P; rw [h.1, h.2.2.2.2]
theorem re_F_of {k : Nat} {M M' : pm_M} (h : re_same k M M') (x : Int32) (i : Nat) : re_F k x M' i = re_F k x M i := by unfold re_F; rw [re_L_of h, fWh_feeFor_of h.2.1]
theorem re_S_of {k : Nat} {M M' : pm_M} (h : re_same k M M') (x : Int32) (i j : Nat) : re_S k x M' i j = re_S k x M i j := by unfold re_S; rw [re_L_of h, re_P_of h, h.2.2.2.1, fWh_shareFor_of h.2.1]
theorem re_A_of {k : Nat} {M M' : pm_M} (h : re_same k M M') (x : Int32) (row : Nat) : re_A k x M' row = re_A k x M row := by
  unfold re_A
  rw [re_L_of h]
  simp only [re_F_of h]
theorem re_B_of {k : Nat} {M M' : pm_M} (h : re_same k M M') (x : Int32) (row : Nat) : re_B k x M' row = re_B k x M row := by
  unfold re_B
  rw [re_L_of h]
  simp only [re_S_of h]
theorem spread_same {k1 : Nat} {a2 : Int32} {M : pm_M} (k : Nat) : re_same k M (gRe_spread k1 a2 M) := ⟨spread_ne (by decide), spread_ne (by decide), spread_ne (by decide), spread_ne (by decide), spread_ne (by decide)⟩
theorem look_same {k1 : Nat} {M : pm_M} (k : Nat) : re_same k M (gRe_look k1 M) := ⟨look_ne (by decide), look_ne (by decide), look_ne (by decide), look_ne (by decide), look_ne (by decide)⟩
theorem re_same_trans {k : Nat} {M M' M'' : pm_M} (h : re_same k M M') (h' : re_same k M' M'') : re_same k M M'' := ⟨h'.1.trans h.1, h'.2.1.trans h.2.1, h'.2.2.1.trans h.2.2.1, h'.2.2.2.1.trans h.2.2.2.1, h'.2.2.2.2.trans h.2.2.2.2⟩
theorem sRe_weigh_of {k : Nat} {a2 : Int32} {M M' : pm_M} (h : re_same k M M') (hs : sRe_weigh k a2 M) : sRe_weigh k a2 M' := by
  unfold sRe_weigh at hs ⊢
  rw [re_L_of h, re_P_of h, h.1]
  exact hs
/-- all rows, person by person -/
def re_spa (k : Nat) (M : pm_M) : Nat → pm_M
  | 0 => gRe_look k M
  | p + 1 => gRe_spread k (nI p) (re_spa k M p)
theorem spa_same {k1 : Nat} {M : pm_M} (k : Nat) : ∀ p, re_same k M (re_spa k1 M p)
  | 0 => look_same k
  | p + 1 => re_same_trans (spa_same k p) (spread_same k)
theorem spa_ne {k1 t k : Nat} {M : pm_M} (h : t ≠ 12 ∧ t ≠ 13 ∧ t ≠ 14 ∧ t ≠ 15 ∧ t ≠ 16 ∧ t ≠ 17 ∧ t ≠ 18) : ∀ p, (re_spa k1 M p).1 t k = M.1 t k
  | 0 => look_ne ⟨h.1, h.2.1, h.2.2.1⟩
  | p + 1 => (spread_ne h).trans (spa_ne h p)
theorem look_12 {k1 : Nat} {M : pm_M} : (gRe_look k1 M).1 12 0 0 = nI (re_L k1 M).length ∧ (gRe_look k1 M).1 12 0 1 = nI (md_fact (re_L k1 M).length) := ⟨look_n, look_o⟩
theorem spa_n {k1 : Nat} {M : pm_M} : ∀ p, (re_spa k1 M p).1 12 0 0 = nI (re_L k1 M).length ∧ (re_spa k1 M p).1 12 0 1 = nI (md_fact (re_L k1 M).length)
  | 0 => look_12
  | p + 1 => by
    rw [re_spa, spread_look (by decide), look_n, look_o, re_L_of (spa_same k1 p)]
    exact ⟨rfl, rfl⟩
theorem spa_t {k1 i : Nat} {M : pm_M} (hi : i < (re_L k1 M).length) : ∀ p, (re_spa k1 M p).1 13 0 i = nI ((re_L k1 M).getD i 0)
  | 0 => look_t hi
  | p + 1 => by
    rw [re_spa, spread_look (by decide), look_t (by rw [re_L_of (spa_same k1 p)]; exact hi), re_L_of (spa_same k1 p)]
theorem spa_z {k1 i : Nat} {M : pm_M} (hi : i < (re_P k1 M).length) : ∀ p, (re_spa k1 M p).1 14 0 i = nI ((re_P k1 M).getD i 0)
  | 0 => look_p hi
  | p + 1 => by
    rw [re_spa, spread_look (by decide), look_p (by rw [re_P_of (spa_same k1 p)]; exact hi), re_P_of (spa_same k1 p)]
theorem spa_AB {k1 row : Nat} {M : pm_M} (hf : md_fact (re_L k1 M).length ≤ 24) (hr : row < md_fact (re_L k1 M).length) : ∀ {P p : Nat}, P ≤ 4 → p < P → (re_spa k1 M P).1 17 0 (24 * p + row) = re_A k1 (nI p) M row ∧ (re_spa k1 M P).1 18 0 (24 * p + row) = re_B k1 (nI p) M row
  | P + 1, p, h4, hp => by
    have hs := spa_same (k1 := k1) (M := M) k1 P
    have hL := re_L_of hs
    by_cases h : p = P
    · subst h
      rw [re_spa, spread_A (by omega) (by rw [hL]; exact hr), spread_B (by omega) (by rw [hL]; exact hr), re_A_of hs, re_B_of hs]
      exact ⟨rfl, rfl⟩
    · rw [re_spa, spread_Ax (by omega) h (by omega) (by rw [hL]; exact hf), spread_Bx (by omega) h (by omega) (by rw [hL]; exact hf)]
      exact spa_AB hf hr (P := P) (p := p) (by omega) (by omega)
def gRe_spreadAll (k1 : Nat) (M : pm_M) : pm_M := re_spa k1 M (M.1 4 k1 0).toNatClampNeg
def sRe_spreadAll (k1 : Nat) (M : pm_M) : Prop := sRe_weigh k1 0 M ∧ pm_small (M.1 4 k1 0)
theorem eRe_spreadAll {k1 : Nat} {M : pm_M} (hs : sRe_spreadAll k1 M) : pm_Ev mRe_spreadAll [pm_r 12 0, pm_r 4 k1] M none (gRe_spreadAll k1 M) := by
  refine pm_Sem_of (ls := [some (pm_r 12 0), some (pm_r 4 k1), none]) ok_mRe_spreadAll (by decide +kernel) rfl (by decide) (Nat.le_of_ble_eq_true rfl) rfl ?_
  obtain ⟨hw, P, hP, hM⟩ := hs
  unfold gRe_spreadAll
  rw [hM, pm_cl4 (by omega)]
  refine bRe_spreadAll_0 (eRe_look hw.1) (bRe_spreadAll_5 ?_)
  have hk : ∀ p, (re_spa k1 M p).1 4 k1 0 = nI P := fun p => by rw [(spa_same k1 p).1, hM]
  refine pm_upto (N := P) (P := fun p => pm_G mRe_spreadAll 7 [some (pm_r 12 0), some (pm_r 4 k1), some (pm_i (nI p))] [] (re_spa k1 M p) (pm_D none (re_spa k1 M P))) ?_ ?_ 0 (Nat.zero_le _)
  · exact bRe_spreadAll_7 (fun _ => bRe_spreadAll_27 ⟨rfl, rfl⟩) (fun h => absurd (pm_yle (hk _) (by omega)) h)
  · intro p hp k2
    refine bRe_spreadAll_7 (fun h => absurd h (pm_nle (hk _) hp (by omega))) (fun _ => bRe_spreadAll_15 (eRe_spread ⟨sRe_weigh_of (spa_same k1 p) hw, p, by omega, rfl⟩) (bRe_spreadAll_21 ?_))
    rw [nI_1]
    exact k2
/-! the most beside a prize -/
def re_bs (p : Nat) (z : Int32) (M : pm_M) (j : Nat) : Nat → Int32
  | 0 => -1000000
  | r + 1 => if M.1 14 0 (re_ord r j) = z then fMa_max (re_bs p z M j r) (M.1 18 0 (24 * p + r) - M.1 16 0 (4 * j + re_ord r j)) else re_bs p z M j r
def gRe_findBeside (a1 a2 : Int32) (M : pm_M) : pm_M := pm_set M 19 0 (fun j => if j < 4 then (if j < re_n M then re_bs a1.toNatClampNeg a2 M j (re_N M) else -1000000) else M.1 19 0 j)
def sRe_findBeside (a1 _a2 : Int32) (M : pm_M) : Prop := (∃ p, p < 4 ∧ a1 = nI p) ∧ re_lok M
set_option maxHeartbeats 1000000 in
theorem eRe_findBeside {a1 a2 : Int32} {M : pm_M} (hs : sRe_findBeside a1 a2 M) : pm_Ev mRe_findBeside [pm_r 12 0, pm_i a1, pm_i a2] M none (gRe_findBeside a1 a2 M) := by
  refine pm_Sem_of (ls := [some (pm_r 12 0), some (pm_i a1), some (pm_i a2), none, none, none, none]) ok_mRe_findBeside (by decide +kernel) rfl (by decide) (Nat.le_of_ble_eq_true rfl) rfl ?_
  obtain ⟨⟨p, hp, rfl⟩, n, hn, h0, h1, ht, hz⟩ := hs
  have hf := md_fact24 hn
  have hNn : re_N M = md_fact n := by unfold re_N; rw [h1, pm_cl4 (by omega)]
  have hnn : re_n M = n := by unfold re_n; rw [h0, pm_cl4 (by omega)]
  unfold gRe_findBeside
  rw [hNn, hnn, pm_cl4 (show p ≤ 1000 by omega)]
  generalize hN : md_fact n = N at hf h1 ⊢
  refine bRe_findBeside_0 (M1 := pm_set M 19 0 (fun j => if j < 4 then -1000000 else M.1 19 0 j)) eAr_fill19 (bRe_findBeside_9 ?_)
  have hk : ∀ g, (pm_set M 19 0 g).1 12 0 1 = nI N := fun g => by rw [pm_set_ne _ _ (by decide), h1]
  have hk0 : ∀ g, (pm_set M 19 0 g).1 12 0 0 = nI n := fun g => by rw [pm_set_ne _ _ (by decide), h0]
  have key := pm_upto (N := N) (P := fun r => pm_G mRe_findBeside 11 [some (pm_r 12 0), some (pm_i (nI p)), some (pm_i a2), some (pm_i (nI r)), none, none, none] [] (pm_set M 19 0 (fun j => if j < 4 then (if j < n then re_bs p a2 M j r else -1000000) else M.1 19 0 j)) (pm_D none (pm_set M 19 0 (fun j => if j < 4 then (if j < n then re_bs p a2 M j N else -1000000) else M.1 19 0 j)))) ?_ ?_ 0 (Nat.zero_le _)
  · have e : (fun j => if j < 4 then (if j < n then re_bs p a2 M j 0 else -1000000) else M.1 19 0 j) = (fun j => if j < 4 then -1000000 else M.1 19 0 j) := by
      funext j
      rw [re_bs]
      by_cases h : j < n <;> simp [h]
    rw [e] at key
    exact key
  · exact bRe_findBeside_11 (fun _ => bRe_findBeside_111 ⟨rfl, rfl⟩) (fun h => absurd (pm_yle (hk _) (by omega)) h)
  · intro r hr kk
    refine bRe_findBeside_11 (fun h => absurd h (pm_nle (hk _) hr (by omega))) (fun _ => bRe_findBeside_19 ?_)
    have key2 := pm_upto (N := n) (P := fun i => pm_G mRe_findBeside 22 [some (pm_r 12 0), some (pm_i (nI p)), some (pm_i a2), some (pm_i (nI r)), some (pm_i (nI i)), none, none] [] (pm_set M 19 0 (fun j => if j < 4 then (if j < i then re_bs p a2 M j (r + 1) else if j < n then re_bs p a2 M j r else -1000000) else M.1 19 0 j)) (pm_D none (pm_set M 19 0 (fun j => if j < 4 then (if j < n then re_bs p a2 M j N else -1000000) else M.1 19 0 j)))) ?_ ?_ 0 (Nat.zero_le _)
    · have e : (fun j => if j < 4 then (if j < 0 then re_bs p a2 M j (r + 1) else if j < n then re_bs p a2 M j r else -1000000) else M.1 19 0 j) = (fun j => if j < 4 then (if j < n then re_bs p a2 M j r else -1000000) else M.1 19 0 j) := by
        funext j
        simp
      rw [e] at key2
      exact key2
    · refine bRe_findBeside_22 (fun _ => bRe_findBeside_105 ?_) (fun h => absurd (pm_yle (hk0 _) (by omega)) h)
      have e : (fun j => if j < 4 then (if j < n then re_bs p a2 M j (r + 1) else if j < n then re_bs p a2 M j r else -1000000) else M.1 19 0 j) = (fun j => if j < 4 then (if j < n then re_bs p a2 M j (r + 1) else -1000000) else M.1 19 0 j) := by
        funext j
        by_cases h : j < n <;> simp [h]
      rw [e, nI_1]
      exact pm_G_le (ls' := [some (pm_r 12 0), some (pm_i (nI p)), some (pm_i a2), some (pm_i (nI (r + 1))), none, none, none]) ⟨Or.inr rfl, Or.inr rfl, Or.inr rfl, Or.inr rfl, Or.inl rfl, Or.inl rfl, Or.inl rfl, trivial⟩ kk
    · intro i hi k2
      have ho := re_ord_lt hn (show r < md_fact n by omega) hi
      have ci : (nI i).toNatClampNeg = i := pm_cl4 (by omega)
      have cq := re_ix4 (show r < 24 by omega) (show i < 4 by omega)
      have co : (nI (re_ord r i)).toNatClampNeg = re_ord r i := pm_cl4 (by omega)
      refine bRe_findBeside_22 (fun h => absurd h (pm_nle (hk0 _) hi (by omega))) (fun _ => ?_)
      generalize hg : (fun j => if j < 4 then (if j < i then re_bs p a2 M j (r + 1) else if j < n then re_bs p a2 M j r else -1000000) else M.1 19 0 j) = g
      have gi : g i = re_bs p a2 M i r := by
        rw [← hg]
        dsimp only
        rw [if_pos (by omega), if_neg (by omega), if_pos hi]
      have next : ∀ x, x = re_bs p a2 M i (r + 1) → upd g i x = (fun j => if j < 4 then (if j < i + 1 then re_bs p a2 M j (r + 1) else if j < n then re_bs p a2 M j r else -1000000) else M.1 19 0 j) := by
        intro x hx
        funext j
        unfold upd
        by_cases h : j = i
        · subst h
          rw [if_pos rfl, if_pos (by omega), if_pos (by omega), hx]
        · rw [if_neg h, ← hg]
          dsimp only
          by_cases h4 : j < 4
          · rw [if_pos h4, if_pos h4]
            by_cases h5 : j < i
            · rw [if_pos h5, if_pos (by omega)]
            · rw [if_neg h5, if_neg (show ¬ j < i + 1 by omega)]
          · rw [if_neg h4, if_neg h4]
      refine bRe_findBeside_31 cq.2 (by rw [cq.1, ho.2]; exact pm_vin (by omega) (by omega)) (fun h => ?_) (fun h => ?_)
      · rw [cq.1, ho.2, co, pm_set_ne _ _ (by decide)] at h
        rw [cq.1, ho.2]
        refine bRe_findBeside_54 (re_ix24 hp (by omega)).2 (re_ix (by omega) (by omega)).2 (pm_vin (by omega) (by omega)) (bRe_findBeside_98 (pm_vin (by omega) (by omega)) ?_)
        refine pm_G_le (ls' := [some (pm_r 12 0), some (pm_i (nI p)), some (pm_i a2), some (pm_i (nI r)), some (pm_i (nI i)), some (pm_i (nI (re_ord r i))), none]) ⟨Or.inr rfl, Or.inr rfl, Or.inr rfl, Or.inr rfl, Or.inr rfl, Or.inr rfl, Or.inl rfl, trivial⟩ (bRe_findBeside_99 ?_)
        rw [(re_ix24 hp (show r < 24 by omega)).1, (re_ix (show i < 4 by omega) (show re_ord r i < 4 by omega)).1, ci, pm_set_ne _ _ (show (19 : Nat) ≠ 18 by decide), pm_set_ne _ _ (show (19 : Nat) ≠ 16 by decide), pm_set_set, pm_set_at, nI_1, gi, next _ (by rw [re_bs, if_pos h])]
        exact pm_G_le (ls' := [some (pm_r 12 0), some (pm_i (nI p)), some (pm_i a2), some (pm_i (nI r)), some (pm_i (nI (i + 1))), none, none]) ⟨Or.inr rfl, Or.inr rfl, Or.inr rfl, Or.inr rfl, Or.inr rfl, Or.inl rfl, Or.inl rfl, trivial⟩ k2
      · rw [cq.1, ho.2, co, pm_set_ne _ _ (by decide)] at h
        refine bRe_findBeside_99 ?_
        have hgg : g = upd g i (g i) := by
          funext j
          unfold upd
          by_cases h : j = i
          · subst h; rw [if_pos rfl]
          · rw [if_neg h]
        rw [hgg, gi, next _ (by rw [re_bs, if_neg h]), nI_1]
        exact pm_G_le (ls' := [some (pm_r 12 0), some (pm_i (nI p)), some (pm_i a2), some (pm_i (nI r)), some (pm_i (nI (i + 1))), none, none]) ⟨Or.inr rfl, Or.inr rfl, Or.inr rfl, Or.inr rfl, Or.inr rfl, Or.inl rfl, Or.inl rfl, trivial⟩ k2
def re_mw (k : Nat) (x much : Int32) (M : pm_M) : Nat → Int32
  | 0 => -1000000
  | i + 1 => fMa_max (re_mw k x much M i) (M.1 19 0 i + fWh_shareFor k (M.1 13 0 i) much x M)
def fRe_mostByPrizesWith (k1 : Nat) (a2 a3 : Int32) (M : pm_M) : Int32 := re_mw k1 a2 a3 M (re_n M)
def sRe_mostByPrizesWith (_k1 : Nat) (_a2 _a3 : Int32) (M : pm_M) : Prop := re_lok M
theorem eRe_mostByPrizesWith {k1 : Nat} {a2 a3 : Int32} {M : pm_M} (hs : sRe_mostByPrizesWith k1 a2 a3 M) : pm_Ev mRe_mostByPrizesWith [pm_r 12 0, pm_r 4 k1, pm_i a2, pm_i a3] M (some (pm_i (fRe_mostByPrizesWith k1 a2 a3 M))) M := by
  refine pm_Sem_of (ls := [some (pm_r 12 0), some (pm_r 4 k1), some (pm_i a2), some (pm_i a3), none, none]) ok_mRe_mostByPrizesWith (by decide +kernel) rfl (by decide) (Nat.le_of_ble_eq_true rfl) rfl ?_
  obtain ⟨n, hn, h0, h1, ht, hz⟩ := hs
  have hnn : re_n M = n := by unfold re_n; rw [h0, pm_cl4 (by omega)]
  unfold fRe_mostByPrizesWith
  rw [hnn]
  refine bRe_mostByPrizesWith_0 ?_
  refine pm_upto (N := n) (P := fun i => pm_G mRe_mostByPrizesWith 7 [some (pm_r 12 0), some (pm_r 4 k1), some (pm_i a2), some (pm_i a3), some (pm_i (re_mw k1 a2 a3 M i)), some (pm_i (nI i))] [] M (pm_D (some (pm_i (re_mw k1 a2 a3 M n))) M)) ?_ ?_ 0 (Nat.zero_le _)
  · exact bRe_mostByPrizesWith_7 (fun _ => bRe_mostByPrizesWith_50 ⟨rfl, rfl⟩) (fun h => absurd (pm_yle h0 (by omega)) h)
  · intro i hi k2
    obtain ⟨t, ht4, hti⟩ := ht i hi
    have ci : (nI i).toNatClampNeg = i := pm_cl4 (by omega)
    refine bRe_mostByPrizesWith_7 (fun h => absurd h (pm_nle h0 hi (by omega))) (fun _ => ?_)
    refine bRe_mostByPrizesWith_16 (pm_vin (by omega) (by omega)) (pm_vin (by omega) (by omega)) (eWh_shareFor (by rw [ci, hti]; exact sWh_shareFor_ok ht4)) (bRe_mostByPrizesWith_38 (bRe_mostByPrizesWith_42 ?_))
    rw [ci, nI_1]
    exact k2
