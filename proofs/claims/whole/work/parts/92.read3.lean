/-! read: the reference -/
theorem wMo_read_26 {a1 a2 a3 a4 : Int32} {M : pm_M} {Q : Option pm_V → pm_M → Prop} (kk : pm_G mMo_read 53 [some (pm_r 29 0), some (pm_i a1), some (pm_i a2), some (pm_i a3), some (pm_i a4), some (pm_i (nI 45)), none, none, none, none, none] [] (pm_set M 43 0 (fun j => if j < 45 then M.1 30 0 j else M.1 43 0 j)) Q) : pm_G mMo_read 26 [some (pm_r 29 0), some (pm_i a1), some (pm_i a2), some (pm_i a3), some (pm_i a4), some (pm_i 0), none, none, none, none, none] [] M Q := by
  have key := pm_upto (N := 45) (P := fun i => pm_G mMo_read 26 [some (pm_r 29 0), some (pm_i a1), some (pm_i a2), some (pm_i a3), some (pm_i a4), some (pm_i (nI i)), none, none, none, none, none] [] (pm_set M 43 0 (fun j => if j < i then M.1 30 0 j else M.1 43 0 j)) Q) ?_ ?_ 0 (Nat.zero_le _)
  · rw [pm_set_id (M := M) (t := 43) (k := 0) (fun j => by simp)] at key
    exact key
  · exact bMo_read_26 (fun _ => kk) (fun h => absurd (show nI 45 ≤ nI 45 from (pm_le4 (by omega) (by omega)).mpr (Nat.le_refl _)) h)
  · intro i hi k2
    refine bMo_read_26 (fun h => ?_) (fun _ => ?_)
    · have := (pm_le4 (a := 45) (b := i) (by omega) (by omega)).mp h
      omega
    · refine bMo_read_33 (pm_vin (by omega) (by omega)) (pm_vin (by omega) (by omega)) ?_
      rw [pm_cl4 (show i ≤ 1000 by omega), pm_set_set, pm_set_at, pm_set_ne _ _ (by decide), nI_1]
      have e : upd (fun j => if j < i then M.1 30 0 j else M.1 43 0 j) i (M.1 30 0 i) = (fun j => if j < i + 1 then M.1 30 0 j else M.1 43 0 j) := pm_upd_step _ _ i
      rw [e]
      exact k2
theorem wMo_read_208 {a1 a2 a3 a4 a5 a6 a7 a8 : Int32} {M : pm_M} {Q : Option pm_V → pm_M → Prop} (kk : pm_G mMo_read 235 [some (pm_r 29 0), some (pm_i a1), some (pm_i a2), some (pm_i a3), some (pm_i a4), some (pm_i a5), some (pm_i a6), some (pm_i a7), some (pm_i a8), some (pm_i (nI 45)), none] [] (pm_set M 30 0 (fun j => if j < 45 then M.1 43 0 j else M.1 30 0 j)) Q) : pm_G mMo_read 208 [some (pm_r 29 0), some (pm_i a1), some (pm_i a2), some (pm_i a3), some (pm_i a4), some (pm_i a5), some (pm_i a6), some (pm_i a7), some (pm_i a8), some (pm_i 0), none] [] M Q := by
  have key := pm_upto (N := 45) (P := fun i => pm_G mMo_read 208 [some (pm_r 29 0), some (pm_i a1), some (pm_i a2), some (pm_i a3), some (pm_i a4), some (pm_i a5), some (pm_i a6), some (pm_i a7), some (pm_i a8), some (pm_i (nI i)), none] [] (pm_set M 30 0 (fun j => if j < i then M.1 43 0 j else M.1 30 0 j)) Q) ?_ ?_ 0 (Nat.zero_le _)
  · rw [pm_set_id (M := M) (t := 30) (k := 0) (fun j => by simp)] at key
    exact key
  · exact bMo_read_208 (fun _ => kk) (fun h => absurd (show nI 45 ≤ nI 45 from (pm_le4 (by omega) (by omega)).mpr (Nat.le_refl _)) h)
  · intro i hi k2
    refine bMo_read_208 (fun h => ?_) (fun _ => ?_)
    · have := (pm_le4 (a := 45) (b := i) (by omega) (by omega)).mp h
      omega
    · refine bMo_read_215 (pm_vin (by omega) (by omega)) (pm_vin (by omega) (by omega)) ?_
      rw [pm_cl4 (show i ≤ 1000 by omega), pm_set_set, pm_set_at, pm_set_ne _ _ (by decide), nI_1]
      have e : upd (fun j => if j < i then M.1 43 0 j else M.1 30 0 j) i (M.1 43 0 i) = (fun j => if j < i + 1 then M.1 43 0 j else M.1 30 0 j) := pm_upd_step _ _ i
      rw [e]
      exact k2
def mOut (M M' : pm_M) (a1 a2 a3 a4 : Int32) (i : Nat) (f0 : Nat → Int32) : Nat ⊕ (Nat × Int32 × (Nat → Int32)) → Prop
  | .inl j => pm_G mMo_read 62 [some (pm_r 29 0), some (pm_i a1), some (pm_i a2), some (pm_i a3), some (pm_i a4), some (pm_i 0), some (pm_i (nI i)), some (pm_i (nI i)), none, none, none] [] M (pm_D (some (pm_i (-20 - nI j))) M') ∧ M'.1 30 0 = f0 ∧ M'.1 29 0 = M.1 29 0
  | .inr (d, x, f') => pm_G mMo_read 62 [some (pm_r 29 0), some (pm_i a1), some (pm_i a2), some (pm_i a3), some (pm_i a4), some (pm_i 0), some (pm_i (nI i)), some (pm_i (nI i)), none, none, none] [] M (pm_D (some (pm_i (nI d))) M') ∧ ag (M'.1 30 0) f' ∧ (∀ y, 45 ≤ y → M'.1 30 0 y = f0 y) ∧ M'.1 29 0 = upd (M.1 29 0) 35 x
theorem m_read_loop {a2 a3 : Int32} {k n P T : Nat} {sz ln : Int32} {X Y f0 : Nat → Int32} {C : Nat → Int32} (hk : k < 4) (hn : n ≤ 20) (hX : ∀ i, X i = C (a3.toInt + 2 * i).toNat) (hY : ∀ i, Y i = C ((a3.toInt + 2 * i).toNat + 1)) : ∀ (m i : Nat) (f : Nat → Int32) (M : pm_M), ag (M.1 30 0) f → wv f P T → M.1 29 0 3 = nI P → M.1 29 0 4 = nI T → (∀ y, 45 ≤ y → M.1 30 0 y = f0 y) → (∀ y, y < 45 → M.1 43 0 y = f0 y) → i + m = n → shOK M k sz ln → (¬ sz = -4 → ∀ j, j < 40 → M.1 42 0 (40 * k + j) = C j) → ∃ M', tch [29, 30, 31] M M' ∧ mOut M M' (nI k) a2 a3 (nI n) i f0 (rd (rF sz ln a2 a3) X Y T m i f)
  | 0, i, f, M, h, hv, p3, p4, h45, h43, e, hs, hc => by
    refine ⟨pm_set M 29 0 (upd (M.1 29 0) 35 0), tch_set tch_rfl (by decide), ?_, h, h45, by rw [pm_set_at]⟩
    have e : i = n := by omega
    subst e
    exact bMo_read_62 (fun _ => bMo_read_250 ⟨rfl, rfl⟩) (fun q => absurd ((pm_le4 (a := i) (b := i) (by omega) (by omega)).mpr (by omega)) q)
  | m + 1, i, f, M, h, hv, p3, p4, h45, h43, e, hs, hc => by
    have h4 := hv.2.1
    have hi : i < 20 := by omega
    have le : ¬ nI n ≤ nI i := fun q => by
      have := (pm_le4 (a := n) (b := i) (by omega) (by omega)).mp q
      omega
    have hvg := ag_wv h hv
    by_cases hF : rF sz ln a2 a3 i = 0
    · obtain ⟨e1, e2, e3, e4, e5⟩ := rF_0 hi hs hF
      have hz : ¬ sz = -4 := fun q => by
        unfold rF at hF
        rw [if_pos q] at hF
        exact absurd hF (by decide)
      have j4 : ((40 * nI k) + a3) + (2 * nI i) = nI (40 * k + e1) := by
        rw [Int32.add_assoc, e4, show (40 : Int32) = nI 40 from rfl, pk_mul, nI_add]
      have j5 : (((40 * nI k) + a3) + (2 * nI i)) + 1 = nI (40 * k + (e1 + 1)) := by rw [j4, nI_1, Nat.add_assoc]
      have cx : M.1 42 0 (((40 * nI k) + a3) + (2 * nI i)).toNatClampNeg = X i := by rw [j4, pm_cl4 (by omega), hX, e3, hc hz _ (by omega)]
      have cy : M.1 42 0 ((((40 * nI k) + a3) + (2 * nI i)) + 1).toNatClampNeg = Y i := by rw [j5, pm_cl4 (by omega), hY, e3, hc hz _ (by omega)]
      have v1 : vp_in (((40 * nI k) + a3) + (2 * nI i)) 160 := by rw [j4]; exact pm_vin (by omega) (by omega)
      have v2 : vp_in ((((40 * nI k) + a3) + (2 * nI i)) + 1) 160 := by rw [j5]; exact pm_vin (by omega) (by omega)
      by_cases hD : okD f T (X i) (Y i)
      · obtain ⟨t, j, ht, hj, hx, hy, hd, hb⟩ := hD
        rw [rd_yes hF h4 ht hj hx hy hd hb]
        have hd' : M.1 30 0 (8 + 5 * t) = -4 := by rw [h _ (by omega)]; exact hd
        have hb' : M.1 30 0 (28 + j) = -4 := by rw [h _ (by omega)]; exact hb
        obtain ⟨M1, k1, k2, k3, _⟩ := mo_draw (M := M) (f := M.1 30 0) hvg ⟨rfl, p3, p4⟩ ht hj
        rw [if_pos hd', if_pos hb'] at k1
        obtain ⟨k5, k6⟩ := k3 hd' hb'
        have a1 : ag (M1.1 30 0) (md_draw T t j f) := fun y hy9 => (k5 y hy9).trans (draw_ag h h4 ht hj y hy9)
        obtain ⟨M', q1, q2⟩ := m_read_loop (a2 := a2) (sz := sz) (ln := ln) (f0 := f0) (C := C) hk hn hX hY m (i + 1) _ M1 a1 (wv_draw hv ht hj hd hb) (by rw [k2 29 0 (by decide)]; exact p3) (by rw [k2 29 0 (by decide)]; exact p4) (fun y hy9 => (k6 y hy9).trans (h45 y hy9)) (fun y hy9 => by rw [k2 43 0 (by decide)]; exact h43 y hy9) (by omega) (by
          unfold shOK
          rw [k2 40 0 (by decide), k2 41 0 (by decide)]
          exact hs) (fun z j hj => by rw [k2 42 0 (by decide)]; exact hc z j hj)
        have pos : (0 : Int32) ≤ M.1 30 0 (24 + j) := by
          obtain ⟨am, am1, am2⟩ := hvg.2.2.2.1 j hj
          rw [am2]
          exact nI_pos' (by omega)
        have go : ∀ {v : Option pm_V} {M' : pm_M}, pm_G mMo_read 62 [some (pm_r 29 0), some (pm_i (nI k)), some (pm_i a2), some (pm_i a3), some (pm_i (nI n)), some (pm_i 0), some (pm_i (nI (i + 1))), some (pm_i (nI (i + 1))), none, none, none] [] M1 (pm_D v M') → pm_G mMo_read 62 [some (pm_r 29 0), some (pm_i (nI k)), some (pm_i a2), some (pm_i a3), some (pm_i (nI n)), some (pm_i 0), some (pm_i (nI i)), some (pm_i (nI i)), none, none, none] [] M (pm_D v M') := by
          intro v M' kk
          refine bMo_read_62 (fun q => absurd q le) (fun _ => bMo_read_69 (fun _ => m_pair hk hi hs (fun c => ?_)) (fun q => absurd rfl q))
          rw [hF]
          refine bMo_read_164 (fun _ => bMo_read_169 v1 v2 (r := M.1 30 0 (24 + j)) (M1 := M1) ?_ (bMo_read_202 (fun _ => bMo_read_241 ?_) (fun q => absurd pos q))) (fun q => absurd rfl q)
          · rw [cx, cy, hx, hy]
            exact k1
          · rw [nI_1]
            refine bMo_read_244 ?_
            rw [nI_1]
            refine pm_G_le ?_ kk
            exact ⟨Or.inr rfl, Or.inr rfl, Or.inr rfl, Or.inr rfl, Or.inr rfl, Or.inr rfl, Or.inr rfl, Or.inr rfl, Or.inl rfl, Or.inl rfl, Or.inl rfl, trivial⟩
        refine ⟨M', tch_trans (tch_mono k2 (by decide)) q1, ?_⟩
        revert q2
        cases rd (rF sz ln a2 a3) X Y T m (i + 1) (md_draw T t j f) with
        | inl j9 => exact fun q2 => ⟨go q2.1, q2.2.1, by rw [q2.2.2, k2 29 0 (by decide)]⟩
        | inr z =>
          obtain ⟨d, x, f'⟩ := z
          exact fun q2 => ⟨go q2.1, q2.2.1, q2.2.2.1, by rw [q2.2.2.2, k2 29 0 (by decide)]⟩
      · rw [rd_no hF hD]
        have hm : ∃ x : Int32, ¬ (0 : Int32) ≤ x ∧ pm_Ev mMo_draw [pm_r 29 0, pm_i (X i), pm_i (Y i)] M (some (pm_i x)) M := by
          by_cases hb : (¬ ∃ t, t < T ∧ X i = nI t) ∨ ¬ ∃ t, t < T ∧ Y i = nI t
          · exact ⟨-1, by decide, mo_draw_bad (f := M.1 30 0) hvg ⟨rfl, p3, p4⟩ hb⟩
          · obtain ⟨hb1, hb2⟩ := not_or.mp hb
            obtain ⟨t, ht, hx⟩ := Classical.not_not.mp hb1
            obtain ⟨j, hj, hy⟩ := Classical.not_not.mp hb2
            obtain ⟨M1, k1, k2, k3, k4⟩ := mo_draw (M := M) (f := M.1 30 0) hvg ⟨rfl, p3, p4⟩ ht hj
            have q9 : ¬ (M.1 30 0 (8 + 5 * t) = -4 ∧ M.1 30 0 (28 + j) = -4) := fun q => hD ⟨t, j, ht, hj, hx, hy, by rw [← h _ (by omega)]; exact q.1, by rw [← h _ (by omega)]; exact q.2⟩
            have r4 : (if M.1 30 0 (8 + 5 * t) = -4 then (if M.1 30 0 (28 + j) = -4 then M.1 30 0 (24 + j) else -2) else -2) = -2 := by
              by_cases q1 : M.1 30 0 (8 + 5 * t) = -4
              · rw [if_pos q1, if_neg (fun q2 => q9 ⟨q1, q2⟩)]
              · rw [if_neg q1]
            have k5 := k4 (by
              by_cases q1 : M.1 30 0 (8 + 5 * t) = -4
              · exact Or.inr (fun q2 => q9 ⟨q1, q2⟩)
              · exact Or.inl q1)
            rw [r4, k5] at k1
            rw [hx, hy]
            exact ⟨-2, by decide, k1⟩
        obtain ⟨x, hx, hev⟩ := hm
        refine ⟨pm_set M 30 0 (fun j => if j < 45 then M.1 43 0 j else M.1 30 0 j), tch_set tch_rfl (by decide), ?_, ?_, rfl⟩
        · refine bMo_read_62 (fun q => absurd q le) (fun _ => bMo_read_69 (fun _ => m_pair hk hi hs (fun c => ?_)) (fun q => absurd rfl q))
          rw [hF]
          refine bMo_read_164 (fun _ => bMo_read_169 v1 v2 (r := x) (M1 := M) ?_ (bMo_read_202 (fun q => absurd q hx) (fun _ => bMo_read_205 (wMo_read_208 (bMo_read_235 ⟨rfl, rfl⟩))))) (fun q => absurd rfl q)
          rw [cx, cy]
          exact hev
        · rw [pm_set_at]
          funext y
          by_cases q : y < 45
          · rw [if_pos q]
            exact h43 y q
          · rw [if_neg q]
            exact h45 y (by omega)
    · rw [rd_bad hF]
      refine ⟨pm_set M 29 0 (upd (M.1 29 0) 35 (rF sz ln a2 a3 i)), tch_set tch_rfl (by decide), ?_, h, h45, by rw [pm_set_at]⟩
      refine bMo_read_62 (fun q => absurd q le) (fun _ => bMo_read_69 (fun _ => m_pair hk hi hs (fun c => bMo_read_164 (fun q => absurd q hF) (fun _ => bMo_read_244 ?_))) (fun q => absurd rfl q))
      have fin : pm_G mMo_read 250 [some (pm_r 29 0), some (pm_i (nI k)), some (pm_i a2), some (pm_i a3), some (pm_i (nI n)), some (pm_i (rF sz ln a2 a3 i)), some (pm_i (nI i)), some (pm_i (nI i + 1)), none, none, none] [] M (pm_D (some (pm_i (nI i))) (pm_set M 29 0 (upd (M.1 29 0) 35 (rF sz ln a2 a3 i)))) := bMo_read_250 ⟨rfl, rfl⟩
      refine pm_G_le (ls' := [some (pm_r 29 0), some (pm_i (nI k)), some (pm_i a2), some (pm_i a3), some (pm_i (nI n)), some (pm_i (rF sz ln a2 a3 i)), some (pm_i (nI i)), some (pm_i (nI i + 1)), none, none, none]) ⟨Or.inr rfl, Or.inr rfl, Or.inr rfl, Or.inr rfl, Or.inr rfl, Or.inr rfl, Or.inr rfl, Or.inr rfl, Or.inl rfl, Or.inl rfl, Or.inl rfl, trivial⟩ ?_
      exact bMo_read_62 (fun _ => fin) (fun _ => bMo_read_69 (fun q => absurd q hF) (fun _ => fin))
