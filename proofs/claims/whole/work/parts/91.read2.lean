/-! read: the loop -/
def okD (f : Nat → Int32) (T : Nat) (x y : Int32) : Prop := ∃ t j, t < T ∧ j < T ∧ x = nI t ∧ y = nI j ∧ f (8 + 5 * t) = -4 ∧ f (28 + j) = -4
noncomputable def rd (F X Y : Nat → Int32) (T : Nat) : Nat → Nat → (Nat → Int32) → Nat ⊕ (Nat × Int32 × (Nat → Int32))
  | 0, i, f => .inr (i, 0, f)
  | m + 1, i, f => if F i = 0 then (if @decide (okD f T (X i) (Y i)) (Classical.propDecidable _) = true then rd F X Y T m (i + 1) (md_draw T (X i).toNatClampNeg (Y i).toNatClampNeg f) else .inl i) else .inr (i, F i, f)
theorem rd_bad {F X Y : Nat → Int32} {T m i : Nat} {f : Nat → Int32} (h : ¬ F i = 0) : rd F X Y T (m + 1) i f = .inr (i, F i, f) := by rw [rd, if_neg h]
theorem rd_no {F X Y : Nat → Int32} {T m i : Nat} {f : Nat → Int32} (h : F i = 0) (h2 : ¬ okD f T (X i) (Y i)) : rd F X Y T (m + 1) i f = .inl i := by rw [rd, if_pos h, if_neg (by simpa using h2)]
theorem rd_yes {F X Y : Nat → Int32} {T m i t j : Nat} {f : Nat → Int32} (h : F i = 0) (hT : T ≤ 4) (ht : t < T) (hj : j < T) (hx : X i = nI t) (hy : Y i = nI j) (hd : f (8 + 5 * t) = -4) (hb : f (28 + j) = -4) : rd F X Y T (m + 1) i f = rd F X Y T m (i + 1) (md_draw T t j f) := by
  rw [rd, if_pos h, if_pos (by simpa using ⟨t, j, ht, hj, hx, hy, hd, hb⟩), hx, hy, pm_cl4 (by omega), pm_cl4 (by omega)]
/-- what the class's loop leaves -/
def cOut (M Mx : pm_M) (a1 a2 a3 a4 : Int32) (k i P T : Nat) : Nat ⊕ (Nat × Int32 × (Nat → Int32)) → Prop
  | .inl j => pm_G mWt_read 55 [some (pm_r 0 0), some (pm_i a1), some (pm_i a2), some (pm_i a3), some (pm_i a4), some (pm_r 27 k), some (pm_i (nI i)), some (pm_i 0), some (pm_i (nI i)), none, none] [] M (pm_D (some (pm_i (-20 - nI j))) Mx)
  | .inr (d, x, f') => cw Mx 1 f' P T ∧ wv f' P T ∧ d ≤ 20 ∧ pm_G mWt_read 55 [some (pm_r 0 0), some (pm_i a1), some (pm_i a2), some (pm_i a3), some (pm_i a4), some (pm_r 27 k), some (pm_i (nI i)), some (pm_i 0), some (pm_i (nI i)), none, none] [] M (pm_D (some (pm_i (nI d))) (pm_set (gWh_copy 0 1 Mx) 0 0 (upd (M.1 0 0) 8 x)))
theorem cs_pull {a1 a2 : Int32} {M : pm_M} : cs_eq M (gWh_pull 1 a1 a2 M) := by
  refine ⟨fun a b q => ?_, rfl⟩
  by_cases hb : b = 1
  · subst hb
    refine tch_pull a 1 ?_
    intro q9
    simp at q9
    unfold cs_x at q
    simp at q
    omega
  · exact pull_nk hb
theorem c_read_loop {a1 a2 a3 : Int32} {k n P T : Nat} {sz ln : Int32} {X Y : Nat → Int32} {C : Nat → Int32} (hn : n ≤ 20) (hX : ∀ i, X i = C (a3.toInt + 2 * i).toNat) (hY : ∀ i, Y i = C ((a3.toInt + 2 * i).toNat + 1)) : ∀ (m i : Nat) (f : Nat → Int32) (M : pm_M), cw M 1 f P T → wv f P T → i + m = n → shOK M k (M.1 27 k 0) (M.1 27 k 1) → M.1 27 k 0 = sz → M.1 27 k 1 = ln → M.1 28 k = C → ∃ Mx, cs_eq M Mx ∧ cOut M Mx a1 a2 a3 (nI n) k i P T (rd (rF sz ln a2 a3) X Y T m i f)
  | 0, i, f, M, h, hv, e, hs, s1, s2, s3 => by
    refine ⟨M, cs_rfl, h, hv, by omega, ?_⟩
    have e : i = n := by omega
    subst e
    exact bWt_read_55 (fun _ => bWt_read_156 eWh_copy (bWt_read_167 ⟨rfl, by rw [copy_ne (by omega)]⟩)) (fun q => absurd ((pm_le4 (a := i) (b := i) (by omega) (by omega)).mpr (by omega)) q)
  | m + 1, i, f, M, h, hv, e, hs, s1, s2, s3 => by
    have h4 := hv.2.1
    have hP := hv.1
    have hi : i < 20 := by omega
    have le : ¬ nI n ≤ nI i := fun q => by
      have := (pm_le4 (a := n) (b := i) (by omega) (by omega)).mp q
      omega
    have hp := c_pair (a2 := a2) (a3 := a3) hi hs
    rw [s1, s2] at hp
    by_cases hF : rF sz ln a2 a3 i = 0
    · have hs' := hs
      rw [s1, s2] at hs'
      obtain ⟨e1, e2, e3, e4, e5⟩ := rF_0 hi hs' hF
      have cx : M.1 28 k (a3 + 2 * nI i).toNatClampNeg = X i := by rw [e4, pm_cl4 (by omega), hX, e3, s3]
      have cy : M.1 28 k ((a3 + 2 * nI i) + 1).toNatClampNeg = Y i := by rw [e5, pm_cl4 (by omega), hY, e3, s3]
      have v1 : vp_in (a3 + 2 * nI i) 40 := by rw [e4]; exact pm_vin (by omega) (by omega)
      have v2 : vp_in ((a3 + 2 * nI i) + 1) 40 := by rw [e5]; exact pm_vin (by omega) (by omega)
      by_cases hD : okD f T (X i) (Y i)
      · obtain ⟨t, j, ht, hj, hx, hy, hd, hb⟩ := hD
        rw [rd_yes hF h4 ht hj hx hy hd hb]
        obtain ⟨p1, p2⟩ := cw_pull h hP h4 ht hj
        have cs := cs_pull (a1 := nI t) (a2 := nI j) (M := M)
        have g27 : (gWh_pull 1 (nI t) (nI j) M).1 27 k = M.1 27 k := cs.1 27 k rfl
        obtain ⟨Mx, k1, k2⟩ := c_read_loop (a1 := a1) (a2 := a2) (sz := sz) (ln := ln) (C := C) hn hX hY m (i + 1) _ _ p1 (wv_draw hv ht hj hd hb) (by omega) (by
          unfold shOK
          rw [g27, cs.1 40 0 rfl, cs.1 41 0 rfl]
          exact hs) (by rw [g27]; exact s1) (by rw [g27]; exact s2) (by rw [cs.1 28 k rfl]; exact s3)
        obtain ⟨r1, r2⟩ := ref_at h h4 ht hj
        rw [if_pos hd, if_pos hb] at r1
        have go : ∀ {v : Option pm_V} {M' : pm_M}, pm_G mWt_read 55 [some (pm_r 0 0), some (pm_i a1), some (pm_i a2), some (pm_i a3), some (pm_i (nI n)), some (pm_r 27 k), some (pm_i (nI (i + 1))), some (pm_i 0), some (pm_i (nI (i + 1))), none, none] [] (gWh_pull 1 (nI t) (nI j) M) (pm_D v M') → pm_G mWt_read 55 [some (pm_r 0 0), some (pm_i a1), some (pm_i a2), some (pm_i a3), some (pm_i (nI n)), some (pm_r 27 k), some (pm_i (nI i)), some (pm_i 0), some (pm_i (nI i)), none, none] [] M (pm_D v M') := by
          intro v M' kk
          refine bWt_read_55 (fun q => absurd q le) (fun _ => bWt_read_62 (fun _ => bWt_read_67 eSh_faultAtPair (bWt_read_79 (fun _ => ?_) (fun q => absurd (hp.trans hF) q))) (fun q => absurd rfl q))
          rw [hp, hF]
          refine bWt_read_86 v1 v2 (r := 0) (M1 := M) ?_ ?_
          · rw [cx, cy, hx, hy, ← r1]
            exact eWh_refusal r2
          · rw [cx, cy, hx, hy]
            refine bWt_read_127 (fun _ => bWt_read_136 (eWh_pull p2) (bWt_read_147 ?_)) (fun q => absurd rfl q)
            rw [nI_1]
            refine pm_G_le (ls' := [some (pm_r 0 0), some (pm_i a1), some (pm_i a2), some (pm_i a3), some (pm_i (nI n)), some (pm_r 27 k), some (pm_i (nI (i + 1))), some (pm_i 0), some (pm_i (nI i)), none, none]) ⟨Or.inr rfl, Or.inr rfl, Or.inr rfl, Or.inr rfl, Or.inr rfl, Or.inr rfl, Or.inr rfl, Or.inr rfl, Or.inr rfl, Or.inl rfl, Or.inl rfl, trivial⟩ (bWt_read_150 ?_)
            rw [nI_1]
            exact kk
        refine ⟨Mx, cs_trans cs k1, ?_⟩
        revert k2
        cases rd (rF sz ln a2 a3) X Y T m (i + 1) (md_draw T t j f) with
        | inl j9 => exact fun k2 => go k2
        | inr z =>
          obtain ⟨d, x, f'⟩ := z
          intro k2
          refine ⟨k2.1, k2.2.1, k2.2.2.1, go ?_⟩
          have := k2.2.2.2
          rw [cs.1 0 0 rfl] at this
          exact this
      · rw [rd_no hF hD]
        refine ⟨M, cs_rfl, ?_⟩
        have hr : ¬ fWh_refusal 1 (X i) (Y i) M = 0 ∧ sWh_refusal 1 (X i) (Y i) M := by
          by_cases hb : (¬ ∃ t, t < T ∧ X i = nI t) ∨ ¬ ∃ t, t < T ∧ Y i = nI t
          · obtain ⟨r1, r2⟩ := ref_bad h h4 hb
            exact ⟨by rw [r1]; decide, r2⟩
          · obtain ⟨hb1, hb2⟩ := not_or.mp hb
            obtain ⟨t, ht, hx⟩ := Classical.not_not.mp hb1
            obtain ⟨j, hj, hy⟩ := Classical.not_not.mp hb2
            obtain ⟨r1, r2⟩ := ref_at h h4 ht hj
            rw [hx, hy]
            refine ⟨?_, r2⟩
            rw [r1]
            by_cases q1 : f (8 + 5 * t) = -4
            · rw [if_pos q1, if_neg (fun q2 => hD ⟨t, j, ht, hj, hx, hy, q1, q2⟩)]
              decide
            · rw [if_neg q1]
              decide
        refine bWt_read_55 (fun q => absurd q le) (fun _ => bWt_read_62 (fun _ => bWt_read_67 eSh_faultAtPair (bWt_read_79 (fun _ => ?_) (fun q => absurd (hp.trans hF) q))) (fun q => absurd rfl q))
        refine bWt_read_86 v1 v2 (r := fWh_refusal 1 (X i) (Y i) M) (M1 := M) ?_ (bWt_read_127 (fun q => absurd q hr.1) (fun _ => bWt_read_130 ⟨rfl, rfl⟩))
        rw [cx, cy]
        exact eWh_refusal hr.2
    · rw [rd_bad hF]
      refine ⟨M, cs_rfl, h, hv, by omega, ?_⟩
      refine bWt_read_55 (fun q => absurd q le) (fun _ => bWt_read_62 (fun _ => bWt_read_67 eSh_faultAtPair (bWt_read_79 (fun q => absurd (hp.symm.trans q) hF) (fun _ => bWt_read_150 ?_))) (fun q => absurd rfl q))
      rw [hp]
      have fin : pm_G mWt_read 156 [some (pm_r 0 0), some (pm_i a1), some (pm_i a2), some (pm_i a3), some (pm_i (nI n)), some (pm_r 27 k), some (pm_i (nI i)), some (pm_i (rF sz ln a2 a3 i)), some (pm_i (nI i + 1)), none, none] [] M (pm_D (some (pm_i (nI i))) (pm_set (gWh_copy 0 1 M) 0 0 (upd (M.1 0 0) 8 (rF sz ln a2 a3 i)))) := bWt_read_156 eWh_copy (bWt_read_167 ⟨rfl, by rw [copy_ne (by omega)]⟩)
      exact bWt_read_55 (fun _ => fin) (fun _ => bWt_read_62 (fun q => absurd q hF) (fun _ => fin))
