/-! the told draws, by the reference -/
theorem wMo_come_2 {M : pm_M} {Q : Option pm_V → pm_M → Prop} (kk : pm_G mMo_drawsCome 26 [some (pm_r 29 0), some (pm_i (nI 45)), none, none] [] (pm_set M 31 0 (fun j => if j < 45 then M.1 33 0 j else M.1 31 0 j)) Q) : pm_G mMo_drawsCome 2 [some (pm_r 29 0), some (pm_i 0), none, none] [] M Q := by
  have key := pm_upto (N := 45) (P := fun i => pm_G mMo_drawsCome 2 [some (pm_r 29 0), some (pm_i (nI i)), none, none] [] (pm_set M 31 0 (fun j => if j < i then M.1 33 0 j else M.1 31 0 j)) Q) ?_ ?_ 0 (Nat.zero_le _)
  · rw [pm_set_id (M := M) (t := 31) (k := 0) (fun j => by simp)] at key
    exact key
  · exact bMo_drawsCome_2 (fun _ => kk) (fun h => absurd (show nI 45 ≤ nI 45 from (pm_le4 (by omega) (by omega)).mpr (Nat.le_refl _)) h)
  · intro i hi k2
    refine bMo_drawsCome_2 (fun h => ?_) (fun _ => ?_)
    · have := (pm_le4 (a := 45) (b := i) (by omega) (by omega)).mp h
      omega
    · refine bMo_drawsCome_8 (pm_vin (by omega) (by omega)) (pm_vin (by omega) (by omega)) ?_
      rw [pm_cl4 (show i ≤ 1000 by omega), pm_set_set, pm_set_at, pm_set_ne _ _ (by decide), nI_1]
      have e : upd (fun j => if j < i then M.1 33 0 j else M.1 31 0 j) i (M.1 33 0 i) = (fun j => if j < i + 1 then M.1 33 0 j else M.1 31 0 j) := pm_upd_step _ _ i
      rw [e]
      exact k2
theorem wMo_come_148 {M : pm_M} {Q : Option pm_V → pm_M → Prop} (kk : pm_G mMo_drawsCome 172 [some (pm_r 29 0), some (pm_i (nI 45)), none, none] [] (pm_set M 33 0 (fun j => if j < 45 then M.1 31 0 j else M.1 33 0 j)) Q) : pm_G mMo_drawsCome 148 [some (pm_r 29 0), some (pm_i 0), none, none] [] M Q := by
  have key := pm_upto (N := 45) (P := fun i => pm_G mMo_drawsCome 148 [some (pm_r 29 0), some (pm_i (nI i)), none, none] [] (pm_set M 33 0 (fun j => if j < i then M.1 31 0 j else M.1 33 0 j)) Q) ?_ ?_ 0 (Nat.zero_le _)
  · rw [pm_set_id (M := M) (t := 33) (k := 0) (fun j => by simp)] at key
    exact key
  · exact bMo_drawsCome_148 (fun _ => kk) (fun h => absurd (show nI 45 ≤ nI 45 from (pm_le4 (by omega) (by omega)).mpr (Nat.le_refl _)) h)
  · intro i hi k2
    refine bMo_drawsCome_148 (fun h => ?_) (fun _ => ?_)
    · have := (pm_le4 (a := 45) (b := i) (by omega) (by omega)).mp h
      omega
    · refine bMo_drawsCome_154 (pm_vin (by omega) (by omega)) (pm_vin (by omega) (by omega)) ?_
      rw [pm_cl4 (show i ≤ 1000 by omega), pm_set_set, pm_set_at, pm_set_ne _ _ (by decide), nI_1]
      have e : upd (fun j => if j < i then M.1 31 0 j else M.1 33 0 j) i (M.1 31 0 i) = (fun j => if j < i + 1 then M.1 31 0 j else M.1 33 0 j) := pm_upd_step _ _ i
      rw [e]
      exact k2
theorem ix8 {i : Nat} (hi : i < 4) : (2 * nI i = nI (2 * i)) ∧ vp_in (2 * nI i) 8 ∧ vp_in ((2 * nI i) + 1) 8 ∧ Int32.toNatClampNeg (2 * nI i) = 2 * i ∧ Int32.toNatClampNeg ((2 * nI i) + 1) = 2 * i + 1 := by
  have e := tw_at (show i < 20 by omega)
  rw [e, nI_1]
  exact ⟨rfl, pm_vin (by omega) (by omega), pm_vin (by omega) (by omega), pm_cl4 (by omega), pm_cl4 (by omega)⟩
section DC
variable {P T D : Nat} {X Y : Nat → Int32}
/-- behind a fault the draws are passed over -/
theorem m_pass {M : pm_M} {Q : Option pm_V → pm_M → Prop} (hD : D ≤ 4) (h9 : M.1 29 0 9 = nI D) (h18 : ¬ M.1 29 0 18 = 0) (kk : pm_G mMo_drawsCome 146 [some (pm_r 29 0), some (pm_i (nI D)), none, none] [] M Q) : ∀ (m i : Nat), i + m = D → pm_G mMo_drawsCome 28 [some (pm_r 29 0), some (pm_i (nI i)), none, none] [] M Q := by
  intro m
  induction m with
  | zero =>
    intro i hi
    have : i = D := by omega
    subst this
    exact bMo_drawsCome_28 (fun _ => kk) (fun c => absurd (by rw [h9]; exact (pm_le4 (by omega) (by omega)).mpr (by omega)) c)
  | succ m ih =>
    intro i hi
    obtain ⟨x0, x1, x2, x3, x4⟩ := ix8 (show i < 4 by omega)
    have le : ¬ M.1 29 0 9 ≤ nI i := by
      rw [h9]
      exact fun c => by have := (pm_le4 (by omega) (by omega)).mp c; omega
    have tail : ∀ (a2 a3 : Int32) (x : Int32), pm_G mMo_drawsCome 78 [some (pm_r 29 0), some (pm_i (nI i)), some (pm_i a2), some (pm_i a3)] [pm_i x, pm_r 29 0] M Q := by
      intro a2 a3 x
      refine bMo_drawsCome_78 (m_needs1 (Or.inr h18)) (bMo_drawsCome_83 (fun c => absurd c h18) (fun _ => bMo_drawsCome_123 (fun c => absurd c h18) (fun _ => bMo_drawsCome_140 ?_)))
      rw [nI_1]
      refine pm_G_le ?_ (ih (i + 1) (by omega))
      exact ⟨Or.inr rfl, Or.inr rfl, Or.inl rfl, Or.inl rfl, trivial⟩
    exact bMo_drawsCome_28 (fun c => absurd c le) (fun _ => bMo_drawsCome_36 x1 x2 (fun _ => bMo_drawsCome_77 (tail _ _ _)) (fun _ => bMo_drawsCome_65 (fun _ => bMo_drawsCome_77 (tail _ _ _)) (fun _ => bMo_drawsCome_73 (tail _ _ _))))
def dwM (M M' : pm_M) (n i : Nat) : Nat ⊕ (Nat × Int32 × (Nat → Int32)) → Prop
  | .inl _ => (∀ Q : Option pm_V → pm_M → Prop, pm_G mMo_drawsCome 146 [some (pm_r 29 0), some (pm_i (nI D)), none, none] [] M' Q → pm_G mMo_drawsCome 28 [some (pm_r 29 0), some (pm_i (nI i)), none, none] [] M Q) ∧ rE 8 n (M'.1 29 0) ∧ kp (M.1 29 0) (M'.1 29 0)
  | .inr (_, _, f') => (∀ Q : Option pm_V → pm_M → Prop, pm_G mMo_drawsCome 146 [some (pm_r 29 0), some (pm_i (nI D)), none, none] [] M' Q → pm_G mMo_drawsCome 28 [some (pm_r 29 0), some (pm_i (nI i)), none, none] [] M Q) ∧ M'.1 29 0 = M.1 29 0 ∧ ag (M'.1 31 0) f'
theorem m_comes {n : Nat} (hD : D ≤ 4) (hX : ∀ j, j < D → (∃ x, x < 4 ∧ X j = nI x) ∧ ∃ y, y < 4 ∧ Y j = nI y) : ∀ (m i : Nat) (f : Nat → Int32) (M : pm_M), i + m = D → ag (M.1 31 0) f → wv f P T → M.1 29 0 7 = nI T → M.1 29 0 9 = nI D → M.1 29 0 18 = 0 → M.1 29 0 15 = nI n → (∀ j, j < D → M.1 34 0 (2 * j) = X j ∧ M.1 34 0 (2 * j + 1) = Y j) → ∃ M', tch [29, 31] M M' ∧ dwM (D := D) M M' n i (rd (fun _ => 0) X Y T m i f)
  | 0, i, f, M, hi, h, hv, h7, h9, h18, h15, hx => by
    have : i = D := by omega
    subst this
    exact ⟨M, tch_rfl, fun Q kk => bMo_drawsCome_28 (fun _ => kk) (fun c => absurd (by rw [h9]; exact (pm_le4 (by omega) (by omega)).mpr (by omega)) c), rfl, h⟩
  | m + 1, i, f, M, hi, h, hv, h7, h9, h18, h15, hx => by
    have hT := hv.2.1
    have hP := hv.1
    obtain ⟨x0, x1, x2, x3, x4⟩ := ix8 (show i < 4 by omega)
    have le : ¬ M.1 29 0 9 ≤ nI i := by
      rw [h9]
      exact fun c => by have := (pm_le4 (by omega) (by omega)).mp c; omega
    obtain ⟨y1, y2⟩ := hx i (by omega)
    obtain ⟨⟨t, t4, ht⟩, j, j4, hj⟩ := hX i (by omega)
    have g1 : M.1 34 0 (Int32.toNatClampNeg (2 * nI i)) = nI t := by rw [x3, y1, ht]
    have g2 : M.1 34 0 (Int32.toNatClampNeg ((2 * nI i) + 1)) = nI j := by rw [x4, y2, hj]
    -- a fault here
    have flt : (∀ Q : Option pm_V → pm_M → Prop, pm_G mMo_drawsCome 123 [some (pm_r 29 0), some (pm_i (nI i)), some (pm_i (nI t)), some (pm_i (nI j))] [] (pm_set M 29 0 (upd (upd (M.1 29 0) 18 8) 19 (M.1 29 0 15))) Q → pm_G mMo_drawsCome 28 [some (pm_r 29 0), some (pm_i (nI i)), none, none] [] M Q) → ∃ M', tch [29, 31] M M' ∧ dwM (D := D) M M' n i (.inl i) := by
      intro go
      have hE : rE 8 n (upd (upd (M.1 29 0) 18 8) 19 (M.1 29 0 15)) := ⟨by omega, by rw [pk_un (by decide), pk_us]; rfl, by rw [pk_us]; exact h15⟩
      have z : ¬ (pm_set M 29 0 (upd (upd (M.1 29 0) 18 8) 19 (M.1 29 0 15))).1 29 0 18 = 0 := by
        rw [pm_set_at]
        exact (rE_pos hE).1
      refine ⟨pm_set M 29 0 (upd (upd (M.1 29 0) 18 8) 19 (M.1 29 0 15)), tch_set tch_rfl (by decide), fun Q kk => go Q (bMo_drawsCome_123 (fun c => absurd c z) (fun _ => bMo_drawsCome_140 ?_)), by rw [pm_set_at]; exact hE, by rw [pm_set_at]; exact kp_flt⟩
      rw [nI_1]
      refine pm_G_le ?_ (m_pass hD (by rw [pm_set_at, pk_un (by decide), pk_un (by decide)]; exact h9) z kk m (i + 1) (by omega))
      exact ⟨Or.inr rfl, Or.inr rfl, Or.inl rfl, Or.inl rfl, trivial⟩
    have e36 : ∀ Q : Option pm_V → pm_M → Prop, pm_G mMo_drawsCome 78 [some (pm_r 29 0), some (pm_i (nI i)), some (pm_i (nI t)), some (pm_i (nI j))] [pm_i (if t < T ∧ j < T then 1 else 0), pm_r 29 0] M Q → pm_G mMo_drawsCome 28 [some (pm_r 29 0), some (pm_i (nI i)), none, none] [] M Q := by
      intro Q kk
      have cT : ∀ z, z ≤ 4 → (nI T ≤ nI z ↔ T ≤ z) := fun z hz => pm_le4 (by omega) (by omega)
      refine bMo_drawsCome_28 (fun c => absurd c le) (fun _ => bMo_drawsCome_36 x1 x2 (fun c => bMo_drawsCome_77 ?_) (fun c => bMo_drawsCome_65 (fun c2 => bMo_drawsCome_77 ?_) (fun c2 => bMo_drawsCome_73 ?_)))
      · rw [h7, g1] at c
        rw [g1, g2]
        rw [if_neg (fun x => by have := (cT t (by omega)).mp c; omega)] at kk
        exact kk
      · rw [h7, g2] at c2
        rw [g1, g2]
        rw [if_neg (fun x => by have := (cT j (by omega)).mp c2; omega)] at kk
        exact kk
      · rw [h7, g1] at c
        rw [h7, g2] at c2
        rw [g1, g2]
        have c3 : ¬ T ≤ t := fun x => c ((cT t (by omega)).mpr x)
        have c4 : ¬ T ≤ j := fun x => c2 ((cT j (by omega)).mpr x)
        rw [if_pos (by omega)] at kk
        exact kk
    by_cases qT : t < T ∧ j < T
    · obtain ⟨htT, hjT⟩ := qT
      rw [if_pos ⟨htT, hjT⟩] at e36
      have iw : fMo_isInWheel (nI t) M = if f (8 + 5 * t) = -4 then 1 else 0 := by
        unfold fMo_isInWheel fMo_of
        rw [md_i4 t4, h _ (by omega)]
      have bj : M.1 31 0 (Int32.toNatClampNeg (28 + nI j)) = f (28 + j) := by rw [md_iB j4, h _ (by omega)]
      have e90 : ∀ Q : Option pm_V → pm_M → Prop, pm_G mMo_drawsCome 118 [some (pm_r 29 0), some (pm_i (nI i)), some (pm_i (nI t)), some (pm_i (nI j))] [pm_i (if f (8 + 5 * t) = -4 ∧ f (28 + j) = -4 then 1 else 0), pm_r 29 0] M Q → pm_G mMo_drawsCome 28 [some (pm_r 29 0), some (pm_i (nI i)), none, none] [] M Q := by
        intro Q kk
        refine e36 Q (bMo_drawsCome_78 (m_needs1 (Or.inl (by decide))) (bMo_drawsCome_83 (fun _ => bMo_drawsCome_90 (eMo_isInWheel (md_v t4).1.2.2.2.2) (bMo_drawsCome_96 (fun c => bMo_drawsCome_117 ?_) (fun c => bMo_drawsCome_99 (md_v j4).2.2.1 (fun c2 => bMo_drawsCome_113 ?_) (fun c2 => bMo_drawsCome_117 ?_)))) (fun c => absurd h18 c)))
        · rw [iw] at c
          have q1 : ¬ f (8 + 5 * t) = -4 := fun x => by
            rw [if_pos x] at c
            exact absurd c (by decide)
          rw [if_neg (fun x => q1 x.1)] at kk
          exact kk
        · rw [iw] at c
          have q1 : f (8 + 5 * t) = -4 := Classical.byContradiction (fun x => by
            rw [if_neg x] at c
            exact absurd rfl c)
          rw [bj] at c2
          rw [if_pos ⟨q1, c2⟩] at kk
          exact kk
        · rw [bj] at c2
          rw [if_neg (fun x => c2 x.2)] at kk
          exact kk
      by_cases qd : f (8 + 5 * t) = -4 ∧ f (28 + j) = -4
      · obtain ⟨hdt, hbj⟩ := qd
        rw [if_pos ⟨hdt, hbj⟩] at e90
        rw [rd_yes rfl hT htT hjT ht hj hdt hbj]
        have hd := eMo_draws (a1 := nI T) (a2 := nI t) (a3 := nI j) (M := M) ⟨T, t, j, hT, htT, by omega, rfl, rfl, rfl, tv_ag h hT (wv_tv hv)⟩
        unfold gMo_draws at hd
        rw [pm_cl4 (by omega), pm_cl4 (by omega), pm_cl4 (by omega), ← h7] at hd
        obtain ⟨M', k1, k2⟩ := m_comes (n := n) hD hX m (i + 1) _ (pm_set M 31 0 (md_draw T t j (M.1 31 0))) (by omega) (by rw [pm_set_at]; exact draw_ag h hT htT hjT) (wv_draw hv htT hjT hdt hbj) h7 h9 h18 h15 hx
        have go : ∀ Q : Option pm_V → pm_M → Prop, pm_G mMo_drawsCome 28 [some (pm_r 29 0), some (pm_i (nI (i + 1))), none, none] [] (pm_set M 31 0 (md_draw T t j (M.1 31 0))) Q → pm_G mMo_drawsCome 28 [some (pm_r 29 0), some (pm_i (nI i)), none, none] [] M Q := by
          intro Q kk
          refine e90 Q (bMo_drawsCome_118 (m_needs1 (Or.inl (by decide))) (bMo_drawsCome_123 (fun _ => bMo_drawsCome_130 hd (bMo_drawsCome_140 ?_)) (fun c => absurd h18 c)))
          rw [nI_1]
          refine pm_G_le ?_ kk
          exact ⟨Or.inr rfl, Or.inr rfl, Or.inl rfl, Or.inl rfl, trivial⟩
        refine ⟨M', tch_trans (tch_set tch_rfl (by decide)) k1, ?_⟩
        revert k2
        cases rd (fun _ => 0) X Y T m (i + 1) (md_draw T t j f) with
        | inl z => exact fun k2 => ⟨fun Q kk => go Q (k2.1 Q kk), k2.2⟩
        | inr z =>
          obtain ⟨d, x, f'⟩ := z
          exact fun k2 => ⟨fun Q kk => go Q (k2.1 Q kk), k2.2⟩
      · rw [if_neg qd] at e90
        rw [rd_no rfl]
        · exact flt (fun Q kk => e90 Q (bMo_drawsCome_118 (m_needs0 h18) kk))
        · rintro ⟨t', j', a1, a2, a3, a4, a5, a6⟩
          rw [ht] at a3
          rw [hj] at a4
          have e1 : t = t' := (pm_eq4 (by omega) (by omega)).mp a3
          have e2 : j = j' := (pm_eq4 (by omega) (by omega)).mp a4
          subst e1 e2
          exact qd ⟨a5, a6⟩
    · rw [if_neg qT] at e36
      rw [rd_no rfl]
      · refine flt (fun Q kk => e36 Q (bMo_drawsCome_78 (m_needs0 h18) (bMo_drawsCome_83 (fun c => ?_) (fun _ => kk))))
        rw [pm_set_at, pk_un (by decide), pk_us] at c
        exact absurd c (by decide)
      · rintro ⟨t', j', a1, a2, a3, a4, a5, a6⟩
        rw [ht] at a3
        rw [hj] at a4
        have e1 : t = t' := (pm_eq4 (by omega) (by omega)).mp a3
        have e2 : j = j' := (pm_eq4 (by omega) (by omega)).mp a4
        subst e1 e2
        exact qT ⟨a1, a2⟩
end DC
def dcM (M M' : pm_M) (n : Nat) : Nat ⊕ (Nat × Int32 × (Nat → Int32)) → Prop
  | .inl _ => rE 8 n (M'.1 29 0) ∧ kp (M.1 29 0) (M'.1 29 0)
  | .inr (_, _, f') => M'.1 29 0 = M.1 29 0 ∧ ∀ j, j < 45 → M'.1 33 0 j = f' j
theorem m_drawsCome {M : pm_M} {n : Nat} {A : tD} (hd : mD M A) (hV : aV A) (hO : okP A) (h18 : M.1 29 0 18 = 0) (h15 : M.1 29 0 15 = nI n) : ∃ M', pm_Ev mMo_drawsCome [pm_r 29 0] M none M' ∧ tch [29, 31, 33] M M' ∧ dcM M M' n (dwO A) := by
  have hv := aV_wv hV hO
  have hA := hV.1
  obtain ⟨d1, ⟨d2, d3, d4, d5, d6⟩, d7⟩ := hd
  have hX := hV.2.2.2.2.2.2.2
  obtain ⟨M2, k1, k2⟩ := m_comes (P := A.2.1) (T := A.2.2.1) (D := A.2.2.2.2.1) (X := fun i => A.2.2.2.2.2 (2 * i)) (Y := fun i => A.2.2.2.2.2 (2 * i + 1)) (n := n) hA.2.2.2 hX A.2.2.2.2.1 0 A.1 (pm_set M 31 0 (fun j => if j < 45 then M.1 33 0 j else M.1 31 0 j)) (by omega) (fun y hy => by rw [pm_set_at, if_pos hy]; exact d1 y hy) hv d3 d5 h18 h15 (fun j hj => ⟨d7 _ (by omega), d7 _ (by omega)⟩)
  have t1 : tch [29, 31, 33] M (pm_set M 31 0 (fun j => if j < 45 then M.1 33 0 j else M.1 31 0 j)) := tch_set tch_rfl (by decide)
  have go : (∀ Q : Option pm_V → pm_M → Prop, pm_G mMo_drawsCome 146 [some (pm_r 29 0), some (pm_i (nI A.2.2.2.2.1)), none, none] [] M2 Q → pm_G mMo_drawsCome 28 [some (pm_r 29 0), some (pm_i (nI 0)), none, none] [] (pm_set M 31 0 (fun j => if j < 45 then M.1 33 0 j else M.1 31 0 j)) Q) → pm_Ev mMo_drawsCome [pm_r 29 0] M none (pm_set M2 33 0 (fun j => if j < 45 then M2.1 31 0 j else M2.1 33 0 j)) := by
    intro r
    refine pm_Sem_of (ls := [some (pm_r 29 0), none, none, none]) ok_mMo_drawsCome (by decide +kernel) rfl (by decide) (Nat.le_of_ble_eq_true rfl) rfl ?_
    exact bMo_drawsCome_0 (wMo_come_2 (bMo_drawsCome_26 (r _ (bMo_drawsCome_146 (wMo_come_148 (bMo_drawsCome_172 ⟨rfl, rfl⟩))))))
  refine ⟨pm_set M2 33 0 (fun j => if j < 45 then M2.1 31 0 j else M2.1 33 0 j), ?_, tch_set (tch_trans t1 (tch_mono k1 (by decide))) (by decide), ?_⟩
  · revert k2
    cases rd (fun _ => 0) (fun i => A.2.2.2.2.2 (2 * i)) (fun i => A.2.2.2.2.2 (2 * i + 1)) A.2.2.1 A.2.2.2.2.1 0 A.1 with
    | inl z => exact fun k2 => go k2.1
    | inr z =>
      obtain ⟨d, x, f'⟩ := z
      exact fun k2 => go k2.1
  · unfold dwO
    revert k2
    cases rd (fun _ => 0) (fun i => A.2.2.2.2.2 (2 * i)) (fun i => A.2.2.2.2.2 (2 * i + 1)) A.2.2.1 A.2.2.2.2.1 0 A.1 with
    | inl z => exact fun k2 => ⟨k2.2.1, k2.2.2⟩
    | inr z =>
      obtain ⟨d, x, f'⟩ := z
      intro k2
      refine ⟨k2.2.1, fun j hj => ?_⟩
      rw [pm_set_at, if_pos hj]
      exact k2.2.2 j hj
