/-! the lines of a text, one behind another -/
theorem nm_ok {n w : Nat} {b : Nat → Nat} : ∀ (m i p : Nat) (v : Nat → Nat) (p' : Nat) (v' : Nat → Nat), nmO n b w m i p v = .inr (p', v') → p ≤ n → p ≤ p' ∧ p' ≤ n ∧ (∀ j, j < i → v' j = v j) ∧ ∀ j, i ≤ j → j < i + m → v' j ≤ tBd w j
  | 0, i, p, v, p', v', h, hp => by
    rw [nmO] at h
    have h := Sum.inr.inj h
    obtain ⟨rfl, rfl⟩ := Prod.mk.inj h
    exact ⟨by omega, hp, fun _ _ => rfl, fun j h1 h2 => by omega⟩
  | m + 1, i, p, v, p', v', h, hp => by
    rw [nmO] at h
    by_cases q : tkf n b p 2 = 0
    · rw [if_pos q] at h
      by_cases qv : tkV n b p ≤ tBd w i
      · rw [if_pos qv] at h
        obtain ⟨r1, r2, r3, r4⟩ := nm_ok m (i + 1) (tkE n b p) _ p' v' h (tkE_le hp)
        have g1 : p ≤ tkS n b p := tkS_ge
        have g2 : tkS n b p ≤ tkE n b p := tkE_ge
        refine ⟨by omega, r2, fun j hj => ?_, fun j h1 h2 => ?_⟩
        · rw [r3 j (by omega)]
          unfold tUp
          rw [if_neg (by omega)]
        · by_cases e : j = i
          · subst e
            rw [r3 j (by omega)]
            unfold tUp
            rw [if_pos rfl]
            exact qv
          · exact r4 j (by omega) (by omega)
      · rw [if_neg qv] at h
        cases h
    · rw [if_neg q] at h
      cases h
theorem tkf_0 {n p w : Nat} {b : Nat → Nat} (h : tkf n b p w = 0) : tkK n b p = w := by
  unfold tkf at h
  by_cases q : tkK n b p = 4
  · rw [if_pos q] at h
    omega
  · rw [if_neg q] at h
    by_cases q2 : tkK n b p = w
    · exact q2
    · rw [if_neg q2] at h
      omega
theorem aV_put {A : tD} {w : Nat} {v : Nat → Nat} (hV : aV A) (hw : w < 7) (hr : tTold A w < 4) (hv : ∀ j, j < tHm w → v j ≤ tBd w j) : aV (tPut A w v) := by
  obtain ⟨f, P, T, Z, D, g⟩ := A
  obtain ⟨⟨h1, h2, h3, h4⟩, h5, h6, h7, h8, h9, h10, h11⟩ := hV
  dsimp only at h1 h2 h3 h4 h5 h6 h7 h8 h9 h10 h11
  unfold tPut
  by_cases q4 : w = 4
  · subst q4
    rw [if_pos rfl]
    have hP : P < 4 := hr
    have v0 : v 0 ≤ 99 := hv 0 (by decide)
    refine ⟨⟨by show P + 1 ≤ 4; omega, h2, h3, h4⟩, fun p hp => ?_, fun t ht => ?_, fun z hz => ?_, fun t ht => ?_, fun z hz => ?_, ?_, h11⟩
    · show ∃ x, x ≤ 99 ∧ upd f P (nI (v 0)) p = nI x
      by_cases e : p = P
      · rw [e, pk_us]
        exact ⟨v 0, v0, rfl⟩
      · rw [pk_un e]
        exact h5 p (by have : p < P + 1 := hp; omega)
    · have ht' : t < T := ht
      show ∃ kd a c fe, kd < 4 ∧ a < 4 ∧ c < 4 ∧ fe ≤ 9 ∧ upd f P (nI (v 0)) (4 + 5 * t) = nI kd ∧ upd f P (nI (v 0)) (5 + 5 * t) = nI a ∧ upd f P (nI (v 0)) (6 + 5 * t) = nI c ∧ upd f P (nI (v 0)) (7 + 5 * t) = nI fe
      rw [pk_un (by omega), pk_un (by omega), pk_un (by omega), pk_un (by omega)]
      exact h6 t ht'
    · show ∃ am, am ≤ 99 ∧ upd f P (nI (v 0)) (24 + z) = nI am
      rw [pk_un (by omega)]
      exact h7 z hz
    · show upd f P (nI (v 0)) (8 + 5 * t) = -4
      rw [pk_un (by omega)]
      exact h8 t ht
    · show upd f P (nI (v 0)) (28 + z) = -4
      rw [pk_un (by omega)]
      exact h9 z hz
    · show upd f P (nI (v 0)) 32 = 0
      rw [pk_un (by omega)]
      exact h10
  · rw [if_neg q4]
    by_cases q5 : w = 5
    · subst q5
      rw [if_pos rfl]
      have hZ : Z < 4 := hr
      have v0 : v 0 ≤ 99 := hv 0 (by decide)
      refine ⟨⟨h1, h2, by show Z + 1 ≤ 4; omega, h4⟩, fun p hp => ?_, fun t ht => ?_, fun z hz => ?_, fun t ht => ?_, fun z hz => ?_, ?_, h11⟩
      · have hp' : p < P := hp
        show ∃ x, x ≤ 99 ∧ upd f (24 + Z) (nI (v 0)) p = nI x
        rw [pk_un (by omega)]
        exact h5 p hp'
      · have ht' : t < T := ht
        show ∃ kd a c fe, kd < 4 ∧ a < 4 ∧ c < 4 ∧ fe ≤ 9 ∧ upd f (24 + Z) (nI (v 0)) (4 + 5 * t) = nI kd ∧ upd f (24 + Z) (nI (v 0)) (5 + 5 * t) = nI a ∧ upd f (24 + Z) (nI (v 0)) (6 + 5 * t) = nI c ∧ upd f (24 + Z) (nI (v 0)) (7 + 5 * t) = nI fe
        rw [pk_un (by omega), pk_un (by omega), pk_un (by omega), pk_un (by omega)]
        exact h6 t ht'
      · show ∃ am, am ≤ 99 ∧ upd f (24 + Z) (nI (v 0)) (24 + z) = nI am
        by_cases e : z = Z
        · rw [e, pk_us]
          exact ⟨v 0, v0, rfl⟩
        · rw [pk_un (by omega)]
          exact h7 z hz
      · show upd f (24 + Z) (nI (v 0)) (8 + 5 * t) = -4
        rw [pk_un (by omega)]
        exact h8 t ht
      · show upd f (24 + Z) (nI (v 0)) (28 + z) = -4
        rw [pk_un (by omega)]
        exact h9 z hz
      · show upd f (24 + Z) (nI (v 0)) 32 = 0
        rw [pk_un (by omega)]
        exact h10
    · rw [if_neg q5]
      by_cases q6 : w = 6
      · subst q6
        rw [if_pos rfl]
        have hD : D < 4 := hr
        have v0 : v 0 ≤ 3 := hv 0 (by decide)
        have v1 : v 1 ≤ 3 := hv 1 (by decide)
        refine ⟨⟨h1, h2, h3, by show D + 1 ≤ 4; omega⟩, h5, h6, h7, h8, h9, h10, fun i hi => ?_⟩
        have hi' : i < D + 1 := hi
        show (∃ x, x < 4 ∧ upd (upd g (2 * D) (nI (v 0))) (2 * D + 1) (nI (v 1)) (2 * i) = nI x) ∧ ∃ y, y < 4 ∧ upd (upd g (2 * D) (nI (v 0))) (2 * D + 1) (nI (v 1)) (2 * i + 1) = nI y
        by_cases e : i = D
        · rw [e, pk_un (by omega), pk_us, pk_us]
          exact ⟨⟨v 0, by omega, rfl⟩, v 1, by omega, rfl⟩
        · rw [pk_un (by omega), pk_un (by omega), pk_un (by omega), pk_un (by omega)]
          exact h11 i (by omega)
      · rw [if_neg q6]
        have hT : T < 4 := by
          unfold tTold at hr
          rw [if_neg q4, if_neg q5, if_neg q6] at hr
          exact hr
        have h3' : tHm w = 3 := by
          unfold tHm
          rw [if_neg q4, if_neg q5, if_neg q6]
        have bd : ∀ i, tBd w i = if i = 2 then 9 else 3 := fun i => by
          unfold tBd
          rw [if_neg q4, if_neg q5, if_neg q6]
        have v0 : v 0 ≤ 3 := by have := hv 0 (by omega); rw [bd, if_neg (by decide)] at this; exact this
        have v1 : v 1 ≤ 3 := by have := hv 1 (by omega); rw [bd, if_neg (by decide)] at this; exact this
        have v2 : v 2 ≤ 9 := by have := hv 2 (by omega); rw [bd, if_pos rfl] at this; exact this
        generalize hf : upd (upd (upd (upd f (4 + 5 * T) (nI w)) (5 + 5 * T) (nI (v 0))) (6 + 5 * T) (nI (v 1))) (7 + 5 * T) (nI (v 2)) = f'
        have u : ∀ y, y < 4 + 5 * T ∨ 8 + 5 * T ≤ y → f' y = f y := fun y hy => by
          rw [← hf, pk_un (by omega), pk_un (by omega), pk_un (by omega), pk_un (by omega)]
        refine ⟨⟨h1, by show T + 1 ≤ 4; omega, h3, h4⟩, fun p hp => ?_, fun t ht => ?_, fun z hz => ?_, fun t ht => ?_, fun z hz => ?_, ?_, h11⟩
        · have hp' : p < P := hp
          show ∃ x, x ≤ 99 ∧ f' p = nI x
          rw [u p (by omega)]
          exact h5 p hp'
        · have ht' : t < T + 1 := ht
          show ∃ kd a c fe, kd < 4 ∧ a < 4 ∧ c < 4 ∧ fe ≤ 9 ∧ f' (4 + 5 * t) = nI kd ∧ f' (5 + 5 * t) = nI a ∧ f' (6 + 5 * t) = nI c ∧ f' (7 + 5 * t) = nI fe
          by_cases e : t = T
          · subst e
            refine ⟨w, v 0, v 1, v 2, by omega, by omega, by omega, by omega, ?_, ?_, ?_, ?_⟩
            · rw [← hf, pk_un (by omega), pk_un (by omega), pk_un (by omega), pk_us]
            · rw [← hf, pk_un (by omega), pk_un (by omega), pk_us]
            · rw [← hf, pk_un (by omega), pk_us]
            · rw [← hf, pk_us]
          · rw [u _ (by omega), u _ (by omega), u _ (by omega), u _ (by omega)]
            exact h6 t (by omega)
        · show ∃ am, am ≤ 99 ∧ f' (24 + z) = nI am
          rw [u _ (by omega)]
          exact h7 z hz
        · show f' (8 + 5 * t) = -4
          rw [u _ (by omega)]
          exact h8 t ht
        · show f' (28 + z) = -4
          rw [u _ (by omega)]
          exact h9 z hz
        · show f' 32 = 0
          rw [u _ (by omega)]
          exact h10
theorem ln_ok {n p p' : Nat} {b : Nat → Nat} {A A' : tD} (hp : p ≤ n) (hV : aV A) (h : lnO n b p A = some (.inr (p', A'))) : p + 2 ≤ p' ∧ p' ≤ n ∧ aV A' := by
  unfold lnO at h
  by_cases q0 : tkK n b p = 0
  · rw [if_pos q0] at h
    cases h
  · rw [if_neg q0] at h
    by_cases q4 : tkK n b p = 4
    · rw [if_pos q4] at h
      cases h
    · rw [if_neg q4] at h
      by_cases q1 : tkK n b p = 1 ∧ ¬ lw b (tkS n b p) (tkE n b p) = -4
      · rw [if_pos q1] at h
        obtain ⟨w, hw, ew⟩ := lw_in q1.2
        rw [ew, pm_cl4 (by omega)] at h
        by_cases qr : tTold A w < 4
        · rw [if_pos qr] at h
          have h := Option.some.inj h
          unfold lnR at h
          have g1 := tkE_gt (n := n) (p := p) (b := b) (Or.inl q1.1)
          have nk := nm_ok (n := n) (w := w) (b := b) (tHm w) 0 (tkE n b p) (fun _ => 0)
          revert h nk
          cases nmO n b w (tHm w) 0 (tkE n b p) (fun _ => 0) with
          | inl z => exact fun h _ => by cases h
          | inr z =>
            obtain ⟨p1, v1⟩ := z
            intro h nk
            obtain ⟨r1, r2, r3, r4⟩ := nk p1 v1 rfl (tkE_le hp)
            dsimp only at h
            by_cases qs : tkf n b p1 3 = 0
            · rw [if_pos qs] at h
              have h := Sum.inr.inj h
              obtain ⟨e1, e2⟩ := Prod.mk.inj h
              have g2 := tkE_gt (n := n) (p := p1) (b := b) (Or.inr (tkf_0 qs))
              have g3 := tkE_le (b := b) r2
              rw [← e1, ← e2]
              exact ⟨by omega, g3, aV_put hV hw qr (fun j hj => r4 j (by omega) (by omega))⟩
            · rw [if_neg qs] at h
              cases h
        · rw [if_neg qr] at h
          cases h
      · rw [if_neg q1] at h
        cases h
def tlO (n : Nat) (b : Nat → Nat) : Nat → Nat → tD → Nat → (Nat × Nat) ⊕ (Nat × tD)
  | 0, _, A, l => .inr (l, A)
  | m + 1, p, A, l => match lnO n b p A with
    | none => .inr (l, A)
    | some (.inl f) => .inl f
    | some (.inr (p', A')) => tlO n b m p' A' (l + 1)
def tlC (M M' : pm_M) (l : Nat) : (Nat × Nat) ⊕ (Nat × tD) → Prop
  | .inl (c, a) => (∃ l', ∀ Q : Option pm_V → pm_M → Prop, pm_G mTe_tell 47 [some (pm_r 23 0), some (pm_r 21 0), some (pm_r 4 1), some (pm_i (nI l')), none] [] M' Q → pm_G mTe_tell 25 [some (pm_r 23 0), some (pm_r 21 0), some (pm_r 4 1), some (pm_i (nI l)), none] [] M Q) ∧ M'.1 23 0 0 = nI c ∧ M'.1 23 0 1 = nI a
  | .inr (l', A') => (∀ Q : Option pm_V → pm_M → Prop, pm_G mTe_tell 47 [some (pm_r 23 0), some (pm_r 21 0), some (pm_r 4 1), some (pm_i (nI l')), none] [] M' Q → pm_G mTe_tell 25 [some (pm_r 23 0), some (pm_r 21 0), some (pm_r 4 1), some (pm_i (nI l)), none] [] M Q) ∧ M'.1 23 0 0 = 0 ∧ cD M' A' ∧ aV A' ∧ l' ≤ 80
theorem c_lines {n : Nat} {b : Nat → Nat} : ∀ (m p : Nat) (A : tD) (l : Nat) (M : pm_M), n < p + 2 * m → 2 * l ≤ p → p ≤ n → tp M n b → M.1 21 0 2 = nI p → cD M A → aV A → M.1 23 0 0 = 0 → ∃ M', cf M M' ∧ M'.1 21 0 1 = nI n ∧ tlC M M' l (tlO n b m p A l)
  | 0, p, A, l, M, hm, hl, hp, h, h2, hd, hV, h0 => by omega
  | m + 1, p, A, l, M, hm, hl, hp, h, h2, hd, hV, h0 => by
    have hn := h.1
    obtain ⟨M1, k1, k2, k3⟩ := c_takeLine h hp h2 hd hV.1
    have le : ¬ (160 : Int32) ≤ nI l := fun x => by
      have := (pm_le4 (a := 160) (b := l) (by omega) (by omega)).mp x
      omega
    have lk : ∀ (p' : Nat) (A' : tD), lnO n b p A = some (.inr (p', A')) → p + 2 ≤ p' ∧ p' ≤ n ∧ aV A' := fun p' A' => ln_ok hp hV
    rw [tlO]
    revert k3 lk
    cases lnO n b p A with
    | none =>
      intro k3 _
      exact ⟨M1, k1, k2, fun Q kk => bTe_tell_25 (fun c => absurd c le) (fun _ => bTe_tell_32 k3.1 (bTe_tell_38 (fun _ => kk) (fun c => absurd rfl c))), by rw [k3.2.1]; exact h0, k3.2.2, hV, by omega⟩
    | some z =>
      cases z with
      | inl f =>
        obtain ⟨c, a⟩ := f
        intro k3 _
        exact ⟨M1, k1, k2, ⟨l, fun Q kk => bTe_tell_25 (fun c => absurd c le) (fun _ => bTe_tell_32 k3.1 (bTe_tell_38 (fun _ => kk) (fun c => absurd rfl c)))⟩, k3.2⟩
      | inr z =>
        obtain ⟨p', A'⟩ := z
        intro k3 lk
        obtain ⟨g1, g2, g3⟩ := lk _ _ rfl
        obtain ⟨s1, s2, s3, s4, s5, s6⟩ := k3
        obtain ⟨M', r1, r2, r3⟩ := c_lines m p' A' (l + 1) M1 (by omega) (by omega) g2 s3 s4 s5 g3 (by rw [s6]; exact h0)
        have go : ∀ (l' : Nat) (Q : Option pm_V → pm_M → Prop), (pm_G mTe_tell 47 [some (pm_r 23 0), some (pm_r 21 0), some (pm_r 4 1), some (pm_i (nI l')), none] [] M' Q → pm_G mTe_tell 25 [some (pm_r 23 0), some (pm_r 21 0), some (pm_r 4 1), some (pm_i (nI (l + 1))), none] [] M1 Q) → pm_G mTe_tell 47 [some (pm_r 23 0), some (pm_r 21 0), some (pm_r 4 1), some (pm_i (nI l')), none] [] M' Q → pm_G mTe_tell 25 [some (pm_r 23 0), some (pm_r 21 0), some (pm_r 4 1), some (pm_i (nI l)), none] [] M Q := fun l' Q r kk => bTe_tell_25 (fun c => absurd c le) (fun _ => bTe_tell_32 s1 (bTe_tell_38 (fun c => absurd c (by decide)) (fun _ => bTe_tell_41 (by rw [nI_1]; exact r kk))))
        refine ⟨M', cf_trans k1 r1, r2, ?_⟩
        dsimp only
        revert r3
        cases tlO n b m p' A' (l + 1) with
        | inl f =>
          obtain ⟨c, a⟩ := f
          exact fun r3 => ⟨⟨r3.1.choose, fun Q kk => go _ Q (r3.1.choose_spec Q) kk⟩, r3.2⟩
        | inr z =>
          obtain ⟨l', A''⟩ := z
          exact fun r3 => ⟨fun Q kk => go _ Q (r3.1 Q) kk, r3.2⟩
def tlM (M M' : pm_M) (n l : Nat) : (Nat × Nat) ⊕ (Nat × tD) → Prop
  | .inl (c, a) => (∃ l', ∀ Q : Option pm_V → pm_M → Prop, pm_G mMo_text 44 [some (pm_r 29 0), some (pm_i (nI l'))] [] M' Q → pm_G mMo_text 20 [some (pm_r 29 0), some (pm_i (nI l))] [] M Q) ∧ rE c a (M'.1 29 0)
  | .inr (l', A') => (∀ Q : Option pm_V → pm_M → Prop, pm_G mMo_text 44 [some (pm_r 29 0), some (pm_i (nI l'))] [] M' Q → pm_G mMo_text 20 [some (pm_r 29 0), some (pm_i (nI l))] [] M Q) ∧ M'.1 29 0 18 = 0 ∧ M'.1 29 0 15 = nI n ∧ mD M' A' ∧ aV A'
theorem m_lines {n : Nat} {b : Nat → Nat} : ∀ (m p : Nat) (A : tD) (l : Nat) (M : pm_M), n < p + 2 * m → p ≤ n → tpm M n b → rS n b p (M.1 29 0) → mD M A → aV A → ∃ M', tch [29, 33, 34] M M' ∧ kq (M.1 29 0) (M'.1 29 0) ∧ tlM M M' n l (tlO n b m p A l)
  | 0, p, A, l, M, hm, hp, h, hS, hd, hV => by omega
  | m + 1, p, A, l, M, hm, hp, h, hS, hd, hV => by
    have hk := tkK_le (n := n) (p := p) (b := b)
    rw [tlO]
    by_cases q4 : tkK n b p = 4
    · have hE := rS_4 hS q4
      have e : lnO n b p A = some (.inl (1, tkS n b p)) := by
        unfold lnO
        rw [if_neg (by omega), if_pos q4]
      rw [e]
      exact ⟨M, tch_rfl, fun _ _ => rfl, ⟨l, fun Q kk => bMo_text_20 (fun c => absurd c (rE_pos hE).1) (fun _ => kk)⟩, hE⟩
    · obtain ⟨r14, r16, r18, r17⟩ := hS.2.1 q4
      by_cases q0 : tkK n b p = 0
      · have e : lnO n b p A = none := by
          unfold lnO
          rw [if_pos q0]
        rw [e]
        have hs : tkS n b p = n := by
          have h1 := tkS_le (b := b) hp
          unfold tkK at q0
          by_cases x : n ≤ tkS n b p
          · omega
          · rw [if_neg x] at q0
            by_cases x2 : b (tkS n b p) = 59
            · rw [if_pos x2] at q0
              omega
            · rw [if_neg x2] at q0
              by_cases x3 : tx_lt b (tkS n b p) = true
              · rw [if_pos x3] at q0
                omega
              · rw [if_neg x3] at q0
                split at q0 <;> omega
        exact ⟨M, tch_rfl, fun _ _ => rfl, fun Q kk => bMo_text_20 (fun _ => bMo_text_27 (fun _ => kk) (fun c => absurd (by rw [r16, q0]; rfl) c)) (fun c => absurd r18 c), r18, by rw [hS.1, hs], hd, hV⟩
      · obtain ⟨M1, k1, k2, k3, k4⟩ := m_readLine h hp hS hd hV.1 q0 q4
        have n0 : ¬ M.1 29 0 16 = 0 := by
          rw [r16]
          exact fun x => q0 ((pm_eq4 (a := tkK n b p) (b := 0) (by omega) (by omega)).mp x)
        have step : ∀ Q : Option pm_V → pm_M → Prop, pm_G mMo_text 20 [some (pm_r 29 0), some (pm_i (nI (l + 1)))] [] M1 Q → pm_G mMo_text 20 [some (pm_r 29 0), some (pm_i (nI l))] [] M Q := fun Q kk => bMo_text_20 (fun _ => bMo_text_27 (fun c => absurd c n0) (fun _ => bMo_text_34 k1 (bMo_text_38 (by rw [nI_1]; exact kk)))) (fun c => absurd r18 c)
        have lk : ∀ (p' : Nat) (A' : tD), lnO n b p A = some (.inr (p', A')) → p + 2 ≤ p' ∧ p' ≤ n ∧ aV A' := fun p' A' => ln_ok hp hV
        revert k4 lk
        cases lnO n b p A with
        | none => exact fun k4 _ => k4.elim
        | some z =>
          cases z with
          | inl f =>
            obtain ⟨c, a⟩ := f
            intro k4 _
            exact ⟨M1, k2, k3, ⟨l + 1, fun Q kk => step Q (bMo_text_20 (fun c => absurd c (rE_pos k4).1) (fun _ => kk))⟩, k4⟩
          | inr z =>
            obtain ⟨p', A'⟩ := z
            intro k4 lk
            obtain ⟨g1, g2, g3⟩ := lk _ _ rfl
            obtain ⟨s1, s2, s3⟩ := k4
            have tp1 : tpm M1 n b := ⟨h.1, by rw [k3 13 (by omega)]; exact h.2.1, fun j hj => by rw [k2 35 0 (by decide)]; exact h.2.2 j hj⟩
            obtain ⟨M', r1, r2, r3⟩ := m_lines m p' A' (l + 1) M1 (by omega) g2 tp1 s2 s3 g3
            refine ⟨M', tch_trans k2 r1, kq_trans k3 r2, ?_⟩
            dsimp only
            revert r3
            cases tlO n b m p' A' (l + 1) with
            | inl f =>
              obtain ⟨c, a⟩ := f
              exact fun r3 => ⟨⟨r3.1.choose, fun Q kk => step Q (r3.1.choose_spec Q kk)⟩, r3.2⟩
            | inr z =>
              obtain ⟨l', A''⟩ := z
              exact fun r3 => ⟨fun Q kk => step Q (r3.1 Q kk), r3.2⟩
