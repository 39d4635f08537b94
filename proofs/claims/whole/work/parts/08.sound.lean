theorem pm_sixlt : ∀ i j : Nat, pm_six.findIdx? (fun q => q == i) = some j → j < 7 ∧ pm_six.getD j 0 = i := by
  intro i j h
  rw [List.findIdx?_eq_some_iff_getElem] at h
  obtain ⟨h1, h2, -⟩ := h
  refine ⟨h1, ?_⟩
  rw [List.getD_eq_getElem?_getD, List.getElem?_eq_getElem h1]
  simpa using h2
section PmU
variable {p : Program} {l : Launch} {e : Env} {R : Room} {s : State} {m : MethodId} {args : Array Value} {below : List Frame} {meth : Method} {c : Code} {cells slots : Nat} {Z : State → Prop} {D : va_G} {E : pm_E} {A : Nat → Prop} {xs : Nat → Int32} {L : Int32} {mi : pm_MI} {pc : Nat} {ls : pm_L} {st : List pm_V} {M : pm_M} {cs : List Prop} {s' : pm_S} {nL : Nat}
theorem pm_s_iald (C : pm_Cx mi p R s m args c cells slots D E A xs L) (hd : decode mi.2.2.1 pc = .ok (.iaload, 1)) (hs : pm_step mi.1 .iaload pc ls st M = some (cs, s')) (hc : pm_all cs) (kk : pm_J p l e R s m args below meth c cells slots Z D E A xs L nL s'.1 s'.2.1 s'.2.2.1 s'.2.2.2) : pm_J p l e R s m args below meth c cells slots Z D E A xs L nL pc ls st M := by
  obtain ⟨hx, hb, hml, hown, hts, hK, hSt, -, hA, hX⟩ := C
  simp only [pm_step] at hs
  split at hs
  · rename_i i t k r
    split at hs
    · rename_i q x hv
      cases hs
      intro H locs LS hW hF
      have hk : k < pm_cnt t := pm_ok_h (pm_ok_t hF.ok)
      have kk := kk H locs LS hW (hF.stk (pm_ok_c trivial (pm_ok_t (pm_ok_t hF.ok))))
      unfold pm_ia at hv
      split at hv
      · rename_i n hsh
        cases hv
        have ht := pm_sh_lt hsh
        obtain ⟨j, hj, -⟩ := pm_at E M ht hk
        have hent : pm_ent E M t k = .inl (E.2.2 0, n, .inl (M.1 t k)) := by unfold pm_ent; rw [hsh]
        rw [hent] at hj
        rw [List.map_cons, List.map_cons, pm_cv_r (by omega)]
        exact va_iald hx hb hK hW.1 j 0 hj rfl hc.1 hd kk
      · cases hv
      · split at hv
        · rename_i h51
          subst h51
          cases hv
          have hk0 : k = 0 := by have h1 : k < 1 := hk; omega
          subst hk0
          rw [List.map_cons, List.map_cons, pm_cv_r (by omega)]
          exact va_ti hx hb hSt.2.2.1 hW.2.2.1 hc.1 rfl hd kk
        · split at hv
          · rename_i h50
            obtain ⟨rfl, h7⟩ := h50
            cases hv
            have hk0 : k = 0 := by have h1 : k < 1 := hk; omega
            subst hk0
            obtain ⟨x1, x2, x3, x4⟩ := hX h7
            rw [List.map_cons, List.map_cons, pm_cv_r (by omega)]
            have hin : vp_in i L.toNatClampNeg := by have := hc.1; rw [hW.2.2.2.2] at this; exact this
            refine va_sld hx hb x1 x2 x3 hW.2.2.1 hin hd ?_
            rw [← hW.2.2.2.1]
            exact kk
          · cases hv
    · cases hs
  · cases hs
theorem pm_s_bald (C : pm_Cx mi p R s m args c cells slots D E A xs L) (hd : decode mi.2.2.1 pc = .ok (.baload, 1)) (hs : pm_step mi.1 .baload pc ls st M = some (cs, s')) (hc : pm_all cs) (kk : pm_J p l e R s m args below meth c cells slots Z D E A xs L nL s'.1 s'.2.1 s'.2.2.1 s'.2.2.2) : pm_J p l e R s m args below meth c cells slots Z D E A xs L nL pc ls st M := by
  obtain ⟨hx, hb, hml, hown, hts, hK, hSt, -, hA, hX⟩ := C
  simp only [pm_step] at hs
  split at hs
  · rename_i i t k r
    split at hs
    · rename_i q x hv
      cases hs
      intro H locs LS hW hF
      have hk : k < pm_cnt t := pm_ok_h (pm_ok_t hF.ok)
      have kk := kk H locs LS hW (hF.stk (pm_ok_c trivial (pm_ok_t (pm_ok_t hF.ok))))
      unfold pm_ba at hv
      split at hv
      · rename_i n hsh
        cases hv
        have ht := pm_sh_lt hsh
        obtain ⟨j, hj, -⟩ := pm_at E M ht hk
        have hent : pm_ent E M t k = .inl (E.2.2 1, n, .inl (M.1 t k)) := by unfold pm_ent; rw [hsh]
        rw [hent] at hj
        rw [List.map_cons, List.map_cons, pm_cv_r (by omega)]
        exact va_bald hx hb hK hW.1 j 1 hj rfl hc.1 hd kk
      · rename_i n hsh
        cases hv
        have ht := pm_sh_lt hsh
        obtain ⟨j, hj, -⟩ := pm_at E M ht hk
        have hent : pm_ent E M t k = .inl (E.2.2 2, n, .inl (M.1 t k)) := by unfold pm_ent; rw [hsh]
        rw [hent] at hj
        rw [List.map_cons, List.map_cons, pm_cv_r (by omega)]
        exact va_zald hx hb hK hW.1 j 2 hj rfl hc.1 hd kk
      · cases hv
      · split at hv
        · rename_i h53
          subst h53
          cases hv
          rw [List.map_cons, List.map_cons, pm_cv_r (by omega)]
          exact va_tb hx hb (hSt.2.2.2.2.2.2.1.1 k hk).2.2.2 hW.2.2.1 hc.1 rfl hd kk
        · cases hv
    · cases hs
  · cases hs
theorem pm_s_aald (C : pm_Cx mi p R s m args c cells slots D E A xs L) (hd : decode mi.2.2.1 pc = .ok (.aaload, 1)) (hs : pm_step mi.1 .aaload pc ls st M = some (cs, s')) (hc : pm_all cs) (kk : pm_J p l e R s m args below meth c cells slots Z D E A xs L nL s'.1 s'.2.1 s'.2.2.1 s'.2.2.2) : pm_J p l e R s m args below meth c cells slots Z D E A xs L nL pc ls st M := by
  obtain ⟨hx, hb, hml, hown, hts, hK, hSt, -, hA, hX⟩ := C
  simp only [pm_step] at hs
  split at hs
  · rename_i i t k r
    split at hs
    · rename_i ty n t' b hsh
      cases hs
      intro H locs LS hW hF
      have hk : k < pm_cnt t := pm_ok_h (pm_ok_t hF.ok)
      obtain ⟨h1, h2, h3⟩ := pm_arr hsh
      have hi := pm_in_lt hc.1
      have kk := kk H locs LS hW (hF.stk (pm_ok_c (show i.toNatClampNeg + b < pm_cnt t' by omega) (pm_ok_t (pm_ok_t hF.ok))))
      rw [List.map_cons, pm_cv_r (by omega)] at kk
      have ht := pm_sh_lt hsh
      obtain ⟨j, hj, -⟩ := pm_at E M ht hk
      have hent : pm_ent E M t k = .inl (E.2.2 ty, n, .inr (.inr (.inr (.inr (fun i => some (E.1 t' (i + b))))))) := by unfold pm_ent; rw [hsh]
      rw [hent] at hj
      rw [List.map_cons, List.map_cons, pm_cv_r (by omega)]
      rcases h3 with rfl | rfl
      · exact va_aldq hx hb hK hW.1 j 3 hj rfl hc.1 hd kk
      · exact va_aldq hx hb hK hW.1 j 4 hj rfl hc.1 hd kk
    · cases hs
  · cases hs
theorem pm_s_iast (C : pm_Cx mi p R s m args c cells slots D E A xs L) (hd : decode mi.2.2.1 pc = .ok (.iastore, 1)) (hs : pm_step mi.1 .iastore pc ls st M = some (cs, s')) (hc : pm_all cs) (kk : pm_J p l e R s m args below meth c cells slots Z D E A xs L nL s'.1 s'.2.1 s'.2.2.1 s'.2.2.2) : pm_J p l e R s m args below meth c cells slots Z D E A xs L nL pc ls st M := by
  obtain ⟨hx, hb, hml, hown, hts, hK, hSt, -, hA, hX⟩ := C
  simp only [pm_step] at hs
  split at hs
  · rename_i x i t k r
    split at hs
    · rename_i n hsh
      cases hs
      intro H locs LS hW hF
      have hk : k < pm_cnt t := pm_ok_h (pm_ok_t (pm_ok_t hF.ok))
      have ht := pm_sh_lt hsh
      obtain ⟨j, hj, hset⟩ := pm_at E M ht hk
      have hent : ∀ M : pm_M, pm_ent E M t k = .inl (E.2.2 0, n, .inl (M.1 t k)) := fun M => by unfold pm_ent; rw [hsh]
      rw [hent] at hj
      rw [List.map_cons, List.map_cons, List.map_cons, pm_cv_r (by omega)]
      refine va_iast hx hb hK hW.1 hW.2.1 hW.2.2.1 j 0 hj rfl hc.1 hd (fun H1 locs1 hP1 hD1 hS1 => ?_)
      have e1 := hset (pm_set M t k (upd (M.1 t k) i.toNatClampNeg x)) pm_ent_set
      rw [hent, pm_set_at] at e1
      rw [e1] at hP1
      exact kk H1 locs1 LS (hW.set hP1 hS1 (pm_set_ne _ _ (by omega)) (by rw [pm_set_ne _ _ (by omega)])) (hF.stk (pm_ok_t (pm_ok_t (pm_ok_t hF.ok))))
    · cases hs
  · cases hs
theorem pm_s_bast (C : pm_Cx mi p R s m args c cells slots D E A xs L) (hd : decode mi.2.2.1 pc = .ok (.bastore, 1)) (hs : pm_step mi.1 .bastore pc ls st M = some (cs, s')) (hc : pm_all cs) (kk : pm_J p l e R s m args below meth c cells slots Z D E A xs L nL s'.1 s'.2.1 s'.2.2.1 s'.2.2.2) : pm_J p l e R s m args below meth c cells slots Z D E A xs L nL pc ls st M := by
  obtain ⟨hx, hb, hml, hown, hts, hK, hSt, -, hA, hX⟩ := C
  simp only [pm_step] at hs
  split at hs
  · rename_i x i t k r
    split at hs
    · rename_i n hsh
      cases hs
      intro H locs LS hW hF
      have hk : k < pm_cnt t := pm_ok_h (pm_ok_t (pm_ok_t hF.ok))
      have ht := pm_sh_lt hsh
      obtain ⟨j, hj, hset⟩ := pm_at E M ht hk
      have hent : ∀ M : pm_M, pm_ent E M t k = .inl (E.2.2 1, n, .inl (M.1 t k)) := fun M => by unfold pm_ent; rw [hsh]
      rw [hent] at hj
      rw [List.map_cons, List.map_cons, List.map_cons, pm_cv_r (by omega)]
      refine va_bast hx hb hK hW.1 hW.2.1 hW.2.2.1 j 1 hj rfl hc.1 hd (fun H1 locs1 hP1 hD1 hS1 => ?_)
      have e1 := hset (pm_set M t k (upd (M.1 t k) i.toNatClampNeg (vp_nar .byte x))) pm_ent_set
      rw [hent, pm_set_at] at e1
      rw [e1] at hP1
      exact kk H1 locs1 LS (hW.set hP1 hS1 (pm_set_ne _ _ (by omega)) (by rw [pm_set_ne _ _ (by omega)])) (hF.stk (pm_ok_t (pm_ok_t (pm_ok_t hF.ok))))
    · rename_i n hsh
      cases hs
      intro H locs LS hW hF
      have hk : k < pm_cnt t := pm_ok_h (pm_ok_t (pm_ok_t hF.ok))
      have ht := pm_sh_lt hsh
      obtain ⟨j, hj, hset⟩ := pm_at E M ht hk
      have hent : ∀ M : pm_M, pm_ent E M t k = .inl (E.2.2 2, n, .inl (M.1 t k)) := fun M => by unfold pm_ent; rw [hsh]
      rw [hent] at hj
      rw [List.map_cons, List.map_cons, List.map_cons, pm_cv_r (by omega)]
      refine va_zast hx hb hK hW.1 hW.2.1 hW.2.2.1 j 2 hj rfl hc.1 hd (fun H1 locs1 hP1 hD1 hS1 => ?_)
      have e1 := hset (pm_set M t k (upd (M.1 t k) i.toNatClampNeg (vp_nar .boolean x))) pm_ent_set
      rw [hent, pm_set_at] at e1
      rw [e1] at hP1
      exact kk H1 locs1 LS (hW.set hP1 hS1 (pm_set_ne _ _ (by omega)) (by rw [pm_set_ne _ _ (by omega)])) (hF.stk (pm_ok_t (pm_ok_t (pm_ok_t hF.ok))))
    · cases hs
  · cases hs
theorem pm_s_alen (C : pm_Cx mi p R s m args c cells slots D E A xs L) (hd : decode mi.2.2.1 pc = .ok (.arraylength, 1)) (hs : pm_step mi.1 .arraylength pc ls st M = some (cs, s')) (kk : pm_J p l e R s m args below meth c cells slots Z D E A xs L nL s'.1 s'.2.1 s'.2.2.1 s'.2.2.2) : pm_J p l e R s m args below meth c cells slots Z D E A xs L nL pc ls st M := by
  obtain ⟨hx, hb, hml, hown, hts, hK, hSt, -, hA, hX⟩ := C
  simp only [pm_step] at hs
  split at hs
  · rename_i t k r
    split at hs
    · rename_i x hv
      cases hs
      intro H locs LS hW hF
      have hk : k < pm_cnt t := pm_ok_h hF.ok
      have kk := kk H locs LS hW (hF.stk (pm_ok_c trivial (pm_ok_t hF.ok)))
      unfold pm_al at hv
      split at hv
      · rename_i ty n hsh
        cases hv
        have ht := pm_sh_lt hsh
        obtain ⟨j, hj, -⟩ := pm_at E M ht hk
        have hent : pm_ent E M t k = .inl (E.2.2 ty, n, .inl (M.1 t k)) := by unfold pm_ent; rw [hsh]
        rw [hent] at hj
        rw [List.map_cons, pm_cv_r (by omega)]
        have h0 := pm_chks t ht
        unfold pm_chk at h0
        rw [hsh] at h0
        simp only [Bool.and_eq_true, decide_eq_true_eq] at h0
        have h3 : ty = 0 ∨ ty = 1 ∨ ty = 2 := by omega
        rcases h3 with rfl | rfl | rfl
        · exact va_alen hx hb hK hW.1 j 0 hj (ty := .int) rfl rfl hd kk
        · exact va_alen hx hb hK hW.1 j 1 hj (ty := .byte) rfl rfl hd kk
        · exact va_alen hx hb hK hW.1 j 2 hj (ty := .boolean) rfl rfl hd kk
      · rename_i ty n t' b hsh
        cases hv
        have ht := pm_sh_lt hsh
        obtain ⟨j, hj, -⟩ := pm_at E M ht hk
        have hent : pm_ent E M t k = .inl (E.2.2 ty, n, .inr (.inr (.inr (.inr (fun i => some (E.1 t' (i + b))))))) := by unfold pm_ent; rw [hsh]
        rw [hent] at hj
        rw [List.map_cons, pm_cv_r (by omega)]
        rcases (pm_arr hsh).2.2 with rfl | rfl
        · exact va_alen hx hb hK hW.1 j 3 hj (ty := .object "WheelTickets$Wheel") rfl rfl hd kk
        · exact va_alen hx hb hK hW.1 j 4 hj (ty := .object "WheelTickets$Sheet") rfl rfl hd kk
      · cases hv
      · split at hv
        · rename_i h51
          subst h51
          cases hv
          have hk0 : k = 0 := by have h1 : k < 1 := hk; omega
          subst hk0
          rw [List.map_cons, pm_cv_r (by omega)]
          exact va_tlen hx hb hSt.2.2.1 hW.2.2.1 rfl hd kk
        · split at hv
          · rename_i h53
            subst h53
            cases hv
            rw [List.map_cons, pm_cv_r (by omega)]
            exact va_tlen hx hb (hSt.2.2.2.2.2.2.1.1 k hk).2.2.2 hW.2.2.1 rfl hd kk
          · split at hv
            · rename_i h50
              obtain ⟨rfl, h7⟩ := h50
              cases hv
              have hk0 : k = 0 := by have h1 : k < 1 := hk; omega
              subst hk0
              obtain ⟨x1, x2, x3, x4⟩ := hX h7
              rw [List.map_cons, pm_cv_r (by omega)]
              refine va_slen hx hb x1 x2 x3 hW.2.2.1 hd ?_
              rw [x4, ← hW.2.2.2.2]
              exact kk
            · cases hv
    · cases hs
  · cases hs
theorem pm_s_gs (C : pm_Cx mi p R s m args c cells slots D E A xs L) {idx : Nat} (hd : decode mi.2.2.1 pc = .ok (.getstatic idx, 3)) (hs : pm_step mi.1 (.getstatic idx) pc ls st M = some (cs, s')) (kk : pm_J p l e R s m args below meth c cells slots Z D E A xs L nL s'.1 s'.2.1 s'.2.2.1 s'.2.2.2) : pm_J p l e R s m args below meth c cells slots Z D E A xs L nL pc ls st M := by
  obtain ⟨hx, hb, hml, hown, hts, hK, hSt, -, hA, hX⟩ := C
  refine pm_s_push (v := pm_gs mi.1 idx) (fun w hv H locs LS r hW hF => ?_) hs kk
  unfold pm_gs at hv
  split at hv
  · rename_i h0
    obtain ⟨h1, rfl⟩ := h0
    cases hv
    rw [h1] at hown
    refine ⟨show 0 < pm_cnt 51 from by decide, fun k => ?_⟩
    have hn := hSt.1 (.fieldLinkNest "WheelTickets$Rest" 87 "WheelTickets" "ORDERS" "[I" "WheelTickets") (by decide +kernel)
    exact va_getsN hx hb hSt.2.1 hW.2.2.1 hown (va_Nw.use rfl hn) (fun _ h => h) hd k
  · split at hv
    · rename_i h0
      obtain ⟨h1, rfl⟩ := h0
      cases hv
      rw [h1] at hown
      exact ⟨trivial, fun k => va_gets hx hb hSt.2.2.2.1 hW.2.2.1 hown (hts _ pm_w_cs) (fun _ h => h) hd k⟩
    · split at hv
      · rename_i h0
        obtain ⟨h1, rfl⟩ := h0
        cases hv
        rw [h1] at hown
        exact ⟨show 0 < pm_cnt 54 from by decide, fun k => va_gets hx hb hSt.2.2.2.2.1 hW.2.2.1 hown (hts _ pm_w_sf) (fun _ h => h) hd k⟩
      · cases hv
theorem pm_s_ldc (C : pm_Cx mi p R s m args c cells slots D E A xs L) {idx : Nat} (hd : decode mi.2.2.1 pc = .ok (.ldc idx, 2)) (hs : pm_step mi.1 (.ldc idx) pc ls st M = some (cs, s')) (kk : pm_J p l e R s m args below meth c cells slots Z D E A xs L nL s'.1 s'.2.1 s'.2.2.1 s'.2.2.2) : pm_J p l e R s m args below meth c cells slots Z D E A xs L nL pc ls st M := by
  obtain ⟨hx, hb, hml, hown, hts, hK, hSt, -, hA, hX⟩ := C
  refine pm_s_push (v := pm_ldc mi.1 idx) (fun w hv H locs LS r hW hF => ?_) hs kk
  unfold pm_ldc at hv
  split at hv
  · rename_i z hz
    cases hv
    exact ⟨trivial, fun k => lv_ldc hx hb hown (hts _ (pm_ic_ok hz)) hd k⟩
  · split at hv
    · rename_i h3
      obtain ⟨j, hj, rfl⟩ := Option.map_eq_some_iff.mp hv
      obtain ⟨h7, h8⟩ := pm_sixlt _ _ hj
      rw [h3] at hown
      refine ⟨h7, fun k => ?_⟩
      have hR := hSt.2.2.2.2.2.2.2 j h7
      rw [h8] at hR
      exact va_ldcS hx hb hown hR hd k
    · cases hv
/-- a step of the pure machine is a step of the machine -/
theorem pm_sound (hok : pm_ok0 mi) (C : pm_Cx mi p R s m args c cells slots D E A xs L) {i : Instr} (ht : pm_tab mi pc = some i) (hs : pm_step mi.1 i pc ls st M = some (cs, s')) (hc : pm_all cs) (kk : pm_J p l e R s m args below meth c cells slots Z D E A xs L nL s'.1 s'.2.1 s'.2.2.1 s'.2.2.2) : pm_J p l e R s m args below meth c cells slots Z D E A xs L nL pc ls st M := by
  have hd := pm_tab_ok hok ht
  have C0 := C
  obtain ⟨hx, hb, hml, hown, hts, hK, hSt, -, hA, hX⟩ := C
  have hE := hSt.cat
  cases i with
  | iconst z =>
    cases hs
    exact fun H locs LS hW hF => lv_iconst hx hb hd rfl (kk H locs LS hW (hF.stk (pm_ok_c trivial hF.ok)))
  | bipush z =>
    cases hs
    exact fun H locs LS hW hF => lv_bipush hx hb hd rfl (kk H locs LS hW (hF.stk (pm_ok_c trivial hF.ok)))
  | sipush z =>
    cases hs
    exact fun H locs LS hW hF => lv_sipush hx hb hd rfl (kk H locs LS hW (hF.stk (pm_ok_c trivial hF.ok)))
  | lconst z =>
    cases hs
    exact fun H locs LS hW hF => lv_lconst hx hb hd rfl (kk H locs LS hW (hF.stk (pm_ok_c trivial hF.ok)))
  | iload_n k =>
    refine pm_s_push (fun w hv H locs LS r hW hF => ?_) hs kk
    unfold pm_ldi at hv
    split at hv
    · rename_i x hx9
      cases hv
      exact ⟨trivial, fun k9 => lv_iload_n hx hb hd rfl (hF.2.2.2.1 _ _ hx9).1 k9⟩
    · cases hv
  | iload k =>
    refine pm_s_push (fun w hv H locs LS r hW hF => ?_) hs kk
    unfold pm_ldi at hv
    split at hv
    · rename_i x hx9
      cases hv
      exact ⟨trivial, fun k9 => lv_iload hx hb hd (hF.2.2.2.1 _ _ hx9).1 k9⟩
    · cases hv
  | lload_n k =>
    refine pm_s_push (fun w hv H locs LS r hW hF => ?_) hs kk
    unfold pm_ldl at hv
    split at hv
    · rename_i x hx9
      cases hv
      exact ⟨trivial, fun k9 => lv_lload_n hx hb hd rfl (hF.2.2.2.1 _ _ hx9).1 k9⟩
    · cases hv
  | lload k =>
    refine pm_s_push (fun w hv H locs LS r hW hF => ?_) hs kk
    unfold pm_ldl at hv
    split at hv
    · rename_i x hx9
      cases hv
      exact ⟨trivial, fun k9 => lv_lload hx hb hd (hF.2.2.2.1 _ _ hx9).1 k9⟩
    · cases hv
  | aload_n k =>
    refine pm_s_push (fun w hv H locs LS r hW hF => ?_) hs kk
    unfold pm_lda at hv
    split at hv
    · rename_i t j hx9
      split at hv
      · cases hv
      · rename_i h54
        cases hv
        have h9 := hF.2.2.2.1 _ _ hx9
        rw [pm_cv_r h54] at h9 ⊢
        exact ⟨h9.2, fun k9 => lv_aload_n hx hb hd rfl h9.1 k9⟩
    · cases hv
  | aload k =>
    refine pm_s_push (fun w hv H locs LS r hW hF => ?_) hs kk
    unfold pm_lda at hv
    split at hv
    · rename_i t j hx9
      split at hv
      · cases hv
      · rename_i h54
        cases hv
        have h9 := hF.2.2.2.1 _ _ hx9
        rw [pm_cv_r h54] at h9 ⊢
        exact ⟨h9.2, fun k9 => lv_aload hx hb hd h9.1 k9⟩
    · cases hv
  | istore_n k => exact pm_s_sti hE (fun H locs LS x r lv h1 h2 k9 => lv_istore_n hx hb hd rfl h1 h2 rfl k9) hs kk
  | istore k => exact pm_s_sti hE (fun H locs LS x r lv h1 h2 k9 => lv_istore hx hb hd h1 h2 rfl k9) hs kk
  | lstore_n k => exact pm_s_stl hE (fun H locs LS x r lv h1 h2 k9 => lv_lstore_n hx hb hd rfl h1 h2 rfl k9) hs kk
  | lstore k => exact pm_s_stl hE (fun H locs LS x r lv h1 h2 k9 => lv_lstore hx hb hd h1 h2 rfl k9) hs kk
  | astore_n k => exact pm_s_sta hE (fun H locs LS x r lv h1 h2 k9 => lv_astore_n hx hb hd rfl h1 h2 rfl k9) hs kk
  | astore k => exact pm_s_sta hE (fun H locs LS x r lv h1 h2 k9 => lv_astore hx hb hd h1 h2 rfl k9) hs kk
  | iinc k z =>
    simp only [pm_step] at hs
    split at hs
    · rename_i x hx9
      cases hs
      intro H locs LS hW hF
      have h9 : (k, Value.int x) ∈ pm_as E ls := pm_as_in (E := E) hx9
      obtain ⟨j, hj⟩ := List.getElem?_of_mem h9
      exact lv_iinc hx hb hd hF.has hj rfl (by rw [← hF.2.2.1]; exact (List.getElem?_eq_some_iff.mp hx9).1) rfl (fun LS' hl => kk H locs LS' hW (hF.st1 (v := pm_i (x + Int32.ofInt z)) hE trivial hl hF.ok))
    · cases hs
  | iadd => exact pm_s_bi (fun H locs LS x y r k9 => lv_iadd hx hb hd k9) hs kk
  | isub => exact pm_s_bi (fun H locs LS x y r k9 => lv_isub hx hb hd k9) hs kk
  | imul => exact pm_s_bi (fun H locs LS x y r k9 => lv_imul hx hb hd k9) hs kk
  | iand => exact pm_s_bi (fun H locs LS x y r k9 => lv_iand hx hb hd k9) hs kk
  | ior => exact pm_s_bi (fun H locs LS x y r k9 => lv_ior hx hb hd k9) hs kk
  | ishl => exact pm_s_bi (fun H locs LS x y r k9 => lv_ishl hx hb hd k9) hs kk
  | ishr => exact pm_s_bi (fun H locs LS x y r k9 => lv_ishr hx hb hd k9) hs kk
  | iushr => exact pm_s_bi (fun H locs LS x y r k9 => lv_iushr hx hb hd rfl k9) hs kk
  | idiv => exact pm_s_bd (fun H locs LS x y r hy k9 => lv_idiv hx hb hd hy k9) hs hc kk
  | irem => exact pm_s_bd (fun H locs LS x y r hy k9 => lv_irem hx hb hd hy k9) hs hc kk
  | ladd => exact pm_s_bl (fun H locs LS x y r k9 => lv_ladd hx hb hd k9) hs kk
  | lmul => exact pm_s_bl (fun H locs LS x y r k9 => lv_lmul hx hb hd k9) hs kk
  | ldiv => exact pm_s_bld (fun H locs LS x y r hy k9 => lv_ldiv hx hb hd hy k9) hs hc kk
  | lrem => exact pm_s_bld (fun H locs LS x y r hy k9 => lv_lrem hx hb hd hy k9) hs hc kk
  | lcmp => exact pm_s_lcmp (fun H locs LS x y r k9 => W.lcmp hx hb hd k9) hs kk
  | ineg => exact pm_s_ui (f := fun x => pm_i (-x)) (fun _ => trivial) (fun H locs LS x r k9 => lv_ineg hx hb hd k9) hs kk
  | i2l => exact pm_s_ui (f := fun x => pm_l x.toInt64) (fun _ => trivial) (fun H locs LS x r k9 => lv_i2l hx hb hd rfl k9) hs kk
  | i2b => exact pm_s_ui (f := fun x => pm_i x.toInt8.toInt32) (fun _ => trivial) (fun H locs LS x r k9 => lv_i2b hx hb hd rfl k9) hs kk
  | i2s => exact pm_s_ui (f := fun x => pm_i x.toInt16.toInt32) (fun _ => trivial) (fun H locs LS x r k9 => lv_i2s hx hb hd rfl k9) hs kk
  | i2c => exact pm_s_ui (f := fun x => pm_i (x.toUInt32 % 65536).toInt32) (fun _ => trivial) (fun H locs LS x r k9 => lv_i2c hx hb hd rfl k9) hs kk
  | lneg => exact pm_s_ul (f := fun x => pm_l (-x)) (fun _ => trivial) (fun H locs LS x r k9 => lv_lneg hx hb hd k9) hs kk
  | dup =>
    simp only [pm_step, pm_dup] at hs
    split at hs
    · split at hs
      · rename_i v r h1
        cases hs
        exact fun H locs LS hW hF => lv_dup hx hb hd (pm_cat hE h1) (kk H locs LS hW (hF.stk (pm_ok_c (pm_ok_h hF.ok) hF.ok)))
      · cases hs
    · cases hs
  | dup2 =>
    simp only [pm_step, pm_dup2] at hs
    split at hs
    · split at hs
      · rename_i v w r h1
        cases hs
        rw [Bool.and_eq_true] at h1
        exact fun H locs LS hW hF => lv_dup2_11 hx hb hd (pm_cat hE h1.1) (pm_cat hE h1.2) (kk H locs LS hW (hF.stk (pm_ok_c (pm_ok_h hF.ok) (pm_ok_c (pm_ok_h (pm_ok_t hF.ok)) hF.ok))))
      · cases hs
    · cases hs
  | pop =>
    simp only [pm_step, pm_pop] at hs
    split at hs
    · split at hs
      · rename_i v r h1
        cases hs
        exact fun H locs LS hW hF => lv_pop hx hb hd (pm_cat hE h1) (kk H locs LS hW (hF.stk (pm_ok_t hF.ok)))
      · cases hs
    · cases hs
  | goto off =>
    simp only [pm_step] at hs
    split at hs
    · rename_i h0
      cases hs
      exact fun H locs LS hW hF => lv_goto hx hb hd (pm_tgt h0) (kk H locs LS hW hF)
    · cases hs
  | ifCond q off =>
    cases q with
    | eq => exact pm_s_if (fun H locs LS x r tgt h9 k9 => lv_if_eq hx hb hd h9 (fun h => by rw [if_pos h] at k9; exact k9) (fun h => by rw [if_neg h] at k9; exact k9)) hs kk
    | ne => exact pm_s_if (f := fun x a b => if x = 0 then b else a) (fun H locs LS x r tgt h9 k9 => lv_if_ne hx hb hd h9 (fun h => by rw [if_neg h] at k9; exact k9) (fun h => by rw [if_pos h] at k9; exact k9)) hs kk
    | lt => exact pm_s_if (fun H locs LS x r tgt h9 k9 => lv_if_lt hx hb hd h9 (fun h => by rw [if_pos h] at k9; exact k9) (fun h => by rw [if_neg h] at k9; exact k9)) hs kk
    | ge => exact pm_s_if (fun H locs LS x r tgt h9 k9 => lv_if_ge hx hb hd h9 (fun h => by rw [if_pos h] at k9; exact k9) (fun h => by rw [if_neg h] at k9; exact k9)) hs kk
    | gt => exact pm_s_if (fun H locs LS x r tgt h9 k9 => lv_if_gt hx hb hd h9 (fun h => by rw [if_pos h] at k9; exact k9) (fun h => by rw [if_neg h] at k9; exact k9)) hs kk
    | le => exact pm_s_if (fun H locs LS x r tgt h9 k9 => lv_if_le hx hb hd h9 (fun h => by rw [if_pos h] at k9; exact k9) (fun h => by rw [if_neg h] at k9; exact k9)) hs kk
  | if_icmp q off =>
    cases q with
    | eq => exact pm_s_ic2 (fun H locs LS x y r tgt h9 k9 => lv_icmp_eq hx hb hd h9 (fun h => by rw [if_pos h] at k9; exact k9) (fun h => by rw [if_neg h] at k9; exact k9)) hs kk
    | ne => exact pm_s_ic2 (f := fun x y a b => if x = y then b else a) (fun H locs LS x y r tgt h9 k9 => lv_icmp_ne hx hb hd h9 (fun h => by rw [if_neg h] at k9; exact k9) (fun h => by rw [if_pos h] at k9; exact k9)) hs kk
    | lt => exact pm_s_ic2 (fun H locs LS x y r tgt h9 k9 => lv_icmp_lt hx hb hd h9 (fun h => by rw [if_pos h] at k9; exact k9) (fun h => by rw [if_neg h] at k9; exact k9)) hs kk
    | ge => exact pm_s_ic2 (fun H locs LS x y r tgt h9 k9 => lv_icmp_ge hx hb hd h9 (fun h => by rw [if_pos h] at k9; exact k9) (fun h => by rw [if_neg h] at k9; exact k9)) hs kk
    | gt => exact pm_s_ic2 (fun H locs LS x y r tgt h9 k9 => lv_icmp_gt hx hb hd h9 (fun h => by rw [if_pos h] at k9; exact k9) (fun h => by rw [if_neg h] at k9; exact k9)) hs kk
    | le => exact pm_s_ic2 (fun H locs LS x y r tgt h9 k9 => lv_icmp_le hx hb hd h9 (fun h => by rw [if_pos h] at k9; exact k9) (fun h => by rw [if_neg h] at k9; exact k9)) hs kk
  | getfield idx => exact pm_s_gf C0 hd hs kk
  | putfield idx => exact pm_s_pf C0 hd hs kk
  | getstatic idx => exact pm_s_gs C0 hd hs kk
  | ldc idx => exact pm_s_ldc C0 hd hs kk
  | ldc_w idx =>
    refine pm_s_push (fun w hv H locs LS r hW hF => ?_) hs kk
    obtain ⟨z, hz, rfl⟩ := Option.map_eq_some_iff.mp hv
    exact ⟨trivial, fun k9 => lv_ldcw hx hb hown (hts _ (pm_ic_ok hz)) hd k9⟩
  | ldc2_w idx =>
    refine pm_s_push (fun w hv H locs LS r hW hF => ?_) hs kk
    obtain ⟨z, hz, rfl⟩ := Option.map_eq_some_iff.mp hv
    exact ⟨trivial, fun k9 => lv_ldc2 hx hb hown (hts _ (pm_lc_ok hz)) hd k9⟩
  | iaload => exact pm_s_iald C0 hd hs hc kk
  | baload => exact pm_s_bald C0 hd hs hc kk
  | aaload => exact pm_s_aald C0 hd hs hc kk
  | iastore => exact pm_s_iast C0 hd hs hc kk
  | bastore => exact pm_s_bast C0 hd hs hc kk
  | arraylength => exact pm_s_alen C0 hd hs kk
  | _ => cases hs
theorem pm_runs (hok : pm_ok0 mi) (C : pm_Cx mi p R s m args c cells slots D E A xs L) : ∀ (n : Nat) {pc : Nat} {ls : pm_L} {st : List pm_V} {M : pm_M} {cs : List Prop} {s' : pm_S}, pm_run mi n pc ls st M = some (cs, s') → pm_all cs → pm_J p l e R s m args below meth c cells slots Z D E A xs L nL s'.1 s'.2.1 s'.2.2.1 s'.2.2.2 → pm_J p l e R s m args below meth c cells slots Z D E A xs L nL pc ls st M := by
  intro n
  induction n with
  | zero =>
    intro pc ls st M cs s' h _ kk
    cases h
    exact kk
  | succ n ih =>
    intro pc ls st M cs s' h hc kk
    rw [pm_run] at h
    split at h
    · rename_i i hi
      split at h
      · rename_i c1 pc1 ls1 st1 M1 h1
        split at h
        · rename_i c2 s2 h2
          cases h
          obtain ⟨a, b⟩ := pm_all_app hc
          exact pm_sound hok C hi h1 a (ih h2 b kk)
        · cases h
      · cases h
    · cases h
end PmU
