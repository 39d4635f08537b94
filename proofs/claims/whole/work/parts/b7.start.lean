set_option maxHeartbeats 4000000 in
set_option maxRecDepth 100000 in
/-- YOUR PART: from the entry, for every script of at most 320 ints, the law comes to its end with true -/
theorem whole_start {p : Program} {e : Env} {s : State} {m : MethodId} {below : List Frame} {meth : Method} {c : Code} (l : Launch) {b L : Nat} {xs : Nat → Int32} (hL : L ≤ 320) (C0 : lw_At p s m meth c b L xs) : W p l e room_1 s m #[Value.ref b] below meth c s.heap [] 0 0 (lw_Z below #[Value.ref b] s) (entryFrame m ([Value.ref b] : List Value).toArray 4) := by
  obtain ⟨hx, hb, hr, hml, hown, hts, hX, hbl, hlocks, hgv⟩ := id C0
  have htg : ∀ w ∈ pm_gw, w.before #[Value.ref b] s = true := fun w hw => hts w (st_gw hw)
  have hA : ∀ q : Nat, s.heap.size ≤ q → (fun q : Nat => s.heap.size ≤ q) q := fun _ h => h
  obtain ⟨D, cT, hK⟩ := st_K hts
  have hCX : cz_X s := st_X hts
  obtain ⟨tO, fm, adK, adV, hSt⟩ := st_St (A := fun q : Nat => s.heap.size ≤ q) hts hgv (fun a ha => Nat.not_le.mpr ha)
  have hS : va_S (fun q : Nat => s.heap.size ≤ q) s.heap s.heap [] := va_S.rf
  have hP : va_P D pm_cl [] s.heap := fun k q h => by simp at h
  have hD : va_D (fun q : Nat => s.heap.size ≤ q) [] := ⟨fun i j p q h => by simp at h, fun k q h => by simp at h⟩
  have hl := lv_entry ([.ref b]) (n := 4) (Nat.le_of_ble_eq_true rfl)
  rw [lg_entry_eq]
  generalize (lg_sl ([.ref b]) ++ List.replicate (4 - (lg_sl ([.ref b])).length) Slot.unset).toArray = ls at hl ⊢
  have hl : lv_has ls 4 [(0, .ref b)] := hl
  refine va_new (ci := 5) (fs := cz_d5) (C := pm_RN 5) (T := pm_TN 5) (N := pm_NN 5) hx hb htg (pm_cw 5 (by decide)) (pm_tN 5) (pm_ty 5 (by decide)) hown (hts _ (st_lw (w := Cond.classLink (pm_RN 7) 7 (pm_RN 5)) (by simp))) (hts _ (st_lw (w := Cond.instantiable (pm_RN 5) 9) (by simp))) (hts _ (st_lw (w := Cond.initialized (pm_RN 5)) (by simp))) hK hP hD hS hA (pm_clat 5 (by decide)) cz_df5 (Nat.le_of_ble_eq_true rfl) (Nat.le_of_ble_eq_true rfl) (pm_tab_ok ok_mLa_law (pc := 0) rfl) (fun q H hP hD hS => ?_)
  have hP : va_P D pm_cl [(q, .inr (5, cz_d5))] H := hP
  have hD : va_D (fun q : Nat => s.heap.size ≤ q) [(q, .inr (5, cz_d5))] := hD
  refine W.widen (k := 1) (n := 9) (by decide) (by decide) ?_
  refine lv_dup hx hb (pm_tab_ok ok_mLa_law (pc := 3) rfl) rfl ?_
  have hFc := va_free (wc := [(q, .inr (5, cz_d5))]) hD hS hA [0] rfl
  refine va_callv (va_runI (As := []) (rest := [.ref q]) ⟨hx, hb, hml, hown, htg⟩ (c_mWt_init l D cT q H.size) (cwI 0 htg (pm_gws ok_mWt_init) rfl rfl rfl (hts _ (st_lw (w := Cond.initialized (pm_RN 5)) (by simp))) (hts _ (st_lw (w := Cond.methodLink (pm_RN 7) 9 mWt_init.2.1) (by simp))) (hts _ (st_lw (w := Cond.instanceMethod mWt_init.2.1) (by simp))) rfl ⟨by decide +kernel, by decide +kernel, by decide +kernel⟩ ⟨Nat.le_of_ble_eq_true rfl, Nat.le_of_ble_eq_true rfl⟩) ⟨cz_blind, fun U hU hW => ⟨rfl, by rw [hU], by rw [hU]; exact hP, hD.weaken (fun _ _ _ _ => trivial), va_K.moved hW.alike hK, hCX.warm hW⟩⟩ rfl rfl hl.1 rfl (lv_room (Nat.le_of_ble_eq_true rfl)) (pm_tab_ok ok_mLa_law (pc := 4) rfl) ⟨Nat.le_of_ble_eq_true rfl, Nat.le_of_ble_eq_true rfl⟩) hS (fun q9 _ h => hFc q9 h) hFc (fun u t H1 locs1 ht hvm _ hB hz1 hk1 hS => ?_)
  obtain ⟨hP1, hD1⟩ := hB
  rw [ht] at hP1
  obtain ⟨hP, hD⟩ := va_join (wr := []) (w1 := cz_wWt cT q u) hP hD [0] [] rfl rfl (by decide) (by decide) hk1 hFc hP1 hD1
  obtain ⟨hP, hD⟩ := st_wd q u b tO adK adV fm cT xs (nI L) hP hD
  obtain ⟨E0, hE0⟩ : ∃ E0 : pm_E, E0 = st_E0 q u b tO adK adV fm cT := ⟨_, rfl⟩
  have e50 : E0.1 50 0 = b := by rw [hE0]; rfl
  have e0 : E0.1 0 0 = q := by rw [hE0]; rfl
  have eT : E0.2.2 = cT := by rw [hE0]; rfl
  have hSE : pm_St E0 (fun q : Nat => s.heap.size ≤ q) s s.heap := hSt E0 (by rw [hE0]; rfl) (by rw [hE0]; rfl) (by rw [hE0]; rfl) (by rw [hE0]; rfl)
  rw [← hE0] at hP hD
  have hK : va_K D pm_cl (pm_tys E0) s := by
    have : pm_tys E0 = cz_tys cT := by rw [← eT]; rfl
    rw [this]
    exact hK
  clear hSt hP1 hD1 hk1 hz1 hE0
  refine W.widen (k := 59) (n := 840) (by decide) (by decide) ?_
  refine lv_astore_n (lv' := [(1, .ref q), (0, .ref b)]) hx hb (pm_tab_ok ok_mLa_law (pc := 7) rfl) rfl hl (by decide) rfl (fun ls hl => ?_)
  refine va_new (ci := 6) (fs := cz_d6) (C := pm_RN 6) (T := pm_TN 6) (N := pm_NN 6) hx hb htg (pm_cw 6 (by decide)) (pm_tN 6) (pm_ty 6 (by decide)) hown (hts _ (st_lw (w := Cond.classLink (pm_RN 7) 10 (pm_RN 6)) (by simp))) (hts _ (st_lw (w := Cond.instantiable (pm_RN 6) 37) (by simp))) (hts _ (st_lw (w := Cond.initialized (pm_RN 6)) (by simp))) hK hP hD hS hA (pm_clat 6 (by decide)) cz_df6 (Nat.le_of_ble_eq_true rfl) (Nat.le_of_ble_eq_true rfl) (pm_tab_ok ok_mLa_law (pc := 8) rfl) (fun r H hP hD hS => ?_)
  have hP : va_P D pm_cl (st_w0 E0 r xs (nI L)) H := hP
  have hD : va_D (fun q : Nat => s.heap.size ≤ q) (st_w0 E0 r xs (nI L)) := hD
  refine W.widen (k := 60) (n := 877) (by decide) (by decide) ?_
  refine lv_dup hx hb (pm_tab_ok ok_mLa_law (pc := 11) rfl) rfl ?_
  have hin : ∀ q9, st_A E0 r H.size q9 → s.heap.size ≤ q9 := by
    intro q9 h
    rcases h with ⟨c9, h1, rfl⟩ | rfl | h
    · obtain ⟨k, hk⟩ := List.getElem?_of_mem h1
      have h2 : (st_wC E0 (st_M xs (nI L)))[k]? = some (E0.1 c9.1 c9.2, pm_ent E0 (st_M xs (nI L)) c9.1 c9.2) := by
        unfold st_wC
        rw [List.getElem?_map, hk]
        rfl
      exact hD.2 k _ (st_in0 h2).1
    · exact hD.2 _ _ (st_in1 E0 q9 xs (nI L))
    · exact Nat.le_trans hS.1 h
  refine va_callv (va_runI (As := []) (rest := [.ref r]) ⟨hx, hb, hml, hown, htg⟩ (st_Mo l D E0 r H.size xs (nI L)) (cwI 0 htg (pm_gws ok_mMo_init) rfl rfl rfl (hts _ (st_lw (w := Cond.initialized (pm_RN 6)) (by simp))) (hts _ (st_lw (w := Cond.methodLink (pm_RN 7) 12 mMo_init.2.1) (by simp))) (hts _ (st_lw (w := Cond.instanceMethod mMo_init.2.1) (by simp))) rfl ⟨by decide +kernel, by decide +kernel, by decide +kernel⟩ ⟨Nat.le_of_ble_eq_true rfl, Nat.le_of_ble_eq_true rfl⟩) ⟨st_blind, fun U hU hW => ⟨rfl, by rw [hU], by rw [hU]; exact hP, hD.weaken (fun _ _ _ _ => trivial), va_K.moved hW.alike hK, hCX.warm hW, by rw [hU]; exact ((hSE.kept (fun a h1 h2 => hS.2.1 a h1 h2)).warm hW).narrow hin⟩⟩ rfl rfl hl.1 rfl (lv_room (Nat.le_of_ble_eq_true rfl)) (pm_tab_ok ok_mLa_law (pc := 12) rfl) ⟨Nat.le_of_ble_eq_true rfl, Nat.le_of_ble_eq_true rfl⟩) hS (fun q9 _ h => hin q9 h) hin (fun u2 t H1 locs1 ht hvm hI hB hz1 hk1 hS => ?_)
  obtain ⟨hP1, hD1⟩ := hB
  rw [ht] at hP1
  refine W.widen (k := 74) (n := 1609) (by decide) (by decide) ?_
  refine lv_astore_n (lv' := [(2, .ref r), (1, .ref q), (0, .ref b)]) hx hb (pm_tab_ok ok_mLa_law (pc := 15) rfl) rfl hl (by decide) rfl (fun ls hl => ?_)
  refine st_end l hL C0 (E := st_E E0 r u2.1) (M := u2.2) (by decide) (by decide) e50 hK (st_St2 hSE rfl rfl rfl rfl) hP1 (hD1.weaken (fun _ _ _ h => hin _ h)) hS hI ?_
  rw [show (st_E E0 r u2.1).1 29 0 = r from rfl, show (st_E E0 r u2.1).1 0 0 = E0.1 0 0 from rfl, e0]
  exact hl
