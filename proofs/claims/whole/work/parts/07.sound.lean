theorem pm_w_cs : Cond.fieldLink "java/lang/String" 38 "java/lang/String" "COMPACT_STRINGS" "Z" ∈ pm_gw := pm_in (List.mem_of_getElem? (i := 310) (by decide +kernel)) (by decide +kernel)
theorem pm_w_sf : Cond.fieldLink "java/lang/String" 1053 "jdk/internal/util/Preconditions" "SIOOBE_FORMATTER" "Ljava/util/function/BiFunction;" ∈ pm_gw := pm_in (List.mem_of_getElem? (i := 326) (by decide +kernel)) (by decide +kernel)
theorem pm_w_sv : Cond.fieldLink "java/lang/String" 9 "java/lang/String" "value" "[B" ∈ pm_gw := pm_in (List.mem_of_getElem? (i := 1247) (by decide +kernel)) (by decide +kernel)
theorem pm_w_sc : Cond.fieldLink "java/lang/String" 15 "java/lang/String" "coder" "B" ∈ pm_gw := pm_in (List.mem_of_getElem? (i := 1248) (by decide +kernel)) (by decide +kernel)
theorem pm_TN1 : ∀ c, c < 7 → ∀ k, k < pm_NN c → (pm_TN c k).1 = pm_RN c := by decide +kernel
theorem pm_only29 : ∀ q ∈ pm_cells, q.1 = 29 → q.2 = 0 := by decide +kernel
theorem pm_St.cat {E : pm_E} {A : Nat → Prop} {U : State} {H : Heap} (h : pm_St E A U H) : E.2.1.category = 1 := by
  obtain ⟨-, -, -, -, -, h6, -⟩ := h
  rcases h6 with h | ⟨t, h⟩ <;> rw [h] <;> rfl
theorem pm_Wd.set {D : va_G} {E : pm_E} {A : Nat → Prop} {s : State} {xs : Nat → Int32} {L : Int32} {M M' : pm_M} {H H1 : Heap} {locs locs1 : List Loc} (h : pm_Wd D E A s xs L M H locs) (hP : va_P D pm_cl (pm_wl E M') H1) (hS : va_S A s.heap H1 locs1) (h50 : M'.1 50 0 = M.1 50 0) (h49 : M'.1 49 0 0 = M.1 49 0 0) : pm_Wd D E A s xs L M' H1 locs1 :=
  ⟨hP, pm_D_any h.2.1, hS, by rw [h50]; exact h.2.2.2.1, by rw [h49]; exact h.2.2.2.2⟩
theorem pm_set_ne (M : pm_M) {t k a b : Nat} (f : Nat → Int32) (h : t ≠ a) : (pm_set M t k f).1 a b = M.1 a b := by
  have : ¬ (a = t ∧ b = k) := fun q => h q.1.symm
  simp [pm_set, this]
section PmT
variable {p : Program} {l : Launch} {e : Env} {R : Room} {s : State} {m : MethodId} {args : Array Value} {below : List Frame} {meth : Method} {c : Code} {cells slots : Nat} {Z : State → Prop} {D : va_G} {E : pm_E} {A : Nat → Prop} {xs : Nat → Int32} {L : Int32} {mi : pm_MI} {pc : Nat} {ls : pm_L} {st : List pm_V} {M : pm_M} {cs : List Prop} {s' : pm_S}
theorem pm_s_gf (C : pm_Cx mi p R s m args c cells slots D E A xs L) {idx : Nat} (hd : decode mi.2.2.1 pc = .ok (.getfield idx, 3)) {nL : Nat} (hs : pm_step mi.1 (.getfield idx) pc ls st M = some (cs, s')) (kk : pm_J p l e R s m args below meth c cells slots Z D E A xs L nL s'.1 s'.2.1 s'.2.2.1 s'.2.2.2) : pm_J p l e R s m args below meth c cells slots Z D E A xs L nL pc ls st M := by
  obtain ⟨hx, hb, hml, hown, hts, hK, hSt, -, hA, -⟩ := C
  simp only [pm_step] at hs
  split at hs
  · rename_i t k r
    split at hs
    · rename_i v hv
      cases hs
      intro H locs LS hW hF
      have hk : k < pm_cnt t := pm_ok_h hF.ok
      unfold pm_gf at hv
      split at hv
      · rename_i ci kf hfl
        obtain ⟨hl1, h7, hkf⟩ := pm_fl_ok hfl
        split at hv
        · rename_i cj fs hsh
          split at hv
          · rename_i hcc
            subst hcc
            have ht := pm_sh_lt hsh
            obtain ⟨j, hj, -⟩ := pm_at E M ht hk
            have hent : pm_ent E M t k = .inr (ci, fs.mapIdx (fun i f => pm_fv E M t k i f)) := by unfold pm_ent; rw [hsh]
            rw [hent] at hj
            have key : ∀ (f : Nat × Nat × Nat), fs[kf]? = some f → pm_fv E M t k kf f = pm_cv E v → pm_okv v → W p l e R s m args below meth c H locs cells slots Z (F0 m pc LS ((pm_r t k :: r).map (pm_cv E))) := by
              intro f hf he hv9
              rw [List.map_cons, pm_cv_r (by omega)]
              exact va_get (D := D) (ci := ci) (v := pm_cv E v) (C := pm_RN ci) (T := pm_TN ci) (N := pm_NN ci) hx hb hts (pm_cw ci h7) hown hK hW.1 j hj (pm_clat ci h7) kf hkf (hts _ hl1) (fun _ h => by rw [pm_TN1 ci h7 kf hkf] at h; exact h) (by rw [List.getElem?_mapIdx, hf]; simp [he]) hd (kk H locs LS hW (hF.stk (pm_ok_c hv9 (pm_ok_t hF.ok))))
            split at hv
            · rename_i y z hf
              cases hv
              exact key _ hf rfl trivial
            · rename_i y z hf
              cases hv
              exact key _ hf rfl trivial
            · rename_i t' b hf
              cases hv
              have h9 := (pm_obj hsh).2.2.2.2 _ _ _ hf
              refine key _ hf ?_ ?_
              · rw [pm_cv_r (by omega)]; rfl
              · show k + b < pm_cnt t'
                omega
            · cases hv
          · cases hv
        · cases hv
      · split at hv
        · rename_i h8
          obtain ⟨ho, rfl⟩ := h8
          rw [List.map_cons, pm_cv_r (by omega)]
          rw [ho] at hown
          have hk7 : k < 7 := hk
          obtain ⟨hO, hco, hva, hT⟩ := hSt.2.2.2.2.2.2.1.1 k hk7
          split at hv
          · rename_i h9
            subst h9
            cases hv
            have := kk H locs LS hW (hF.stk (pm_ok_c (show k < pm_cnt 53 from hk7) (pm_ok_t hF.ok)))
            rw [List.map_cons, pm_cv_r (by omega)] at this
            exact vk_getf hx hb hva hW.2.2.1 hown (hts _ pm_w_sv) (fun _ h => h) hd this
          · split at hv
            · rename_i h9
              subst h9
              cases hv
              exact vk_getf hx hb hco hW.2.2.1 hown (hts _ pm_w_sc) (fun _ h => h) hd (kk H locs LS hW (hF.stk (pm_ok_c trivial (pm_ok_t hF.ok))))
            · cases hv
        · cases hv
    · cases hs
  · cases hs
theorem pm_s_pf (C : pm_Cx mi p R s m args c cells slots D E A xs L) {idx : Nat} (hd : decode mi.2.2.1 pc = .ok (.putfield idx, 3)) {nL : Nat} (hs : pm_step mi.1 (.putfield idx) pc ls st M = some (cs, s')) (kk : pm_J p l e R s m args below meth c cells slots Z D E A xs L nL s'.1 s'.2.1 s'.2.2.1 s'.2.2.2) : pm_J p l e R s m args below meth c cells slots Z D E A xs L nL pc ls st M := by
  obtain ⟨hx, hb, hml, hown, hts, hK, hSt, -, hA, -⟩ := C
  simp only [pm_step] at hs
  split at hs
  · rename_i v t k r
    split at hs
    · rename_i M' hv
      cases hs
      intro H locs LS hW hF
      have hk : k < pm_cnt t := pm_ok_h (pm_ok_t hF.ok)
      unfold pm_pf at hv
      split at hv
      · rename_i ci kf hfl
        obtain ⟨hl1, h7, hkf⟩ := pm_fl_ok hfl
        split at hv
        · rename_i cj fs hsh
          split at hv
          · rename_i hcc
            subst hcc
            have ht := pm_sh_lt hsh
            obtain ⟨j, hj, hset⟩ := pm_at E M ht hk
            have hent : pm_ent E M t k = .inr (ci, fs.mapIdx (fun i f => pm_fv E M t k i f)) := by unfold pm_ent; rw [hsh]
            have hent' : pm_ent E M' t k = .inr (ci, fs.mapIdx (fun i f => pm_fv E M' t k i f)) := by unfold pm_ent; rw [hsh]
            rw [hent] at hj
            obtain ⟨-, hlen, h0, h1, -⟩ := pm_obj hsh
            have key : (pm_TN ci kf).2.2.2 = false → narrow (pm_tN ci kf) (pm_cv E v) = pm_cv E v → fits (pm_tN ci kf) (pm_cv E v) = true → (fs.mapIdx (fun i f => pm_fv E M t k i f)).set kf (pm_cv E v) = fs.mapIdx (fun i f => pm_fv E M' t k i f) → (∀ q ∈ pm_cells, q ≠ (t, k) → pm_ent E M' q.1 q.2 = pm_ent E M q.1 q.2) → M'.1 50 0 = M.1 50 0 → M'.1 49 0 0 = M.1 49 0 0 → W p l e R s m args below meth c H locs cells slots Z (F0 m pc LS ((v :: pm_r t k :: r).map (pm_cv E))) := by
              intro q1 q2 q3 q4 q5 q6 q7
              rw [List.map_cons, List.map_cons, pm_cv_r (by omega)]
              refine va_put (D := D) (ci := ci) (v := pm_cv E v) (ty := pm_tN ci kf) (C := pm_RN ci) (T := pm_TN ci) (N := pm_NN ci) hx hb hts (pm_cw ci h7) (pm_tN ci) (pm_ty ci h7) (pm_nm ci h7) hown hK hW.1 hW.2.1 hW.2.2.1 j hj (pm_clat ci h7) kf hkf (hts _ hl1) (fun _ h => by rw [pm_TN1 ci h7 kf hkf] at h; exact h) q1 (pm_ty ci h7 kf hkf) q2 q3 (by simp [hlen]; exact hkf) hd (fun H1 locs1 hP1 hD1 hS1 => ?_)
              rw [q4, ← hent', hset M' q5] at hP1
              exact kk H1 locs1 LS (hW.set hP1 hS1 q6 q7) (hF.stk (pm_ok_t (pm_ok_t hF.ok)))
            split at hv
            · rename_i y z x hf
              cases hv
              obtain ⟨e1, e2⟩ := h0 _ _ _ hf
              refine key e2 (by rw [e1]; rfl) (by rw [e1]; rfl) ?_ pm_ent_set ?_ ?_
              · apply List.ext_getElem?
                intro i
                rw [List.getElem?_set]
                by_cases hi : kf = i
                · subst hi
                  rw [if_pos rfl, if_pos (by simp [hlen]; exact hkf)]
                  simp only [List.getElem?_mapIdx, hf, Option.map_some, pm_fv, pm_set_at, upd]
                  simp [pm_cv]
                · rw [if_neg hi]
                  simp only [List.getElem?_mapIdx]
                  cases fs[i]? with
                  | none => rfl
                  | some f =>
                    simp only [Option.map_some]
                    congr 1
                    unfold pm_fv
                    split
                    · simp only [pm_set_at, upd]
                      rw [if_neg (Ne.symm hi)]
                    · rfl
                    · rfl
              · exact pm_set_ne _ _ (by omega)
              · rw [pm_set_ne _ _ (by omega)]
            · rename_i y z x hf
              cases hv
              obtain ⟨e1, e2, e3⟩ := h1 _ _ _ hf
              refine key e2 (by rw [e1]; rfl) (by rw [e1]; rfl) ?_ ?_ rfl rfl
              · apply List.ext_getElem?
                intro i
                rw [List.getElem?_set]
                by_cases hi : kf = i
                · subst hi
                  rw [if_pos rfl, if_pos (by simp [hlen]; exact hkf)]
                  simp only [List.getElem?_mapIdx, hf, Option.map_some, pm_fv]
                  rfl
                · rw [if_neg hi]
                  simp only [List.getElem?_mapIdx]
                  cases hfi : fs[i]? with
                  | none => rfl
                  | some f =>
                    simp only [Option.map_some]
                    congr 1
                    unfold pm_fv
                    split
                    · rfl
                    · rename_i y' z'
                      exfalso
                      subst e3
                      have hsh' := hsh
                      simp only [pm_sh, Option.some.injEq, Sum.inl.injEq, Prod.mk.injEq] at hsh'
                      obtain ⟨-, rfl⟩ := hsh'
                      have a1 := (List.getElem?_eq_some_iff.mp hf).1
                      have a2 := (List.getElem?_eq_some_iff.mp hfi).1
                      simp only [List.length_cons, List.length_nil] at a1 a2
                      have only : ∀ n, n < 37 → ∀ y z, ([(2, 30, 0), (2, 31, 0), (2, 32, 0), (0, 0, 0), (0, 0, 0), (2, 33, 0), (0, 0, 0), (0, 0, 0), (0, 0, 0), (0, 0, 0), (2, 34, 0), (0, 0, 0), (2, 35, 0), (0, 0, 0), (0, 0, 0), (0, 0, 0), (0, 0, 0), (0, 0, 0), (0, 0, 0), (0, 0, 0), (2, 36, 0), (0, 0, 0), (0, 0, 0), (2, 37, 0), (2, 38, 0), (0, 0, 0), (0, 0, 0), (1, 0, 0), (0, 0, 0), (0, 0, 0), (0, 0, 0), (2, 39, 0), (2, 40, 0), (2, 41, 0), (2, 42, 0), (0, 0, 0), (2, 43, 0)] : List (Nat × Nat × Nat))[n]? = some (1, y, z) → n = 27 := by
                        intro n hn y z h
                        have h' := congrArg (fun o => o.map (fun q : Nat × Nat × Nat => q.1)) h
                        simp only [Option.map_some] at h'
                        revert h'
                        clear h
                        revert n
                        decide +kernel
                      have b1 := only _ a1 _ _ hf
                      have b2 := only _ a2 _ _ hfi
                      omega
                    · rfl
              · intro q hq hne
                have hq29 : q.1 ≠ 29 := by
                  intro h29
                  apply hne
                  subst e3
                  have : pm_cnt 29 = 1 := rfl
                  have hk0 : k = 0 := by omega
                  have hq0 := pm_only29 q hq h29
                  obtain ⟨a, b⟩ := q
                  simp_all
                unfold pm_ent
                split
                · rename_i cj gs hgs
                  congr 2
                  apply List.ext_getElem?
                  intro i
                  simp only [List.getElem?_mapIdx]
                  cases hgi : gs[i]? with
                  | none => rfl
                  | some f =>
                    simp only [Option.map_some]
                    congr 1
                    unfold pm_fv
                    split
                    · rfl
                    · exact absurd ((pm_obj hgs).2.2.2.1 _ _ _ hgi).2.2 hq29
                    · rfl
                · rfl
                · rfl
                · rfl
            · cases hv
          · cases hv
        · cases hv
      · cases hv
    · cases hs
  · cases hs
end PmT
