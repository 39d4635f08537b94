/-! the mean, the least, the most, the first -/
def zM (f : Nat → Int32) (T p : Nat) : Int := (f p).toInt * (re_parts (aL f T).length : Int) + sumZ (fun i => zF f T p i * ((aL f T).length : Int) * (((aL f T).length : Int) + 1) + sumZ (fun j => 2 * zS f T p i j) (aL f T).length) (aL f T).length
theorem aM_z (f : Nat → Int32) (T p : Nat) : aM f T p = Int32.ofInt (zM f T p) := by
  unfold aM zM
  rw [Int32.ofInt_add, Int32.ofInt_mul, Int32.ofInt_toInt, ← nI_oI]
  congr 1
  refine sumI_of (fun i _ => ?_)
  rw [Int32.ofInt_add, Int32.ofInt_mul, Int32.ofInt_mul, ← nI_oI]
  have h1 : nI (aL f T).length + 1 = Int32.ofInt (((aL f T).length : Int) + 1) := by rw [nI_1, nI_oI, Int.natCast_add]; rfl
  rw [← h1]
  unfold zF
  rw [Int32.ofInt_toInt]
  congr 1
  refine sumI_of (fun j _ => ?_)
  rw [Int32.ofInt_mul]
  unfold zS
  rw [Int32.ofInt_toInt]
  rfl
theorem zM_bd {f : Nat → Int32} {P T p : Nat} (hv : wv f P T) (hp : p < P) : (zM f T p).natAbs < 20000 := by
  have hn := (aN hv).1
  have h3 := purse_bd hv hp
  unfold zM
  have hs : (sumZ (fun i => zF f T p i * ((aL f T).length : Int) * (((aL f T).length : Int) + 1) + sumZ (fun j => 2 * zS f T p i j) (aL f T).length) (aL f T).length).natAbs ≤ (aL f T).length * 1872 := by
    refine sumZ_bd (fun i hi => ?_)
    have h1 := zF_bd (p := p) hv hi
    have h2 : (sumZ (fun j => 2 * zS f T p i j) (aL f T).length).natAbs ≤ (aL f T).length * 378 := sumZ_bd (fun j hj => by have := zS_bd (p := p) hv hi hj; omega)
    have h4 : (zF f T p i * ((aL f T).length : Int) * (((aL f T).length : Int) + 1)).natAbs ≤ 18 * 4 * 5 := by
      rw [Int.natAbs_mul, Int.natAbs_mul]
      exact Nat.mul_le_mul (Nat.mul_le_mul h1 (by omega)) (by omega)
    omega
  have hp8 : re_parts (aL f T).length ≤ 8 := by
    unfold re_parts
    split <;> omega
  have h5 : ((f p).toInt * (re_parts (aL f T).length : Int)).natAbs ≤ 1299 * 8 := by
    rw [Int.natAbs_mul]
    exact Nat.mul_le_mul h3 (by omega)
  omega
theorem wE_self {f f' : Nat → Int32} {T p : Nat} (eL : aL f' T = aL f T) : wE f f' T p = wE f' f' T p ∧ aW f T = aW f' T := by
  unfold wE aW
  rw [eL]
  exact ⟨rfl, rfl⟩
theorem wE_in {f : Nat → Int32} {P T w : Nat} (hv : wv f P T) (hw : w < aW f T) : rA (aL f T).length (w / md_fact (aL f T).length) < md_fact (aL f T).length ∧ rB (aL f T).length (w / md_fact (aL f T).length) (w % md_fact (aL f T).length) < md_fact (aL f T).length := by
  obtain ⟨hn4, hN24, hN1⟩ := aN hv
  obtain ⟨d1, d2⟩ := w_dm hN1 hw
  exact ⟨(rA_ok hn4 d1).1, (rB_ok hn4 d1 d2).1⟩
theorem wE_toInt {f : Nat → Int32} {P T p w : Nat} (hv : wv f P T) (hp : p < P) (hw : w < aW f T) : (wE f f T p w).toInt = zE f T p (rA (aL f T).length (w / md_fact (aL f T).length)) (rB (aL f T).length (w / md_fact (aL f T).length) (w % md_fact (aL f T).length)) := eW_toInt hv hp (wE_in hv hw).1 (wE_in hv hw).2
theorem wE_all {f : Nat → Int32} {P T o q : Nat} (hv : wv f P T) (ho : o < md_fact (aL f T).length) (hq : q < md_fact (aL f T).length) : ∃ w, w < aW f T ∧ rA (aL f T).length (w / md_fact (aL f T).length) = o ∧ rB (aL f T).length (w / md_fact (aL f T).length) (w % md_fact (aL f T).length) = q := by
  obtain ⟨hn4, hN24, hN1⟩ := aN hv
  have m1 := ((rA_perm hn4).mem_iff (a := o)).mpr (List.mem_range.mpr ho)
  obtain ⟨a, ha, ea⟩ := List.mem_map.mp m1
  have ha := List.mem_range.mp ha
  have m2 := ((rB_perm hn4 ha).mem_iff (a := q)).mpr (List.mem_range.mpr hq)
  obtain ⟨b, hb, eb⟩ := List.mem_map.mp m2
  have hb := List.mem_range.mp hb
  refine ⟨a * md_fact (aL f T).length + b, ?_, ?_⟩
  · unfold aW
    have : (a + 1) * md_fact (aL f T).length ≤ md_fact (aL f T).length * md_fact (aL f T).length := Nat.mul_le_mul_right _ ha
    rw [Nat.succ_mul] at this
    omega
  · have e1 : (a * md_fact (aL f T).length + b) / md_fact (aL f T).length = a := by
      rw [Nat.mul_comm, Nat.mul_add_div (by omega), Nat.div_eq_of_lt hb, Nat.add_zero]
    have e2 : (a * md_fact (aL f T).length + b) % md_fact (aL f T).length = b := by
      rw [Nat.mul_comm, Nat.mul_add_mod, Nat.mod_eq_of_lt hb]
    rw [e1, e2]
    exact ⟨ea, eb⟩
def zSum (f : Nat → Int32) (T p : Nat) : Int := sumZ (fun w => (wE f f T p w).toInt) (aW f T)
theorem sum_E {f : Nat → Int32} {P T p : Nat} (hv : wv f P T) (hp : p < P) : zSum f T p = (md_fact (aL f T).length : Int) * ((md_fact (aL f T).length : Int) * (f p).toInt) + ((md_fact (aL f T).length : Int) * sumZ (zA f T p) (md_fact (aL f T).length) + (md_fact (aL f T).length : Int) * sumZ (zB f T p) (md_fact (aL f T).length)) := by
  have hn := (aN hv).1
  unfold zSum
  rw [sumZ_congr (fun w hw => wE_toInt hv hp hw)]
  unfold aW
  rw [sumZ_rows (h := zE f T p) hn]
  have inner : ∀ o, sumZ (zE f T p o) (md_fact (aL f T).length) = (md_fact (aL f T).length : Int) * (f p).toInt + ((md_fact (aL f T).length : Int) * zA f T p o + sumZ (zB f T p) (md_fact (aL f T).length)) := by
    intro o
    show sumZ (fun q => (f p).toInt + (zA f T p o + zB f T p q)) _ = _
    rw [sumZ_add, sumZ_const, sumZ_add, sumZ_const]
  rw [sumZ_congr (fun o _ => inner o), sumZ_add, sumZ_const, sumZ_add, sumZ_mul, sumZ_const]
theorem mean_eq {f : Nat → Int32} {P T p : Nat} (hv : wv f P T) (hp : p < P) : zM f T p * (aW f T : Int) = zSum f T p * (re_parts (aL f T).length : Int) := by
  have hn := (aN hv).1
  have h24 := (aN hv).2.1
  rw [sum_E hv hp]
  have eA : sumZ (zA f T p) (md_fact (aL f T).length) = sumZ (fun r => sumZ (fun i => ((i : Int) + 1) * zF f T p (ro r i)) (aL f T).length) (md_fact (aL f T).length) := sumZ_congr (fun r hr => by
    unfold zA
    exact sumZ_congr (fun i hi => by rw [ro_eq (by omega) (by omega)]))
  have eB : sumZ (zB f T p) (md_fact (aL f T).length) = sumZ (fun r => sumZ (fun i => zS f T p i (ro r i)) (aL f T).length) (md_fact (aL f T).length) := sumZ_congr (fun r hr => by
    unfold zB
    exact sumZ_congr (fun i hi => by rw [ro_eq (by omega) (by omega)]))
  have hA := sumF (zF f T p) hn
  have hB := sumS (zS f T p) hn
  rw [← eA] at hA
  rw [← eB] at hB
  have eM : zM f T p = (f p).toInt * (re_parts (aL f T).length : Int) + ((((aL f T).length : Int) * (((aL f T).length : Int) + 1)) * sumZ (zF f T p) (aL f T).length + 2 * sumZ (fun i => sumZ (zS f T p i) (aL f T).length) (aL f T).length) := by
    unfold zM
    rw [sumZ_add]
    congr 2
    · rw [← sumZ_mul]
      exact sumZ_congr (fun i _ => by rw [Int.mul_assoc, Int.mul_comm])
    · rw [← sumZ_mul]
      exact sumZ_congr (fun i _ => by rw [sumZ_mul])
  have hz : (aL f T).length = 0 → sumZ (zF f T p) (aL f T).length = 0 ∧ sumZ (zB f T p) (md_fact (aL f T).length) = 0 ∧ sumZ (fun i => sumZ (zS f T p i) (aL f T).length) (aL f T).length = 0 := by
    intro h0
    have e : ∀ r, zB f T p r = 0 := fun r => by unfold zB; rw [h0]; rfl
    rw [sumZ_congr (h := fun _ => 0) (fun r _ => e r), sumZ_const, h0]
    exact ⟨rfl, by simp, rfl⟩
  rw [eM]
  unfold aW
  generalize sumZ (zA f T p) (md_fact (aL f T).length) = sA at hA ⊢
  generalize sumZ (zB f T p) (md_fact (aL f T).length) = sB at hB hz ⊢
  generalize sumZ (fun i => sumZ (zS f T p i) (aL f T).length) (aL f T).length = sS at hB hz ⊢
  generalize sumZ (zF f T p) (aL f T).length = sF at hA hz ⊢
  generalize (f p).toInt = x
  generalize (aL f T).length = n at hn hA hB hz ⊢
  rcases (show n = 0 ∨ n = 1 ∨ n = 2 ∨ n = 3 ∨ n = 4 by omega) with rfl | rfl | rfl | rfl | rfl
  all_goals
    simp only [md_fact, re_parts, Nat.reduceMul, Nat.reduceAdd, if_true, if_neg (show ¬ (1 : Nat) = 0 by decide), if_neg (show ¬ (2 : Nat) = 0 by decide), if_neg (show ¬ (3 : Nat) = 0 by decide), if_neg (show ¬ (4 : Nat) = 0 by decide)] at hA hB ⊢
    omega
-- extremes
theorem re_max_spec (g : Nat → Int32) : ∀ n, (∃ r, r ≤ n ∧ re_max g n = g r) ∧ ∀ r, r ≤ n → (g r).toInt ≤ (re_max g n).toInt
  | 0 => ⟨⟨0, Nat.le_refl _, rfl⟩, fun r hr => by rw [show r = 0 by omega]; exact Int.le_refl _⟩
  | n + 1 => by
    obtain ⟨⟨r, hr, e⟩, h⟩ := re_max_spec g n
    rw [re_max]
    unfold fMa_max
    by_cases q : re_max g n < g (n + 1)
    · rw [if_pos q]
      rw [Int32.lt_iff_toInt_lt] at q
      refine ⟨⟨n + 1, Nat.le_refl _, rfl⟩, fun i hi => ?_⟩
      by_cases e' : i = n + 1
      · rw [e']
        exact Int.le_refl _
      · have := h i (by omega)
        omega
    · rw [if_neg q]
      rw [Int32.lt_iff_toInt_lt] at q
      refine ⟨⟨r, by omega, e⟩, fun i hi => ?_⟩
      by_cases e' : i = n + 1
      · rw [e']
        omega
      · exact h i (by omega)
theorem re_min_spec (g : Nat → Int32) : ∀ n, (∃ r, r ≤ n ∧ re_min g n = g r) ∧ ∀ r, r ≤ n → (re_min g n).toInt ≤ (g r).toInt
  | 0 => ⟨⟨0, Nat.le_refl _, rfl⟩, fun r hr => by rw [show r = 0 by omega]; exact Int.le_refl _⟩
  | n + 1 => by
    obtain ⟨⟨r, hr, e⟩, h⟩ := re_min_spec g n
    rw [re_min]
    unfold fMa_min
    by_cases q : g (n + 1) < re_min g n
    · rw [if_pos q]
      rw [Int32.lt_iff_toInt_lt] at q
      refine ⟨⟨n + 1, Nat.le_refl _, rfl⟩, fun i hi => ?_⟩
      by_cases e' : i = n + 1
      · rw [e']
        exact Int.le_refl _
      · have := h i (by omega)
        omega
    · rw [if_neg q]
      rw [Int32.lt_iff_toInt_lt] at q
      refine ⟨⟨r, by omega, e⟩, fun i hi => ?_⟩
      by_cases e' : i = n + 1
      · rw [e']
        omega
      · exact h i (by omega)
theorem eHi_spec (e : Nat → Int32) : ∀ K, (∀ w, w < K → (e w).toInt ≤ (eHi e K).toInt) ∧ (eHi e K = -1000000 ∨ ∃ w, w < K ∧ eHi e K = e w)
  | 0 => ⟨fun w h => absurd h (Nat.not_lt_zero _), Or.inl rfl⟩
  | K + 1 => by
    obtain ⟨h1, h2⟩ := eHi_spec e K
    rw [eHi]
    by_cases q : e K ≤ eHi e K
    · rw [if_pos q]
      rw [Int32.le_iff_toInt_le] at q
      refine ⟨fun w hw => ?_, ?_⟩
      · by_cases e' : w = K
        · rw [e']
          exact q
        · exact h1 w (by omega)
      · rcases h2 with h2 | ⟨w, hw, h2⟩
        · exact Or.inl h2
        · exact Or.inr ⟨w, by omega, h2⟩
    · rw [if_neg q]
      rw [Int32.le_iff_toInt_le] at q
      refine ⟨fun w hw => ?_, Or.inr ⟨K, by omega, rfl⟩⟩
      by_cases e' : w = K
      · rw [e']
        exact Int.le_refl _
      · have := h1 w (by omega)
        omega
theorem eLo_spec (e : Nat → Int32) : ∀ K, (∀ w, w < K → (eLo e K).toInt ≤ (e w).toInt) ∧ (eLo e K = 1000000 ∨ ∃ w, w < K ∧ eLo e K = e w)
  | 0 => ⟨fun w h => absurd h (Nat.not_lt_zero _), Or.inl rfl⟩
  | K + 1 => by
    obtain ⟨h1, h2⟩ := eLo_spec e K
    rw [eLo]
    by_cases q : eLo e K ≤ e K
    · rw [if_pos q]
      rw [Int32.le_iff_toInt_le] at q
      refine ⟨fun w hw => ?_, ?_⟩
      · by_cases e' : w = K
        · rw [e']
          exact q
        · exact h1 w (by omega)
      · rcases h2 with h2 | ⟨w, hw, h2⟩
        · exact Or.inl h2
        · exact Or.inr ⟨w, by omega, h2⟩
    · rw [if_neg q]
      rw [Int32.le_iff_toInt_le] at q
      refine ⟨fun w hw => ?_, Or.inr ⟨K, by omega, rfl⟩⟩
      by_cases e' : w = K
      · rw [e']
        exact Int.le_refl _
      · have := h1 w (by omega)
        omega
/-- the most, by a row of fees and a row of prizes -/
theorem hi_pt {f : Nat → Int32} {P T p : Nat} (hv : wv f P T) (hp : p < P) : ∃ o q, o < md_fact (aL f T).length ∧ q < md_fact (aL f T).length ∧ aHA f T p = aA f T (nI p) o ∧ f p + aHi f T p = eW f T p o q ∧ (∀ r, r < md_fact (aL f T).length → zA f T p r ≤ zA f T p o) ∧ ∀ r, r < md_fact (aL f T).length → zB f T p r ≤ zB f T p q := by
  obtain ⟨hn4, hN24, hN1⟩ := aN hv
  obtain ⟨⟨o, ho, eo⟩, h1⟩ := re_max_spec (aA f T (nI p)) (md_fact (aL f T).length - 1)
  obtain ⟨⟨q, hq, eq⟩, h2⟩ := re_max_spec (aB f T (nI p)) (md_fact (aL f T).length - 1)
  refine ⟨o, q, by omega, by omega, eo, ?_, fun r hr => ?_, fun r hr => ?_⟩
  · unfold eW aHi aHA
    rw [eo, eq]
  · have := h1 r (by omega)
    rw [eo, aA_toInt hv hr, aA_toInt hv (by omega)] at this
    exact this
  · have := h2 r (by omega)
    rw [eq, aB_toInt hv hr, aB_toInt hv (by omega)] at this
    exact this
theorem hi_eq {f : Nat → Int32} {P T p : Nat} (hv : wv f P T) (hp : p < P) : eHi (wE f f T p) (aW f T) = f p + aHi f T p := by
  obtain ⟨o, q, ho, hq, _, e2, h1, h2⟩ := hi_pt hv hp
  obtain ⟨w, hw, w1, w2⟩ := wE_all hv ho hq
  obtain ⟨g1, g2⟩ := eHi_spec (wE f f T p) (aW f T)
  have k1 := g1 w hw
  rw [wE_toInt hv hp hw, w1, w2] at k1
  rw [e2]
  apply Int32.toInt_inj.mp
  rw [eW_toInt hv hp ho hq]
  have b := zE_bd hv hp ho hq
  rcases g2 with g2 | ⟨w', hw', g2⟩
  · rw [g2] at k1
    have : (-1000000 : Int32).toInt = -1000000 := by decide
    omega
  · rw [g2] at k1 ⊢
    rw [wE_toInt hv hp hw'] at k1 ⊢
    have b1 := h1 _ (wE_in hv hw').1
    have b2 := h2 _ (wE_in hv hw').2
    unfold zE at k1 ⊢
    omega
theorem lo_eq {f : Nat → Int32} {P T p : Nat} (hv : wv f P T) (hp : p < P) : eLo (wE f f T p) (aW f T) = f p + aLo f T p := by
  obtain ⟨hn4, hN24, hN1⟩ := aN hv
  obtain ⟨⟨o, ho, eo⟩, h1⟩ := re_min_spec (aA f T (nI p)) (md_fact (aL f T).length - 1)
  obtain ⟨⟨q, hq, eq⟩, h2⟩ := re_min_spec (aB f T (nI p)) (md_fact (aL f T).length - 1)
  have h1 : ∀ r, r < md_fact (aL f T).length → zA f T p o ≤ zA f T p r := by
    intro r hr
    have := h1 r (by omega)
    rw [eo, aA_toInt hv hr, aA_toInt hv (by omega)] at this
    exact this
  have h2 : ∀ r, r < md_fact (aL f T).length → zB f T p q ≤ zB f T p r := by
    intro r hr
    have := h2 r (by omega)
    rw [eq, aB_toInt hv hr, aB_toInt hv (by omega)] at this
    exact this
  have e2 : f p + aLo f T p = eW f T p o q := by
    unfold eW aLo
    rw [eo, eq]
  have ho : o < md_fact (aL f T).length := by omega
  have hq : q < md_fact (aL f T).length := by omega
  obtain ⟨w, hw, w1, w2⟩ := wE_all hv ho hq
  obtain ⟨g1, g2⟩ := eLo_spec (wE f f T p) (aW f T)
  have k1 := g1 w hw
  rw [wE_toInt hv hp hw, w1, w2] at k1
  rw [e2]
  apply Int32.toInt_inj.mp
  rw [eW_toInt hv hp ho hq]
  have b := zE_bd hv hp ho hq
  rcases g2 with g2 | ⟨w', hw', g2⟩
  · rw [g2] at k1
    have : (1000000 : Int32).toInt = 1000000 := by decide
    omega
  · rw [g2] at k1 ⊢
    rw [wE_toInt hv hp hw'] at k1 ⊢
    have b1 := h1 _ (wE_in hv hw').1
    have b2 := h2 _ (wE_in hv hw').2
    unfold zE at k1 ⊢
    omega
-- the first
theorem re_or_bit {c : Nat → Bool} {g : Nat → Nat} {j : Nat} : ∀ {n : Nat}, (re_or c g n).testBit j = true ↔ ∃ i, i < n ∧ c i = true ∧ g i = j
  | 0 => by
    rw [re_or]
    simp
  | n + 1 => by
    have ih := re_or_bit (c := c) (g := g) (j := j) (n := n)
    rw [re_or]
    by_cases h : c n = true
    · rw [if_pos h, Nat.testBit_or, Bool.or_eq_true, ih, Nat.testBit_two_pow, decide_eq_true_eq]
      constructor
      · rintro (⟨i, h1, h2⟩ | h1)
        · exact ⟨i, by omega, h2⟩
        · exact ⟨n, by omega, h, h1⟩
      · rintro ⟨i, h1, h2, h3⟩
        by_cases e : i = n
        · subst e
          exact Or.inr h3
        · exact Or.inl ⟨i, by omega, h2, h3⟩
    · rw [if_neg h, ih]
      constructor
      · rintro ⟨i, h1, h2⟩
        exact ⟨i, by omega, h2⟩
      · rintro ⟨i, h1, h2, h3⟩
        by_cases e : i = n
        · subst e
          exact absurd h2 h
        · exact ⟨i, by omega, h2, h3⟩
theorem re_or_set {c c' : Nat → Bool} {g g' : Nat → Nat} {n n' : Nat} (h1 : ∀ i, i < n → c i = true → ∃ i', i' < n' ∧ c' i' = true ∧ g' i' = g i) (h2 : ∀ i, i < n' → c' i = true → ∃ i', i' < n ∧ c i' = true ∧ g i' = g' i) : re_or c g n = re_or c' g' n' := by
  apply Nat.eq_of_testBit_eq
  intro j
  have : (re_or c g n).testBit j = true ↔ (re_or c' g' n').testBit j = true := by
    rw [re_or_bit, re_or_bit]
    constructor
    · rintro ⟨i, a, b, e⟩
      obtain ⟨i', a', b', e'⟩ := h1 i a b
      exact ⟨i', a', b', e'.trans e⟩
    · rintro ⟨i, a, b, e⟩
      obtain ⟨i', a', b', e'⟩ := h2 i a b
      exact ⟨i', a', b', e'.trans e⟩
  exact Bool.eq_iff_iff.mpr this
theorem re_or_no {c : Nat → Bool} {g : Nat → Nat} : ∀ {n : Nat}, (∀ i, i < n → c i = false) → re_or c g n = 0
  | 0, _ => rfl
  | n + 1, h => by
    rw [re_or, h n (by omega), if_neg (by decide)]
    exact re_or_no (fun i hi => h i (by omega))
theorem eFi_zero {e b : Nat → Int32} (h : ∀ w, b w = 0) : ∀ K, eFi e b K = 0
  | 0 => rfl
  | K + 1 => by
    rw [eFi, eFi_zero h K, h K]
    split
    · split <;> rfl
    · rfl
theorem eFi_or {e b : Nat → Int32} {g : Nat → Nat} : ∀ {K : Nat}, (∀ w, w < K → g w < 4 ∧ b w = 1 <<< (nI (g w) &&& 31)) → eFi e b K = nI (re_or (fun w => decide (e w = eHi e K)) g K)
  | 0, _ => rfl
  | K + 1, h => by
    have ih := eFi_or (e := e) (b := b) (g := g) (K := K) (fun w hw => h w (by omega))
    have hK := h K (by omega)
    have hs := (eHi_spec e K).1
    rw [eFi, eHi, re_or]
    by_cases q : e K ≤ eHi e K
    · rw [if_pos q, if_pos q]
      by_cases q2 : e K = eHi e K
      · rw [if_pos q2, if_pos (decide_eq_true q2), ih, hK.2]
        have hlt : re_or (fun w => decide (e w = eHi e K)) g K < 16 := by
          apply Nat.lt_of_not_le
          intro q9
          obtain ⟨j, hj, hb⟩ := Nat.exists_ge_and_testBit_of_ge_two_pow (n := 4) q9
          obtain ⟨i, h1, h2, h3⟩ := re_or_bit.mp hb
          have := (h i (by omega)).1
          omega
        rw [re_or_I hlt hK.1]
      · rw [if_neg q2, if_neg (by rw [decide_eq_false q2]; decide), ih]
    · rw [if_neg q, if_neg q, if_pos (decide_eq_true rfl), re_or_no (fun i hi => decide_eq_false (fun q3 => ?_)), hK.2]
      · have := re_or_I (b := 0) (t := g K) (by decide) hK.1
        rw [← this]
        show _ = (0 : Int32) ||| _
        rw [Int32.zero_or]
      · have := hs i hi
        rw [q3] at this
        rw [Int32.le_iff_toInt_le] at q
        omega
theorem fi_eq {f : Nat → Int32} {P T p : Nat} (hv : wv f P T) (hp : p < P) : eFi (wE f f T p) (wB f T) (aW f T) = aFi f T p := by
  obtain ⟨hn4, hN24, hN1⟩ := aN hv
  unfold aFi
  by_cases h0 : (aL f T).length = 0
  · rw [if_pos h0]
    refine eFi_zero (fun w => ?_) _
    unfold wB
    rw [if_pos h0]
  · rw [if_neg h0, eFi_or (g := fun w => wt f T w 0) (fun w hw => ⟨?_, ?_⟩)]
    · congr 1
      rw [hi_eq hv hp]
      obtain ⟨o, q, ho, hq, e1, e2, h1, h2⟩ := hi_pt hv hp
      have hbit : ∀ w, w < aW f T → (aL f T).getD (re_ord (rA (aL f T).length (w / md_fact (aL f T).length)) 0) 0 = wt f T w 0 := by
        intro w hw
        have d1 := (w_dm hN1 hw).1
        have ra := rA_ok hn4 d1
        unfold wt
        rw [ro_eq (by omega) (by omega), ra.2 0 (by omega), oo_eq hn4 d1 (by omega)]
      have hA : ∀ r, r < md_fact (aL f T).length → (aA f T (nI p) r = aHA f T p ↔ zA f T p r = zA f T p o) := by
        intro r hr
        rw [e1, ← Int32.toInt_inj, aA_toInt hv hr, aA_toInt hv ho]
      have hE : ∀ w, w < aW f T → (wE f f T p w = f p + aHi f T p ↔ zE f T p (rA (aL f T).length (w / md_fact (aL f T).length)) (rB (aL f T).length (w / md_fact (aL f T).length) (w % md_fact (aL f T).length)) = zE f T p o q) := by
        intro w hw
        rw [e2, ← Int32.toInt_inj, wE_toInt hv hp hw, eW_toInt hv hp ho hq]
      refine re_or_set (fun w hw hc => ?_) (fun r hr hc => ?_)
      · have hc := (hE w hw).mp (of_decide_eq_true hc)
        have b1 := h1 _ (wE_in hv hw).1
        have b2 := h2 _ (wE_in hv hw).2
        refine ⟨_, (wE_in hv hw).1, decide_eq_true ((hA _ (wE_in hv hw).1).mpr ?_), hbit w hw⟩
        unfold zE at hc
        omega
      · have hc := (hA r hr).mp (of_decide_eq_true hc)
        obtain ⟨w, hw, w1, w2⟩ := wE_all hv hr hq
        refine ⟨w, hw, decide_eq_true ((hE w hw).mpr ?_), ?_⟩
        · rw [w1, w2]
          unfold zE
          omega
        · rw [← hbit w hw, w1]
    · have := (wt_lt hv hw (show 0 < (aL f T).length by omega)).1
      have := hv.2.1
      omega
    · unfold wB
      rw [if_neg h0]
