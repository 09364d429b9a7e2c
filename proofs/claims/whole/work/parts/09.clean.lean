/-! ===== cleaning, Y's side ===== -/
theorem eh_X2 {m : Nat} {V W Bf W2 : Int32} {K A B R Q : Nat → Int32} (h : eh_X m V W K A B R Q) (hB : eh_A K A B R Q m (-1) Bf) (hW : eh_sub W2 W) :
    eh_X (eh_qn (eh_D W Bf) m 20) V W2 K A B R (eh_qf (eh_D W Bf) m Q 20) := by
  obtain ⟨q1, q2, q3, q4⟩ := eh_Dq h hB 20 (Nat.le_refl _)
  obtain ⟨x1, x2, x3, x4, x5, x6⟩ := h
  refine ⟨x1, fun i g => x2 i (hW i g), x3, x4, fun i hi => ?_, q4⟩
  obtain ⟨j, h1, h2, h3⟩ := q3 i hi
  refine ⟨j, h1, ?_, h2⟩
  rcases h3 with h3 | h3
  · obtain ⟨j', g1, g2, g3⟩ := x5 i h3.1
    have e : j' = j := eh_inj (by omega) (by omega) (g3.symm.trans ((q2 i h3.1).symm.trans h2))
    rw [← e]; exact g2
  · have h4 := h3.2
    unfold eh_D at h4
    rw [Bool.and_eq_true] at h4
    exact x2 j h4.1
theorem yc_cl7 {m : Nat} {V W W' Bf : Int32} {K A B R Q he Ky ey as bs Ry : Nat → Int32} {post : Int32 → SY → Prop} (hX : eh_X m V W K A B R Q) (hh : ∀ o, o < 20 → he o = if bt V o = true then 1 else 0)
    (hE : ∀ o, bt V o = true → ey o = if bt W o = true then 1 else 0) (hB : eh_A K A B R Q m (-1) Bf) (hW' : ∀ i, i < 32 → (bt W' i = true ↔ bt W i = true ∧ bt Bf i = true))
    (h : ∀ e' : Nat → Int32, (∀ o, bt V o = true → e' o = if bt W' o = true then 1 else 0) →
      wpY_living (fun r_11 => (∃ n82 : Nat, wY_clean_82 post Bf r_11 (nI (eh_qn (eh_D W Bf) m 20)) n82 0 0 he Ky e' as bs Ry (eh_qf (eh_D W Bf) m Q 20))) (nI (eh_qn (eh_D W Bf) m 20), he, Ky, e', as, bs, Ry, eh_qf (eh_D W Bf) m Q 20)) :
    ∃ n7 : Nat, wY_clean_7 post Bf n7 0 (nI m) he Ky ey as bs Ry Q := by
  refine loop_0 (fun f i (s : Nat → Int32) => wY_clean_7 post Bf f (nI i) (nI (eh_qn (eh_D W Bf) m i)) he Ky s as bs Ry (eh_qf (eh_D W Bf) m Q i))
    (fun i s => ∀ o, bt V o = true → (o < i → s o = if bt W' o = true then 1 else 0) ∧ (i ≤ o → s o = if bt W o = true then 1 else 0)) 20 ey
    (fun o g => ⟨fun z => absurd z (by omega), fun _ => hE o g⟩) (fun f s hs => ?_) (fun f i s hi hs hk => ?_)
  · exact br_t (show (20 : Int32) ≤ nI 20 by decide) (h s (fun o g => (hs o g).1 (hX.1 o g)))
  · have hv : vp_in (nI i) 20 := vp_in_nI hi (by decide)
    have hk2 : ∀ s' : Nat → Int32, (∀ o, bt V o = true → (o < i + 1 → s' o = if bt W' o = true then 1 else 0) ∧ (i + 1 ≤ o → s' o = if bt W o = true then 1 else 0)) →
        wY_clean_7 post Bf f (nI (i + 1)) (nI (eh_qn (eh_D W Bf) m (i + 1))) he Ky s' as bs Ry (eh_qf (eh_D W Bf) m Q (i + 1)) := hk
    have skip : ¬ eh_D W Bf i = true → (bt V i = true → (bt W' i = true ↔ bt W i = true)) → ∀ y : Int32, y = nI i + 1 → wY_clean_7 post Bf f y (nI (eh_qn (eh_D W Bf) m i)) he Ky s as bs Ry (eh_qf (eh_D W Bf) m Q i) := by
      intro hD hw y ey
      subst ey
      rw [nI_1]
      have := hk2 s (fun o g => ⟨fun z => ?_, fun z => (hs o g).2 (by omega)⟩)
      · rw [eh_qnf hD, eh_qff hD] at this
        exact this
      · by_cases e : o = i
        · subst e
          rw [(hs o g).2 (Nat.le_refl _)]
          exact eh_if (hw g).symm
        · exact (hs o g).1 (by omega)
    refine br_f (nI_ge (b := 20) hi (by decide)) ⟨hv, ?_⟩
    rw [nI_clamp (show i < 2 ^ 31 by omega), hh i hi]
    by_cases gV : bt V i = true
    · rw [if_pos gV, (hs i gV).2 (Nat.le_refl _)]
      refine br_f (by decide) ⟨hv, ?_⟩
      by_cases gW : bt W i = true
      · rw [if_pos gW]
        refine br_f (by decide) ?_
        by_cases gB : bt Bf i = true
        · refine br_f (fun z => ?_) (skip (fun z => ?_) (fun _ => ?_))
          · rw [(eh_t0 Bf (by omega)).mp z] at gB; exact absurd gB (by decide)
          · unfold eh_D at z; rw [gB, gW] at z; exact absurd z (by decide)
          · rw [hW' i (by omega)]; exact ⟨fun z => z.1, fun z => ⟨z, gB⟩⟩
        · have gF : bt Bf i = false := by
            cases hb : bt Bf i
            · rfl
            · exact absurd hb gB
          have hD : eh_D W Bf i = true := by unfold eh_D; rw [gW, gF]; rfl
          have h20 := eh_qle (eh_Dq hX hB (i + 1) (by omega))
          rw [eh_qnt hD] at h20
          refine br_t ((eh_t0 Bf (by omega)).mpr gF) ⟨vp_in_nI (by omega) (by decide), fun y1 e1 y2 e2 => ⟨hv, fun y3 e3 y4 e4 => ?_⟩⟩
          have := hk2 y3 (fun o g => ⟨fun z => ?_, fun z => ?_⟩)
          · rw [eh_qnt hD, eh_qft hD] at this
            subst e1 e2 e4
            rw [nI_1 i, nI_1 (eh_qn (eh_D W Bf) m i), nI_clamp (by omega)]
            exact this
          · rw [e3, eh_nb0]
            by_cases e : o = i
            · subst e
              rw [pk_us, if_neg (fun z2 => gB ((hW' o (by omega)).mp z2).2)]
            · rw [pk_un e]; exact (hs o g).1 (by omega)
          · rw [e3, pk_un (by omega)]; exact (hs o g).2 (by omega)
      · rw [if_neg gW]
        refine br_t rfl (skip (fun z => ?_) (fun _ => ?_))
        · unfold eh_D at z; rw [Bool.and_eq_true] at z; exact gW z.1
        · rw [hW' i (by omega)]; exact ⟨fun z => z.1, fun z => absurd z gW⟩
    · rw [if_neg gV]
      refine br_t rfl (skip (fun z => ?_) (fun z => absurd z gV))
      unfold eh_D at z; rw [Bool.and_eq_true] at z; exact gV (hX.2.1 i z.1)
theorem yc_261 {post : Int32 → SY → Prop} {J : Int32 → Int32 → (Nat → Int32) → (Nat → Int32) → (Nat → Int32) → (Nat → Int32) → (Nat → Int32) → (Nat → Int32) → (Nat → Int32) → Prop} {Bf Nw g c w v : Int32} {i : Nat} {h k e a b r q : Nat → Int32} (hi : i < 20)
    (v1 : h i = 0 → v = 0) (v2 : ¬ h i = 0 → g = 0 → v = 1) (v3 : ¬ h i = 0 → ¬ g = 0 → v = 0) (H : J c (nI (i + 1)) (upd h i v) k e a b r q) : wY_clean_261 post J Bf Nw (nI i) g c w h k e a b r q := by
  have hv : vp_in (nI i) 20 := vp_in_nI hi (by decide)
  unfold wY_clean_261
  rw [nI_clamp (show i < 2 ^ 31 by omega), nI_1, eh_nb0, eh_nb1]
  refine ⟨hv, br_c (fun z => ⟨hv, fun y ey x ex => ?_⟩) (fun z => br_c (fun z2 => ⟨hv, fun y ey x ex => ?_⟩) (fun z2 => ⟨hv, fun y ey x ex => ?_⟩))⟩
  · subst ey ex
    rw [v1 z] at H; exact H
  · subst ey ex
    rw [v2 z z2] at H; exact H
  · subst ey ex
    rw [v3 z z2] at H; exact H
theorem yc_222 {post : Int32 → SY → Prop} {J : Int32 → Int32 → (Nat → Int32) → (Nat → Int32) → (Nat → Int32) → (Nat → Int32) → (Nat → Int32) → (Nat → Int32) → (Nat → Int32) → Prop} {Bf Nw V c w zb : Int32} {i : Nat} {h k e a b r q : Nat → Int32} (hi : i < 20)
    (hV : h i = if bt V i = true then 1 else 0)
    (H : J (if bt V i = true ∧ ¬ bt Nw i = true then c + 1 else c) (nI (i + 1)) (upd h i (if bt V i = true ∧ bt Nw i = true then 1 else 0)) k e a (upd b i zb) r q) :
    wY_clean_222 post J Bf Nw c (nI i) zb (nI i) w h k e a b r q := by
  have hv : vp_in (nI i) 20 := vp_in_nI hi (by decide)
  unfold wY_clean_222
  rw [nI_clamp (show i < 2 ^ 31 by omega)]
  refine ⟨hv, fun y ey => ⟨hv, ?_⟩⟩
  subst ey
  by_cases gV : bt V i = true
  · rw [if_pos gV] at hV
    have h1 : ¬ h i = 0 := by rw [hV]; decide
    refine br_f h1 ?_
    by_cases gN : bt Nw i = true
    · rw [if_neg (fun z => z.2 gN), if_pos ⟨gV, gN⟩] at H
      refine br_f (fun z => ?_) ?_
      · rw [(eh_t0 Nw (by omega)).mp z] at gN; exact absurd gN (by decide)
      · unfold wY_clean_246 wY_clean_247
        exact br_t rfl (yc_261 hi (fun z => absurd z h1) (fun _ _ => rfl) (fun _ z => absurd rfl z) H)
    · have gF : bt Nw i = false := by
        cases hb : bt Nw i
        · rfl
        · exact absurd hb gN
      rw [if_pos ⟨gV, gN⟩, if_neg (fun z => gN z.2)] at H
      refine br_t ((eh_t0 Nw (by omega)).mpr gF) ?_
      unfold wY_clean_247
      exact br_f (by decide) (yc_261 hi (fun z => absurd z h1) (fun _ z => absurd z (by decide)) (fun _ _ => rfl) H)
  · rw [if_neg gV] at hV
    rw [if_neg (fun z => gV z.1), if_neg (fun z => gV z.1)] at H
    refine br_t hV ?_
    unfold wY_clean_246 wY_clean_247
    exact br_t rfl (yc_261 hi (fun _ => rfl) (fun z => absurd hV z) (fun z => absurd hV z) H)
theorem yc_183 {post : Int32 → SY → Prop} {J : Int32 → Int32 → (Nat → Int32) → (Nat → Int32) → (Nat → Int32) → (Nat → Int32) → (Nat → Int32) → (Nat → Int32) → (Nat → Int32) → Prop} {Bf Nw c w za : Int32} {i : Nat} {h k e a b r q : Nat → Int32} (hi : i < 20)
    (H : wY_clean_222 post J Bf Nw c (nI i) (if k i = 2 ∧ za = 0 then 0 else b i) (nI i) w h k e (upd a i za) b r q) : wY_clean_183 post J Bf Nw c (nI i) za (nI i) w h k e a b r q := by
  have hv : vp_in (nI i) 20 := vp_in_nI hi (by decide)
  unfold wY_clean_183 wY_clean_215
  rw [nI_clamp (show i < 2 ^ 31 by omega)]
  refine ⟨hv, fun y ey => ⟨hv, ?_⟩⟩
  subst ey
  rw [pk_us]
  refine br_c (fun z => ⟨hv, br_c (fun z2 => ?_) (fun z2 => ⟨hv, ?_⟩)⟩) (fun z => ⟨hv, ?_⟩)
  · rw [if_pos ⟨z, z2⟩] at H; exact H
  · rw [if_neg (fun z3 => z2 z3.2)] at H; exact H
  · rw [if_neg (fun z3 => z z3.1)] at H; exact H
theorem yc_154 {post : Int32 → SY → Prop} {J : Int32 → Int32 → (Nat → Int32) → (Nat → Int32) → (Nat → Int32) → (Nat → Int32) → (Nat → Int32) → (Nat → Int32) → (Nat → Int32) → Prop} {Bf Nw c w x6 p : Int32} {i : Nat} {h k e a b r q : Nat → Int32} (hi : i < 20)
    (H : wY_clean_183 post J Bf Nw c (nI i) (if x6 = 0 ∧ p = 0 then a i else 0) (nI i) w h k e a b r q) : wY_clean_154 post J Bf Nw c (nI i) x6 p w h k e a b r q := by
  have hv : vp_in (nI i) 20 := vp_in_nI hi (by decide)
  unfold wY_clean_154 wY_clean_172
  rw [nI_clamp (show i < 2 ^ 31 by omega)]
  refine br_c (fun z => br_c (fun z2 => ⟨hv, ?_⟩) (fun z2 => ?_)) (fun z => ?_)
  · rw [if_pos ⟨z, z2⟩] at H; exact H
  · rw [if_neg (fun z3 => z2 z3.2)] at H; exact H
  · rw [if_neg (fun z3 => z z3.1)] at H; exact H
theorem yc_127 {post : Int32 → SY → Prop} {J : Int32 → Int32 → (Nat → Int32) → (Nat → Int32) → (Nat → Int32) → (Nat → Int32) → (Nat → Int32) → (Nat → Int32) → (Nat → Int32) → Prop} {Bf Nw c w x6 t : Int32} {i : Nat} {h k e a b r q : Nat → Int32} (hi : i < 20)
    (H : ∀ p : Int32, (p = 0 ↔ ¬ (k i = 2 ∧ ¬ (t &&& (Nw ^^^ (-1))) = 0)) → wY_clean_154 post J Bf Nw c (nI i) x6 p w h k e a b r q) : wY_clean_127 post J Bf Nw c (nI i) t x6 w h k e a b r q := by
  have hv : vp_in (nI i) 20 := vp_in_nI hi (by decide)
  unfold wY_clean_127 wY_clean_153
  rw [nI_clamp (show i < 2 ^ 31 by omega)]
  refine ⟨hv, br_c (fun z => br_c (fun z2 => ?_) (fun z2 => ?_)) (fun z => ?_)⟩
  · exact H 0 ⟨fun _ z3 => z3.2 z2, fun _ => rfl⟩
  · exact H 1 ⟨fun z3 => absurd z3 (by decide), fun z3 => absurd ⟨z, z2⟩ z3⟩
  · exact H 0 ⟨fun _ z3 => z z3.1, fun _ => rfl⟩
theorem yc_st {post : Int32 → SY → Prop} {J : Int32 → Int32 → (Nat → Int32) → (Nat → Int32) → (Nat → Int32) → (Nat → Int32) → (Nat → Int32) → (Nat → Int32) → (Nat → Int32) → Prop} {Bf Nw V c w t : Int32} {i : Nat} {h k e a b r q : Nat → Int32} (hi : i < 20)
    (hV : h i = if bt V i = true then 1 else 0)
    (H : ∀ x6 p : Int32, (x6 = 0 ↔ ¬ (k i = 1 ∧ ¬ (t &&& (Bf ^^^ (-1))) = 0)) → (p = 0 ↔ ¬ (k i = 2 ∧ ¬ (t &&& (Nw ^^^ (-1))) = 0)) →
      J (if bt V i = true ∧ ¬ bt Nw i = true then c + 1 else c) (nI (i + 1)) (upd h i (if bt V i = true ∧ bt Nw i = true then 1 else 0)) k e (upd a i (if x6 = 0 ∧ p = 0 then a i else 0))
        (upd b i (if k i = 2 ∧ (if x6 = 0 ∧ p = 0 then a i else 0) = 0 then 0 else b i)) r q) :
    ((k i = 1 → (((t &&& (Bf ^^^ (-1))) = 0 → wY_clean_126 post J Bf Nw c (nI i) t w h k e a b r q) ∧ (¬ (t &&& (Bf ^^^ (-1))) = 0 → wY_clean_127 post J Bf Nw c (nI i) t 1 w h k e a b r q)))
      ∧ (¬ k i = 1 → wY_clean_126 post J Bf Nw c (nI i) t w h k e a b r q)) := by
  have go : ∀ x6 : Int32, (x6 = 0 ↔ ¬ (k i = 1 ∧ ¬ (t &&& (Bf ^^^ (-1))) = 0)) → wY_clean_127 post J Bf Nw c (nI i) t x6 w h k e a b r q :=
    fun x6 h6 => yc_127 hi (fun p hp => yc_154 hi (yc_183 hi (yc_222 hi hV (H x6 p h6 hp))))
  unfold wY_clean_126
  refine br_c (fun z => br_c (fun z2 => ?_) (fun z2 => ?_)) (fun z => ?_)
  · exact go 0 ⟨fun _ z3 => z3.2 z2, fun _ => rfl⟩
  · exact go 1 ⟨fun z3 => absurd z3 (by decide), fun z3 => absurd ⟨z, z2⟩ z3⟩
  · exact go 0 ⟨fun _ z3 => z z3.1, fun _ => rfl⟩
theorem eh_za {V Bf Nw x6 p : Int32} {K A : Nat → Int32} {i : Nat} (hA : eh_P V (A i)) (h6 : x6 = 0 ↔ ¬ (K i = 1 ∧ ¬ (eh_bo (A i) &&& (Bf ^^^ (-1))) = 0)) (hp : p = 0 ↔ ¬ (K i = 2 ∧ ¬ (eh_bo (A i) &&& (Nw ^^^ (-1))) = 0)) :
    (if x6 = 0 ∧ p = 0 then A i + 1 else 0) = eh_cA K A Bf Nw i + 1 := by
  rw [eh_an hA] at h6 hp
  unfold eh_cA
  by_cases c : (K i = 1 ∧ eh_hb Bf (A i) = false) ∨ (K i = 2 ∧ eh_hb Nw (A i) = false)
  · rw [if_pos c]
    by_cases m : A i = -1
    · rw [m]
      by_cases d : x6 = 0 ∧ p = 0
      · rw [if_pos d]
      · rw [if_neg d]; decide
    · have hn : ¬ (x6 = 0 ∧ p = 0) := by
        rintro ⟨z1, z2⟩
        rcases c with ⟨c1, c2⟩ | ⟨c1, c2⟩
        · refine h6.mp z1 ⟨c1, fun z => ?_⟩
          rcases z with z | z
          · exact m z
          · rw [c2] at z; exact absurd z (by decide)
        · refine hp.mp z2 ⟨c1, fun z => ?_⟩
          rcases z with z | z
          · exact m z
          · rw [c2] at z; exact absurd z (by decide)
      rw [if_neg hn]; decide
  · have hn : x6 = 0 ∧ p = 0 := by
      refine ⟨h6.mpr (fun z => c (Or.inl ⟨z.1, ?_⟩)), hp.mpr (fun z => c (Or.inr ⟨z.1, ?_⟩))⟩
      · cases hb : eh_hb Bf (A i)
        · rfl
        · exact absurd (Or.inr hb) z.2
      · cases hb : eh_hb Nw (A i)
        · rfl
        · exact absurd (Or.inr hb) z.2
    rw [if_neg c, if_pos hn]
theorem eh_zb {V Bf Nw : Int32} {K A B : Nat → Int32} {i : Nat} (hA : eh_P V (A i)) : (if K i = 2 ∧ eh_cA K A Bf Nw i + 1 = 0 then 0 else B i + 1) = eh_cB K A B Nw i + 1 := by
  unfold eh_cB
  by_cases c : K i = 2 ∧ eh_hb Nw (A i) = false
  · have e : eh_cA K A Bf Nw i = -1 := if_pos (Or.inr c)
    rw [if_pos c, e, if_pos ⟨c.1, by decide⟩]; decide
  · have hn : ¬ (K i = 2 ∧ eh_cA K A Bf Nw i + 1 = 0) := by
      rintro ⟨z1, z2⟩
      have e : eh_cA K A Bf Nw i = A i := by
        refine if_neg ?_
        rintro (z | z)
        · exact absurd (z.1.symm.trans z1) (by decide)
        · exact c z
      rw [e] at z2
      rcases hA with m | ⟨j, hj, _, m⟩
      · exact c ⟨z1, by rw [m]; exact eh_hb_m Nw⟩
      · rw [m, nI_1] at z2
        exact nI_ne0 (by omega) (by omega) z2
    rw [if_neg c, if_neg hn]
theorem eh_zc {V Bf Nw k za b : Int32} {K A B : Nat → Int32} {i : Nat} (hA : eh_P V (A i)) (hk : k = K i) (ha : za = eh_cA K A Bf Nw i + 1) (hb : b = B i + 1) : (if k = 2 ∧ za = 0 then 0 else b) = eh_cB K A B Nw i + 1 := by
  subst hk ha hb
  exact eh_zb hA
theorem yc_82 {V V' Bf Nw w : Int32} {K A B he Ky e as bs Ry Q : Nat → Int32} {post : Int32 → SY → Prop} (hh : ∀ o, o < 20 → he o = if bt V o = true then 1 else 0)
    (hF : ∀ o, bt V o = true → Ky o = K o ∧ as o = A o + 1 ∧ bs o = B o + 1) (hP : ∀ o, bt V o = true → eh_P V (A o)) (hV' : ∀ i, i < 32 → (bt V' i = true ↔ bt V i = true ∧ bt Nw i = true)) (hV : ∀ i, bt V i = true → i < 20)
    (h : ∀ he' as' bs' : Nat → Int32, (∀ o, o < 20 → he' o = if bt V' o = true then 1 else 0) → (∀ o, bt V' o = true → as' o = eh_cA K A Bf Nw o + 1 ∧ bs' o = eh_cB K A B Nw o + 1) →
      post (nI (eh_cn (fun o => bt V o && !bt Nw o) 20)) (w, he', Ky, e, as', bs', Ry, Q)) :
    ∃ n82 : Nat, wY_clean_82 post Bf Nw w n82 0 0 he Ky e as bs Ry Q := by
  have key : ∃ n82 : Nat, wY_clean_82 post Bf Nw w n82 (nI (eh_cn (fun o => bt V o && !bt Nw o) 0)) (nI 0) he Ky e as bs Ry Q := by
    refine loop_0 (fun f i (s : (Nat → Int32) × (Nat → Int32) × (Nat → Int32)) => wY_clean_82 post Bf Nw w f (nI (eh_cn (fun o => bt V o && !bt Nw o) i)) (nI i) s.1 Ky e s.2.1 s.2.2 Ry Q)
      (fun i s => ∀ j, j < 20 → (j < i → s.1 j = (if bt V' j = true then 1 else 0) ∧ (bt V' j = true → s.2.1 j = eh_cA K A Bf Nw j + 1 ∧ s.2.2 j = eh_cB K A B Nw j + 1)) ∧
        (i ≤ j → s.1 j = he j ∧ s.2.1 j = as j ∧ s.2.2 j = bs j)) 20 (he, as, bs)
      (fun j _ => ⟨fun z => absurd z (by omega), fun _ => ⟨rfl, rfl, rfl⟩⟩) (fun f s hs => ?_) (fun f i s hi hs hk => ?_)
    · refine br_t (show (20 : Int32) ≤ nI 20 by decide) (h s.1 s.2.1 s.2.2 (fun o ho => ((hs o ho).1 ho).1) (fun o ho => ?_))
      have o20 : o < 20 := hV o ((hV' o (eh_lt ho)).mp ho).1
      exact ((hs o o20).1 o20).2 ho
    · obtain ⟨sh, sa, sb⟩ := s
      obtain ⟨q1, q2, q3⟩ := (hs i hi).2 (Nat.le_refl _)
      have hv : vp_in (nI i) 20 := vp_in_nI hi (by decide)
      have hVi : sh i = if bt V i = true then 1 else 0 := by
        show (sh, sa, sb).1 i = _
        rw [q1, hh i hi]
      have hc : (if bt V i = true ∧ ¬ bt Nw i = true then nI (eh_cn (fun o => bt V o && !bt Nw o) i) + 1 else nI (eh_cn (fun o => bt V o && !bt Nw o) i)) = nI (eh_cn (fun o => bt V o && !bt Nw o) (i + 1)) := by
        show _ = nI (eh_cn (fun o => bt V o && !bt Nw o) i + (if (bt V i && !bt Nw i) = true then 1 else 0))
        by_cases d : bt V i = true ∧ ¬ bt Nw i = true
        · have d2 : (bt V i && !bt Nw i) = true := by
            rw [d.1]
            cases hb : bt Nw i
            · rfl
            · exact absurd hb d.2
          rw [if_pos d, if_pos d2, nI_1]
        · have d2 : ¬ (bt V i && !bt Nw i) = true := by
            intro z
            rw [Bool.and_eq_true] at z
            refine d ⟨z.1, fun z3 => ?_⟩
            rw [z3] at z
            exact absurd z.2 (by decide)
          rw [if_neg d, if_neg d2, Nat.add_zero]
      have hh2 : (if bt V i = true ∧ bt Nw i = true then (1 : Int32) else 0) = if bt V' i = true then 1 else 0 := by
        by_cases d : bt V i = true ∧ bt Nw i = true
        · rw [if_pos d, if_pos ((hV' i (by omega)).mpr d)]
        · rw [if_neg d, if_neg (fun z => d ((hV' i (by omega)).mp z))]
      have fin : ∀ za zb : Int32, (bt V' i = true → za = eh_cA K A Bf Nw i + 1 ∧ zb = eh_cB K A B Nw i + 1) →
          wY_clean_82 post Bf Nw w f (if bt V i = true ∧ ¬ bt Nw i = true then nI (eh_cn (fun o => bt V o && !bt Nw o) i) + 1 else nI (eh_cn (fun o => bt V o && !bt Nw o) i)) (nI (i + 1))
            (upd sh i (if bt V i = true ∧ bt Nw i = true then 1 else 0)) Ky e (upd sa i za) (upd sb i zb) Ry Q := by
        intro za zb hz
        rw [hc, hh2]
        refine hk (upd sh i (if bt V' i = true then 1 else 0), upd sa i za, upd sb i zb) (fun j hj => ⟨fun z => ?_, fun z => ?_⟩)
        · show upd sh i (if bt V' i = true then 1 else 0) j = _ ∧ (_ → upd sa i za j = _ ∧ upd sb i zb j = _)
          by_cases d : j = i
          · subst d
            rw [pk_us, pk_us, pk_us]
            exact ⟨rfl, hz⟩
          · rw [pk_un d, pk_un d, pk_un d]
            exact (hs j hj).1 (by omega)
        · show upd sh i (if bt V' i = true then 1 else 0) j = _ ∧ upd sa i za j = _ ∧ upd sb i zb j = _
          rw [pk_un (by omega), pk_un (by omega), pk_un (by omega)]
          exact (hs j hj).2 (by omega)
      refine br_f (nI_ge (b := 20) hi (by decide)) ⟨hv, ?_⟩
      rw [nI_clamp (show i < 2 ^ 31 by omega)]
      by_cases g : bt V' i = true
      · have gV := ((hV' i (by omega)).mp g).1
        obtain ⟨f1, f2, f3⟩ := hF i gV
        have ea : sa i = A i + 1 := by
          show (sh, sa, sb).2.1 i = _
          rw [q2, f2]
        have eb : sb i = B i + 1 := by
          show (sh, sa, sb).2.2 i = _
          rw [q3, f3]
        show wpY_bit _ _ (sa i)
        rw [ea]
        refine yc_bit _ (hP i gV) ⟨hv, yc_st hi hVi (fun x6 p h6 hp => fin _ _ (fun _ => ?_))⟩
        rw [f1] at h6 hp
        have e1 : (if x6 = 0 ∧ p = 0 then sa i else 0) = eh_cA K A Bf Nw i + 1 := by
          rw [ea]
          exact eh_za (hP i gV) h6 hp
        exact ⟨e1, eh_zc (hP i gV) f1 e1 eb⟩
      · exact yc_bitg _ _ (fun t => ⟨hv, yc_st hi hVi (fun x6 p h6 hp => fin _ _ (fun z => absurd z g))⟩)
  exact key
