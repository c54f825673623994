/-! a class is born, a name is passed on -/
theorem rs_n {cL cN : Nat → Int32} {n c : Nat} {x y : Int32} (h : ¬ c = n) : rd_s (upd cL n x) (upd cN n y) c = rd_s cL cN c := by
  unfold rd_s; rw [up_n h, up_n h]
theorem rs_s {cL cN : Nat → Int32} {n a b : Nat} (ha : a < 1000) (hb : b < 1000) : rd_s (upd cL n (nI a)) (upd cN n (nI b)) n = 12 * a + b := by
  unfold rd_s; rw [up_s, up_s, nI_clamp (by omega), nI_clamp (by omega)]
theorem rs_ne {n c s : Nat} {ykn cL cN cS cF cG cP xcd xcp : Nat → Int32} (hC : rd_C n ykn cL cN cS cF cG cP xcd xcp) (hn : n ≤ 180) (hc : c < n) (hk : ykn s = -1) : ¬ rd_s cL cN c = s := by
  intro e
  obtain ⟨L, N', A, S, F, G', gL, gN, gA, gS, gF, gG, es', eL, eN, eS, eF, eG, eK, _⟩ := rd_ci hC hc
  rw [← es', e, hk] at eK
  exact rd_nm (by omega) eK.symm
def rd_ext (n n' : Nat) (cL cN cS cL' cN' cS' : Nat → Int32) : Prop := n ≤ n' ∧ ∀ c, c < n → cL' c = cL c ∧ cN' c = cN c ∧ cS' c = cS c
theorem rd_ext0 (n : Nat) (cL cN cS : Nat → Int32) : rd_ext n n cL cN cS cL cN cS := ⟨Nat.le_refl _, fun _ _ => ⟨rfl, rfl, rfl⟩⟩
theorem rd_extT {n n' n'' : Nat} {cL cN cS cL' cN' cS' cL'' cN'' cS'' : Nat → Int32} (h : rd_ext n n' cL cN cS cL' cN' cS') (h' : rd_ext n' n'' cL' cN' cS' cL'' cN'' cS'') : rd_ext n n'' cL cN cS cL'' cN'' cS'' := by
  refine ⟨Nat.le_trans h.1 h'.1, fun c hc => ?_⟩
  obtain ⟨a, b, d⟩ := h.2 c hc
  obtain ⟨a', b', d'⟩ := h'.2 c (Nat.lt_of_lt_of_le hc h.1)
  exact ⟨a'.trans a, b'.trans b, d'.trans d⟩
theorem rd_born {k t n : Nat} {xdef pref anno xnot xkn xcd xcp xcs kd xof xce xtk xhm xva xla gv xle yoff ypa ysh yfl ysg ybg ynt ykn cL cN cS cF cG cP cT yof ytk yfa yce yle yva yla : Nat → Int32} (h : rd_RF k t n xdef pref anno xnot xkn xcd xcp xcs kd xof xce xtk xhm xva xla gv xle yoff ypa ysh yfl ysg ybg ynt ykn cL cN cS cF cG cP cT yof ytk yfa yce yle yva yla) {p L M A S F G s : Nat} {fX fY : Int32} (hp : p < 3) (gL : L < 5) (gM : M < 12) (gA : A < 13) (gS : S < 4) (gF : F < 8) (gG : G < 4) (es : s = 12 * (5 * p + L) + M) (hk : ykn s = -1) (hb : L < 4 → ybg (5 * p + L) = 1) (hpar : (A = 0 ∧ fY = -1 ∧ fX = -1) ∨ ∃ c, c < n ∧ fY = nI c ∧ 0 < A ∧ cN c = nI (A - 1) ∧ fX = nI (rd_s cL cN c) ∧ (cL c = nI (5 * p + L) ∨ cL c = nI (5 * p + 4))) : n < 180 ∧ rd_RF k t (n + 1) xdef pref anno xnot (upd xkn s (nI s)) (upd xcd s (rd_pk A S F G)) (upd xcp s fX) (upd xcs s 0) kd xof xce xtk xhm xva xla gv xle yoff ypa ysh yfl ysg ybg ynt (upd ykn s (nI n)) (upd cL n (nI (5 * p + L))) (upd cN n (nI M)) (upd cS n (nI S)) (upd cF n (nI F)) (upd cG n (nI G)) (upd cP n fY) (upd cT n 0) yof ytk yfa yce yle yva yla := by
  obtain ⟨hU, hD, hP, hA, hN, hB, hC, hT, hK, hE, hZ, hO, hG, hI, hH, hF, hX, hL, hV, hW⟩ := h
  have hn := rd_n180 hZ
  have hs : s < 180 := by omega
  have hpk := (rd_pkT A gA S gS F gF G gG).1
  have hx0 : xcd s = 0 := by
    rcases hE s hs with e | ⟨c, hc, e⟩
    · exact e
    · exact absurd e (rs_ne hC hn hc hk)
  have hn' : n < 180 := by rw [hZ.1]; exact ct_lt (j := s) (by simp [hx0]) 180 hs
  have hss : rd_s (upd cL n (nI (5 * p + L))) (upd cN n (nI M)) n = s := by rw [rs_s (by omega) (by omega), es]
  refine ⟨hn', hU, hD, hP, hA, hN, ?_, ?_, ?_, ?_, ?_, ?_, hO, hG, hI, hH, ?_, ?_, hL, hV, hW⟩
  · intro s' hs' h4 h1
    by_cases e : s' = s
    · have : s' / 12 = 5 * p + L := by omega
      rw [this]; exact hb (by omega)
    · rw [up_n e] at h1; exact hB s' hs' h4 h1
  · intro c hc
    by_cases e : c = n
    · subst e
      refine ⟨5 * p + L, M, A, S, F, G, by omega, gM, gA, gS, gF, gG, up_s, up_s, up_s, up_s, up_s, by rw [← es, up_s], by rw [← es, up_s], ?_⟩
      rcases hpar with ⟨a, b, d⟩ | ⟨c', hc', b, d, f, g, i⟩
      · exact Or.inl ⟨a, by rw [up_s, b], by rw [← es, up_s, d]⟩
      · refine Or.inr ⟨c', hc', by rw [up_s, b], d, by rw [up_n (by omega), f], by rw [← es, up_s, rs_n (by omega), g], ?_⟩
        rw [up_n (by omega), show (5 * p + L) / 5 = p by omega]
        exact i
    · obtain ⟨L', N', A', S', F', G', gL', gN', gA', gS', gF', gG', eL, eN, eS, eF, eG, eK, eD, hP'⟩ := hC c (by omega)
      have e2 : ¬ 12 * L' + N' = s := by
        intro z; rw [z, hk] at eK; exact rd_nm (by omega) eK.symm
      refine ⟨L', N', A', S', F', G', gL', gN', gA', gS', gF', gG', by rw [up_n e, eL], by rw [up_n e, eN], by rw [up_n e, eS], by rw [up_n e, eF], by rw [up_n e, eG], by rw [up_n e2, eK], by rw [up_n e2, eD], ?_⟩
      rcases hP' with ⟨a, b, d⟩ | ⟨c', hc', b, d, f, g, i⟩
      · exact Or.inl ⟨a, by rw [up_n e, b], by rw [up_n e2, d]⟩
      · refine Or.inr ⟨c', hc', by rw [up_n e, b], d, by rw [up_n (by omega), f], by rw [up_n e2, rs_n (by omega), g], ?_⟩
        rw [up_n (by omega)]; exact i
  · intro c hc
    by_cases e : c = n
    · subst e; rw [hss, up_s, up_s]; exact ⟨rfl, Or.inl rfl⟩
    · rw [rs_n e, up_n (rs_ne hC hn (by omega) hk), up_n e]; exact hT c (by omega)
  · intro s' hs'
    by_cases e : s' = s
    · refine Or.inr ⟨n, by omega, by rw [e, up_s], by rw [e, up_s, hss], by rw [up_s]; exact congrArg nI (by omega), Or.inl ?_⟩
      rw [up_s]; exact congrArg nI (by omega)
    · rw [up_n e, up_n e]
      rcases hK s' hs' with a | ⟨c, hc, a, b, d, f⟩
      · exact Or.inl a
      · refine Or.inr ⟨c, by omega, a, by rw [rs_n (by omega), b], by rw [up_n (by omega), d], ?_⟩
        rw [up_n (by omega)]; exact f
  · intro s' hs'
    by_cases e : s' = s
    · exact Or.inr ⟨n, by omega, by rw [hss, e]⟩
    · rw [up_n e]
      rcases hE s' hs' with a | ⟨c, hc, a⟩
      · exact Or.inl a
      · exact Or.inr ⟨c, by omega, by rw [rs_n (by omega), a]⟩
  · constructor
    · rw [ct_set (f := fun s => decide (¬ xcd s = 0)) (j := s) (by simp [hx0]) (by simp [up_s, hpk]) (fun i hi => by simp only [up_n hi]) 180 hs, ← hZ.1]
    · intro p' hp'
      have e1 : rd_ct (fun c => decide (upd cL n (nI (5 * p + L)) c / 5 = nI p')) n = rd_ct (fun c => decide (cL c / 5 = nI p')) n := ct_congr (fun i hi => by rw [up_n (by omega)])
      have e2 : nI (5 * p + L) / 5 = nI p := by rw [id_5 (by omega)]; exact congrArg nI (by omega)
      rw [rd_ctS, e1, hZ.2 p' hp', up_s, e2]
      by_cases e : p = p'
      · subst e
        rw [if_pos (by simp), ct_set (f := fun i => decide (¬ xcd (60 * p + i) = 0)) (g := fun i => decide (¬ upd xcd s (rd_pk A S F G) (60 * p + i) = 0)) (j := 12 * L + M) (by simp only [show 60 * p + (12 * L + M) = s by omega, hx0]; decide) (by simp only [show 60 * p + (12 * L + M) = s by omega, up_s]; exact decide_eq_true hpk) (fun i hi => by simp only [up_n (show ¬ 60 * p + i = s by omega)]) 60 (by omega)]
      · have e3 : ¬ nI p = nI p' := fun z => e ((nI_eq (by omega) (by omega)).mp z)
        rw [if_neg (by simp [e3]), Nat.add_zero]
        exact ct_congr (fun i hi => by rw [up_n (show ¬ 60 * p' + i = s by omega)])
  · intro i hi h1
    obtain ⟨c, hc, a, b⟩ := hF i hi h1
    exact ⟨c, by omega, a, by rw [rs_n (by omega), b]⟩
  · intro i hi h1 j hj
    obtain ⟨c, hc, a, b⟩ := hF i hi h1
    have := hX i hi h1 j hj
    rw [a, nI_clamp (by omega)] at this ⊢
    rw [up_n (by omega)]
    exact this
theorem rd_pass {k t n : Nat} {xdef pref anno xnot xkn xcd xcp xcs kd xof xce xtk xhm xva xla gv xle yoff ypa ysh yfl ysg ybg ynt ykn cL cN cS cF cG cP cT yof ytk yfa yce yle yva yla : Nat → Int32} (h : rd_RF k t n xdef pref anno xnot xkn xcd xcp xcs kd xof xce xtk xhm xva xla gv xle yoff ypa ysh yfl ysg ybg ynt ykn cL cN cS cF cG cP cT yof ytk yfa yce yle yva yla) {p L M s c : Nat} (hp : p < 3) (gL : L < 5) (gM : M < 12) (es : s = 12 * (5 * p + L) + M) (hk : ykn s = -1) (hb : L < 4 → ybg (5 * p + L) = 1) (hc : c < n) (e1 : cN c = nI M) (e2 : cL c = nI (5 * p + 4)) : rd_RF k t n xdef pref anno xnot (upd xkn s (nI (rd_s cL cN c))) xcd xcp xcs kd xof xce xtk xhm xva xla gv xle yoff ypa ysh yfl ysg ybg ynt (upd ykn s (nI c)) cL cN cS cF cG cP cT yof ytk yfa yce yle yva yla := by
  obtain ⟨hU, hD, hP, hA, hN, hB, hC, hT, hK, hE, hZ, hO, hG, hI, hH, hF, hX, hL, hV, hW⟩ := h
  have hn := rd_n180 hZ
  refine ⟨hU, hD, hP, hA, hN, ?_, ?_, hT, ?_, hE, hZ, hO, hG, hI, hH, hF, hX, hL, hV, hW⟩
  · intro s' hs' h4 h1
    by_cases e : s' = s
    · have : s' / 12 = 5 * p + L := by omega
      rw [this]; exact hb (by omega)
    · rw [up_n e] at h1; exact hB s' hs' h4 h1
  · intro c' hc'
    obtain ⟨L', N', A', S', F', G', gL', gN', gA', gS', gF', gG', eL, eN, eS, eF, eG, eK, eD, hP'⟩ := hC c' hc'
    have e3 : ¬ 12 * L' + N' = s := by
      intro z; rw [z, hk] at eK; exact rd_nm (by omega) eK.symm
    exact ⟨L', N', A', S', F', G', gL', gN', gA', gS', gF', gG', eL, eN, eS, eF, eG, by rw [up_n e3, eK], eD, hP'⟩
  · intro s' hs'
    by_cases e : s' = s
    · refine Or.inr ⟨c, hc, by rw [e, up_s], by rw [e, up_s], by rw [e1]; exact congrArg nI (by omega), Or.inr ?_⟩
      rw [e2]; exact congrArg nI (by omega)
    · rw [up_n e, up_n e]; exact hK s' hs'
