/-! ===== compose: the class builds ===== -/
theorem p_div : ∀ p : Nat, p < 144 → Int32.ofInt (p : Int) / 12 = Int32.ofInt ((p / 12 : Nat) : Int) ∧ Int32.ofInt (p : Int) - Int32.ofInt (p : Int) / 12 * 12 = Int32.ofInt ((p % 12 : Nat) : Int) := by decide +kernel
theorem i12_0 : ¬ (12 : Int32) = 0 := by decide
def cxP (e dr b : Nat) : Prop := pTr dr b ∨ (e ≤ b ∧ b < e + 97 ∧ b ≠ e + 3 ∧ b ≠ e + 4)
theorem exP_cx {e dr D b : Nat} (hD : D ≤ 6) (h : exP e dr D b) : cxP e dr b := by unfold exP pTr at h; unfold cxP pTr; omega
theorem oP_cx {e dr b : Nat} (h : oP e b) : cxP e dr b := by unfold oP at h; unfold cxP; omega
theorem s_Co_rules {σ : pm_H} {e dr ta tb n p : Nat} {π πa πb : Nat → Nat} {A B : Tr} {st : CS} (hi : cxI σ e dr π st) (hp : st.1[n]? = some p) (ha : isTr σ ta A πa) (hA : okTr A) (hb : isTr σ tb B πb) (hB : okTr B) (d1 : ta + 122 ≤ dr) (d2 : tb + 122 ≤ dr) (d3 : dr + 122 ≤ e) : cV 11 2 [.ref e, .int (Int32.ofInt (n : Int)), .ref ta, .ref tb, .ref dr] σ (fun σ' => cxS σ' e dr π (rulA A.2 B.2 n p st) ∧ fr (cxP e dr) σ σ') := by
  have hn : n < 12 := by
    have h1 := (List.getElem?_eq_some_iff.mp hp).1
    have h2 := hi.2.2.1.2.1.1
    omega
  have p144 := hi.2.2.1.2.1.2 p (List.mem_of_getElem? hp)
  have pd := p_div p p144
  have vn := vi (show n < 12 by omega) (by omega)
  have wn := vc (show n < 2000000 by omega)
  have atn := hi.2.2.1.2.2 n p hp
  have v07 : vp_in (0 : Int32) 7 := by rw [vp_in_iff]; decide
  refine w_Co_addRulesFrom_0 ?_
  simp only [hi.1.1, hi.1.2.1.1, hi.1.2.2.1.1, hi.1.2.2.1.2.1, vn, wn, atn, pd.1, pd.2, i12_0, not_false_eq_true, iv_int, isr_ref, rv_ref, true_and, forall_eq]
  have pd2 := pd.2
  rw [pd.1] at pd2
  rw [pd2]
  have q12 : p % 12 < 12 := Nat.mod_lt _ (by decide)
  generalize hq : p % 12 = q at *
  have vq := vi (show q < 84 by omega) (by omega)
  have wq := vc (show q < 2000000 by omega)
  refine lp (fun i => [.ref e, .int (Int32.ofInt (n : Int)), .ref ta, .ref tb, .ref dr, .int (Int32.ofInt (q : Int)), .int (Int32.ofInt (i : Nat)), pm_U]) (fun i τ => cxS τ e dr π ((A.2.take i).foldl (rulF A.2 B.2 n p) (some st)) ∧ fr (cxP e dr) σ τ) A.2.length (fun i hi' τ hh next => ?_) (fun τ hh => ?_) 0 (Nat.zero_le _) σ ⟨hi, fr.rf⟩
  · obtain ⟨hs, f⟩ := hh
    have aτ := isTr_fr ha f (fun b hb => by unfold pTr at hb; unfold cxP pTr; omega)
    have bτ := isTr_fr hb f (fun b hb => by unfold pTr at hb; unfold cxP pTr; omega)
    have al := aτ.2.2.2.2.1
    have q7 : ¬ Int32.ofInt (A.2.length : Int) ≤ Int32.ofInt (i : Nat) := by rw [oi_le (by omega)]; omega
    have hr := List.getElem?_eq_getElem hi'
    generalize A.2[i] = r at hr
    have ok := hA.at hr
    have es := fold_s (rulF A.2 B.2 n p) (some st) hr
    have ptk := pre_take (as := A.2) (bs := B.2) (n := n) (p := p) (i := i) (st := st)
    generalize ho : (A.2.take i).foldl (rulF A.2 B.2 n p) (some st) = o at hs es ptk
    cases o with
    | none =>
      have hst := rul_stop (as := A.2) ho
      refine w_Co_addRulesFrom_9 ⟨aτ.1.1, fun z ez => ⟨fun qq => ?_, fun _ => ⟨hs.1.1, fun z2 ez2 => ⟨fun _ => ⟨rfl, ?_⟩, fun qq => ?_⟩⟩⟩⟩
      · rw [ez, aτ.2.2.1] at qq; exact absurd qq q7
      · unfold rulA; rw [hst]; exact ⟨hs, f⟩
      · rw [ez2] at qq; exact absurd hs.2.1 qq
    | some s1 =>
      have at_ := aτ.at hr
      have ru := at_.2.2.2
      have hπ := (aτ.2.1.1 i (by omega)).1
      have cτ := hs.1
      have i61 : ¬ (1 : Int32) = 0 := by decide
      have hp1 := (ptk s1 rfl).2 n p hp
      have atn1 := hs.2.2.1.2.2 n p hp1
      have g0 := cτ.2.2.2.1 0 (by decide)
      rw [Nat.add_zero] at g0
      replace es : (A.2.take (i + 1)).foldl (rulF A.2 B.2 n p) (some st) = if rF r = p / 12 ∧ hits (fun s => en r s && opn B.2 (en r) (rTs r) (p % 12) s) = true then ext B.2 r n (rTs r) [] (p % 12) (en r) s1 else some s1 := es
      rw [hq] at es
      have rf := ok.1
      have l6 := ok.2.2.2.1
      refine w_Co_addRulesFrom_9 ?_
      simp only [aτ.1.1, aτ.1.2.1, aτ.1.2.2.1, aτ.1.2.2.2.1, aτ.2.2.1, at_.1, at_.2.1, at_.2.2.1, q7, cτ.1, hs.2.1, i61, ru.1.1, ru.2.1, cτ.2.1.1, cτ.2.2.1.1, cτ.2.2.1.2.1, cτ.2.1.2.2.1, cτ.2.2.1.2.2.2.2.1, cτ.2.2.1.2.2.2.2.2.1, vn, wn, atn1, pd.1, i12_0, v07, c00, g0.1, iv_int, isr_ref, rv_ref, not_false_eq_true, false_implies, true_implies, true_and, forall_eq, oi_s]
      rw [oi_eq (by omega)]
      refine ⟨fun eq => ?_, fun ne => next τ ⟨by rw [es, if_neg (fun h => ne (by rw [h.1]))]; exact hs, f⟩⟩
      have eq' : rF r = p / 12 := by omega
      refine (s_Ru_enabledInto ru g0.2).use (by omega) (fun τ2 e2 => ?_)
      have em := en_mk ok
      rw [em.1, em.2] at e2
      have f2 : fr (fun b => b = e + 6) τ τ2 := by rw [e2]; exact fr_uSy rfl
      have g2 : aSy τ2 (e + 6) (mk (en r)).1 (mk (en r)).2 := by rw [e2]; exact aSy_u g0.2
      have c2 := isCo_fr cτ f2 ⟨by omega, by omega, by omega⟩
      have s2 := cxI_fr hs f2 ⟨by omega, by omega, by omega, by omega⟩ (fun b hb => by unfold pTr at hb; omega)
      have b2 := isTr_fr bτ f2 (fun b hb => by unfold pTr at hb; omega)
      have ru2 : isRu τ2 (ta + 2 + 3 * πa i) r := isRu_fr ru f2 (fun b hb => by unfold pRu at hb; omega)
      have hρ : ta + 2 + 3 * πa i + 3 ≤ dr := by omega
      generalize ta + 2 + 3 * πa i = ρ at *
      refine ⟨c2.1, (s_Co_findOpen c2 ru2 ok b2 hB g2 (by omega) (by omega)).use (by omega) (fun τ3 p3 => ?_)⟩
      obtain ⟨o3, f3⟩ := p3
      have c3 := isCo_fr c2 f3 ⟨by unfold oP; omega, by unfold oP; omega, by unfold oP; omega⟩
      have s3 := cxI_fr s2 f3 ⟨by unfold oP; omega, by unfold oP; omega, by unfold oP; omega, by unfold oP; omega⟩ (fun b hb => by unfold pTr at hb; unfold oP; omega)
      have b3 := isTr_fr b2 f3 (fun b hb => by unfold pTr at hb; unfold oP; omega)
      have ru3 := isRu_fr ru2 f3 (fun b hb => by unfold pRu at hb; unfold oP; omega)
      have g3 := aSy_fr g2 f3 (by unfold oP; omega)
      have f23 : fr (cxP e dr) τ τ3 := (f2.mono (fun b hb => by unfold cxP; omega)).tr (f3.mono (fun b hb => oP_cx hb))
      have h0 := c3.2.2.2.1 0 (by decide)
      rw [Nat.add_zero] at h0
      have hoq := o3 0 (Nat.zero_le _) q q12
      rw [Nat.mul_zero, Nat.zero_add, List.drop_zero] at hoq
      have a3 := c3.2.2.2.2 q (by omega)
      simp only [c3.1, c3.2.1.2.2.1, c3.2.1.2.2.2.1, c3.2.2.1.2.2.2.2.1, c3.2.2.1.2.2.2.2.2.1, c3.2.2.1.2.2.2.2.2.2.1, c3.2.2.1.2.2.2.2.2.2.2.1, v07, c00, h0.1, vq, wq, a3.1, g3.1, iv_int, isr_ref, rv_ref, true_and, forall_eq]
      have mh := meets_hits (p := en r) (p' := opn B.2 (en r) (rTs r) q)
      refine gD (s_meets g3 hoq) (by omega) (fun nh => next τ3 ⟨?_, f.tr f23⟩) (fun yh => ?_)
      · rw [es, if_neg (fun h => nh (mh.mpr h.2))]; exact s3
      · have hit := mh.mp yh
        have hrec := s_Co_extend (n := n) ok hB hn hρ d2 d3 (rTs r) [] q (en r) s1 τ3 s3 ru3 b3 o3 (fun i c t h => by cases h) g3 rfl (fun z hz => by cases hz) q12
        refine ⟨c3.1, hrec.use (by omega) (fun τ5 p5 => next τ5 ⟨?_, f.tr (f23.tr (p5.2.1.mono (fun b hb => exP_cx (Nat.zero_le _) hb)))⟩)⟩
        rw [es, if_pos ⟨eq', hit⟩]; exact p5.1
  · obtain ⟨hs, f⟩ := hh
    have aτ := isTr_fr ha f (fun b hb => by unfold pTr at hb; unfold cxP pTr; omega)
    rw [List.take_length] at hs
    refine w_Co_addRulesFrom_9 ⟨aτ.1.1, fun z ez => ⟨fun _ => ⟨rfl, hs, f⟩, fun qq => ?_⟩⟩
    rw [ez, aτ.2.2.1] at qq; exact absurd (Int32.le_refl _) qq
theorem s_Co_rules_o {σ : pm_H} {e dr ta tb n : Nat} {π πa : Nat → Nat} {A : Tr} (hi : cxO σ e dr π) (ha : isTr σ ta A πa) (hn : n < 12) : cV 1 2 [.ref e, .int (Int32.ofInt (n : Int)), .ref ta, .ref tb, .ref dr] σ (fun σ' => σ' = σ) := by
  have vn := vi (show n < 12 by omega) (by omega)
  refine w_Co_addRulesFrom_0 ?_
  simp only [hi.1.1, hi.1.2.1.1, hi.1.2.2.1.1, hi.1.2.2.1.2.1, vn, i12_0, not_false_eq_true, iv_int, isr_ref, rv_ref, true_and, forall_eq]
  refine w_Co_addRulesFrom_9 ⟨ha.1.1, fun z ez => ⟨fun _ => ⟨rfl, rfl⟩, fun _ => ⟨hi.1.1, fun z2 ez2 => ⟨fun _ => ⟨rfl, rfl⟩, fun qq => ?_⟩⟩⟩⟩
  rw [ez2] at qq; exact absurd hi.2.1 qq
theorem bI_mark (x y : Bool) : bI (x && y) = if x = false then 0 else if y = false then 0 else 1 := by cases x <;> cases y <;> rfl
/-- final states at the end -/
theorem s_Co_build_32 {σ : pm_H} {e dr ta tb : Nat} {π πa πb : Nat → Nat} {A B : Tr} {ps : List Nat} {R : List Rl} {b : Bool} {Q : pm_O → pm_H → Prop} (hc : isCo σ e) (hP : coP σ e ps) (h6 : iv (pm_F σ 6 e) = bI b) (ht : isTr σ dr (0, R) π) (ha : isTr σ ta A πa) (hA : okTr A) (hb : isTr σ tb B πb) (hB : okTr B) (d1 : ta + 122 ≤ dr) (d2 : tb + 122 ≤ dr) (d3 : dr + 122 ≤ e)
    (hQ : ∀ τ, fr (fun b => b = dr) σ τ → isTr τ dr (finA A.1 B.1 ps ps.length, R) π → Q (.inl (some (.int (bI b)))) τ) : pm_R 12 1 32 [.ref e, .ref ta, .ref tb, .ref dr, .int ((0 : Int32))] [] σ Q := by
  have pl := hP.2.1.1
  refine lp (fun i => [.ref e, .ref ta, .ref tb, .ref dr, .int (Int32.ofInt (i : Nat))]) (fun i τ => isTr τ dr (finA A.1 B.1 ps i, R) π ∧ fr (fun b => b = dr) σ τ) ps.length (fun i hi' τ hh next => ?_) (fun τ hh => ?_) 0 (Nat.zero_le _) σ ⟨ht, fr.rf⟩
  · obtain ⟨tτ, f⟩ := hh
    have cτ := isCo_fr hc f ⟨by omega, by omega, by omega⟩
    have Pτ := coP_fr hP f (f.F (by omega)) (by omega)
    have aτ := isTr_fr ha f (fun b hb => by unfold pTr at hb; omega)
    have bτ := isTr_fr hb f (fun b hb => by unfold pTr at hb; omega)
    have q7 : ¬ Int32.ofInt (ps.length : Int) ≤ Int32.ofInt (i : Nat) := by rw [oi_le (by omega)]; omega
    have hp := List.getElem?_eq_getElem hi'
    generalize ps[i] = p at hp
    have p144 := hP.2.1.2 p (List.mem_of_getElem? hp)
    have pd := p_div p p144
    have pd2 := pd.2
    rw [pd.1] at pd2
    have atp := Pτ.2.2 i p hp
    have vn := vi (show i < 12 by omega) (by omega)
    have wn := vc (show i < 2000000 by omega)
    have fm := finA_mk (F := A.1) (G := B.1) (show i < 12 by omega) hp
    have fl : finA A.1 B.1 ps i < 4096 := Nat.lt_of_lt_of_le (finA_lt A.1 B.1 ps i) (Nat.pow_le_pow_right (by decide) (show i ≤ 12 by omega))
    have mark : ∀ (c : Bool) (x : Int32), x = bI c → c = (A.1.testBit (p / 12) && B.1.testBit (p % 12)) → pm_t τ dr = 10 ∧ pm_C 11 101 [.ref dr, .int (Int32.ofInt (i : Nat)), .int x] τ (pm_kV (fun σ5 => pm_R 12 1 32 [.ref e, .ref ta, .ref tb, .ref dr, .int (Int32.ofInt ((i + 1 : Nat) : Int))] [] σ5 Q) (pm_kX 12 1 false [] Q)) := by
      intro c x hx hc
      subst hx
      refine ⟨tτ.1.1, (s_Tr_markFinal tτ fl (show i < 12 by omega)).use (by omega) (fun τ2 p2 => next τ2 ⟨?_, f.tr p2.2⟩)⟩
      have := p2.1
      dsimp only at this
      rw [hc, fm] at this
      exact this
    have e12 : p % 12 < 12 := Nat.mod_lt _ (by decide)
    refine w_Co_build_32 ?_
    simp only [cτ.1, Pτ.1, cτ.2.1.1, cτ.2.2.1.1, cτ.2.2.1.2.1, q7, vn, wn, atp, pd.1, pd2, i12_0, aτ.1.1, iv_int, isr_ref, rv_ref, not_false_eq_true, false_implies, true_implies, true_and, forall_eq, oi_s]
    refine gI (s_Tr_hasFinal aτ hA.1 (show p / 12 < 12 by omega)) (by omega) (fun x => ?_) (fun x => ?_)
    · exact mark false 0 rfl (by rw [x]; rfl)
    simp only [cτ.1, cτ.2.1.1, cτ.2.2.1.1, cτ.2.2.1.2.1, vn, wn, atp, pd.1, pd2, i12_0, bτ.1.1, iv_int, isr_ref, rv_ref, not_false_eq_true, true_and, forall_eq]
    refine gI (s_Tr_hasFinal bτ hB.1 e12) (by omega) (fun y => ?_) (fun y => ?_)
    · exact mark false 0 rfl (by rw [x, y]; rfl)
    · exact mark true 1 rfl (by rw [x, y]; rfl)
  · obtain ⟨tτ, f⟩ := hh
    have cτ := isCo_fr hc f ⟨by omega, by omega, by omega⟩
    have Pτ := coP_fr hP f (f.F (by omega)) (by omega)
    have h6' : iv (pm_F τ 6 e) = bI b := by rw [f.F (by omega)]; exact h6
    refine w_Co_build_32 ⟨cτ.1, fun z ez => ⟨fun _ => ⟨cτ.1, fun z2 e2 => ?_⟩, fun qq => ?_⟩⟩
    · rw [e2, h6']; exact ⟨bI_and b, hQ τ f tτ⟩
    · rw [ez, Pτ.1] at qq; exact absurd (Int32.le_refl _) qq
theorem s_Co_build_15o {e dr ta tb : Nat} {π πa : Nat → Nat} {A : Tr} {σ : pm_H} {Q : pm_O → pm_H → Prop} (h : cxO σ e dr π) (ha : isTr σ ta A πa) (hQ : pm_R 12 1 32 [.ref e, .ref ta, .ref tb, .ref dr, .int ((0 : Int32))] [] σ Q) : ∀ k n : Nat, n + k = 12 → pm_R 12 1 15 [.ref e, .ref ta, .ref tb, .ref dr, .int (Int32.ofInt (n : Int))] [] σ Q := by
  intro k
  induction k with
  | zero =>
    intro n hn
    refine w_Co_build_15 ⟨fun _ => hQ, fun q => ?_⟩
    rw [z_12le (n := n) (Nat.le_refl _) (by omega)] at q; omega
  | succ k ih =>
    intro n hn
    refine w_Co_build_15 ⟨fun _ => hQ, fun _ => ⟨h.1.1, fun z ez => ⟨fun _ => hQ, fun _ => ⟨h.1.1, (s_Co_rules_o h ha (show n < 12 by omega)).use (by omega) (fun σ' e' => ?_)⟩⟩⟩⟩
    rw [e', oi_s]
    exact ih (n + 1) (by omega)
theorem s_Co_build_15 {e dr ta tb : Nat} {π πa πb : Nat → Nat} {A B : Tr} {σ0 : pm_H} {Q : pm_O → pm_H → Prop} (hA : okTr A) (hB : okTr B) (d1 : ta + 122 ≤ dr) (d2 : tb + 122 ≤ dr) (d3 : dr + 122 ≤ e) (ha : isTr σ0 ta A πa) (hb : isTr σ0 tb B πb) (o : Option CS) (hQ : ∀ τ, fr (cxP e dr) σ0 τ → cxS τ e dr π o → pm_R 12 1 32 [.ref e, .ref ta, .ref tb, .ref dr, .int ((0 : Int32))] [] τ Q) : ∀ (k n : Nat) (st : CS) (σ : pm_H), n + k = 12 → bld A.2 B.2 k n st = o → cxI σ e dr π st → fr (cxP e dr) σ0 σ → pm_R 12 1 15 [.ref e, .ref ta, .ref tb, .ref dr, .int (Int32.ofInt (n : Int))] [] σ Q := by
  intro k
  induction k with
  | zero =>
    intro n st σ hn ho hi f
    have ho' : some st = o := ho
    refine w_Co_build_15 ⟨fun _ => hQ σ f (by rw [← ho']; exact hi), fun q => ?_⟩
    rw [z_12le (n := n) (Nat.le_refl _) (by omega)] at q; omega
  | succ k ih =>
    intro n st σ hn ho hi f
    have aσ := isTr_fr ha f (fun b hb => by unfold pTr at hb; unfold cxP pTr; omega)
    have bσ := isTr_fr hb f (fun b hb => by unfold pTr at hb; unfold cxP pTr; omega)
    have pl := hi.2.2.1.2.1.1
    replace ho : (match st.1[n]? with
    | none => some st
    | some p => match rulA A.2 B.2 n p st with
      | none => none
      | some st' => bld A.2 B.2 k (n + 1) st') = o := ho
    refine w_Co_build_15 ⟨fun q => ?_, fun _ => ⟨hi.1.1, fun z ez => ⟨fun q => ?_, fun q => ⟨hi.1.1, ?_⟩⟩⟩⟩
    · rw [z_12le (n := n) (Nat.le_refl _) (by omega)] at q; omega
    · rw [ez, hi.2.2.1.1, oi_le (by omega)] at q
      rw [List.getElem?_eq_none (by omega)] at ho
      exact hQ σ f (by rw [← ho]; exact hi)
    · rw [ez, hi.2.2.1.1, oi_le (by omega)] at q
      have hp := List.getElem?_eq_getElem (show n < st.1.length by omega)
      generalize st.1[n] = p at hp
      rw [hp] at ho
      dsimp only at ho
      refine (s_Co_rules hi hp aσ hA bσ hB d1 d2 d3).use (by omega) (fun σ' p' => ?_)
      rw [oi_s]
      have hs := p'.1
      have f' := f.tr p'.2
      have aσ' := isTr_fr ha f' (fun b hb => by unfold pTr at hb; unfold cxP pTr; omega)
      cases er : rulA A.2 B.2 n p st with
      | none =>
        rw [er] at hs ho
        exact s_Co_build_15o hs aσ' (hQ σ' f' (by rw [← ho]; exact hs)) k (n + 1) (by omega)
      | some st' =>
        rw [er] at hs ho
        exact ih (n + 1) st' σ' (by omega) ho hs f'
def cmpS (A B : Tr) : Option CS := bld A.2 B.2 12 0 ([0], [])
theorem s_Co_build {σ : pm_H} {e dr ta tb : Nat} {π πa πb : Nat → Nat} {A B : Tr} (hc : isCo σ e) (ht : isTr0 σ dr π) (ha : isTr σ ta A πa) (hA : okTr A) (hb : isTr σ tb B πb) (hB : okTr B) (d1 : ta + 122 ≤ dr) (d2 : tb + 122 ≤ dr) (d3 : dr + 122 ≤ e) : cIP 12 1 [.ref e, .ref ta, .ref tb, .ref dr] σ (bI (cmpS A B).isSome) (fun σ' => fr (cxP e dr) σ σ' ∧ isCo σ' e ∧ match cmpS A B with
    | none => isTr0 σ' dr π
    | some st => isTr σ' dr (finA A.1 B.1 st.1 st.1.length, st.2) π ∧ st.1.length ≤ 12 ∧ ∀ r, r ∈ st.2 → okR r) := by
  have v12 : vp_in (0 : Int32) 12 := by rw [vp_in_iff]; decide
  refine w_Co_build_0 ⟨ht.1.1, (s_Tr_clear0 ht).use (by omega) (fun σ1 p1 => ?_)⟩
  have c1 := isCo_fr hc p1.2 ⟨by omega, by omega, by omega⟩
  have f1 : fr (cxP e dr) σ σ1 := p1.2.mono (fun b hb => by unfold cxP pTr; omega)
  simp only [c1.1, c1.2.1.1, c1.2.2.1.1, c1.2.2.1.2.1, t_sF, t_sA, l_sF, F_sF, v12, c00, isr_ref, rv_ref, Nat.reduceEqDiff, false_and, if_false, true_and, forall_eq]
  refine ⟨rfl, ?_⟩
  have f2 : fr (fun b => b = e ∨ b = e + 1) σ1 (pm_sF (pm_sA (pm_sF σ1 6 e (.int ((1 : Int32)))) (e + 1) 0 (.int ((0 : Int32)))) 1 e (.int ((1 : Int32)))) := ((fr_sF (P := fun b => b = e ∨ b = e + 1) (Or.inl rfl)).tr (fr_sA (Or.inr rfl))).tr (fr_sF (Or.inl rfl))
  have F2 : ∀ f, f ≠ 1 → f ≠ 6 → pm_F (pm_sF (pm_sA (pm_sF σ1 6 e (.int ((1 : Int32)))) (e + 1) 0 (.int ((0 : Int32)))) 1 e (.int ((1 : Int32)))) f e = pm_F σ1 f e := fun f h1 h6 => by
    rw [F_sF, if_neg (fun x => h1 x.1), F_sA, F_sF, if_neg (fun x => h6 x.1)]
  have i2 : cxI (pm_sF (pm_sA (pm_sF σ1 6 e (.int ((1 : Int32)))) (e + 1) 0 (.int ((0 : Int32)))) 1 e (.int ((1 : Int32)))) e dr π ([0], []) := by
    refine ⟨isCo_k c1 f2 F2 ⟨by omega, by omega⟩, ?_, ⟨?_, ⟨by decide, fun q hq => ?_⟩, fun i p hi => ?_⟩, isTr_fr p1.1 f2 (fun b hb => by unfold pTr at hb; omega), fun r hr => by cases hr⟩
    · rw [F_sF, if_neg (by omega), F_sA, F_sF, if_pos ⟨rfl, rfl⟩]; rfl
    · rw [F_sF, if_pos ⟨rfl, rfl⟩]; rfl
    · rw [List.mem_singleton.mp hq]; decide
    · cases i with
      | zero => cases hi; rw [A_sF, A_sA, if_pos ⟨rfl, rfl⟩]; rfl
      | succ i => cases hi
  have fs := f1.tr (f2.mono (fun b hb => by unfold cxP; omega : ∀ b, b = e ∨ b = e + 1 → cxP e dr b))
  generalize pm_sF (pm_sA (pm_sF σ1 6 e (.int ((1 : Int32)))) (e + 1) 0 (.int ((0 : Int32)))) 1 e (.int ((1 : Int32))) = σ2 at *
  refine s_Co_build_15 hA hB d1 d2 d3 ha hb (cmpS A B) (fun τ f hs => ?_) 12 0 ([0], []) σ2 rfl rfl i2 fs
  have aτ := isTr_fr ha f (fun b hb => by unfold pTr at hb; unfold cxP pTr; omega)
  have bτ := isTr_fr hb f (fun b hb => by unfold pTr at hb; unfold cxP pTr; omega)
  generalize cmpS A B = o at hs
  cases o with
  | none =>
    obtain ⟨c, h6, ps, T, hP, hT, h0⟩ := hs
    obtain ⟨T1, T2⟩ := T
    cases h0
    refine s_Co_build_32 (b := false) c hP h6 hT aτ hA bτ hB d1 d2 d3 (fun τ2 f2 t2 => ⟨rfl, f.tr (f2.mono (fun b hb => by unfold cxP pTr; omega)), isCo_fr c f2 ⟨by omega, by omega, by omega⟩, t2.z⟩)
  | some st =>
    obtain ⟨c, h6, hP, hT, hR⟩ := hs
    exact s_Co_build_32 (b := true) c hP h6 hT aτ hA bτ hB d1 d2 d3 (fun τ2 f2 t2 => ⟨rfl, f.tr (f2.mono (fun b hb => by unfold cxP pTr; omega)), isCo_fr c f2 ⟨by omega, by omega, by omega⟩, t2, hP.2.1.1, hR⟩)
