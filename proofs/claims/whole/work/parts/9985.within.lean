/-! ===== domains dwin one another ===== -/
def dpr (R1 R2 : List Rl) (q S : Nat) : Prop := ∀ C : Nat → Nat → Prop, C 0 1 → (∀ p S s q, C p S → p < 12 → S < 4096 → s < 100 → q < 12 → (tg R1 p s).testBit q = true → C q (aft R2 S s)) → C q S
def dwin (T1 T2 : Tr) : Prop := ∀ q S, dpr T1.2 T2.2 q S → T1.1.testBit q = true → S &&& T2.1 ≠ 0
noncomputable def wiB (T1 T2 : Tr) : Bool := @decide (dwin T1 T2) (Classical.propDecidable _)
theorem wiB_t {T1 T2 : Tr} (h : dwin T1 T2) : wiB T1 T2 = true := by unfold wiB; exact @decide_eq_true _ (Classical.propDecidable _) h
theorem wiB_f {T1 T2 : Tr} (h : ¬ dwin T1 T2) : wiB T1 T2 = false := by unfold wiB; exact @decide_eq_false _ (Classical.propDecidable _) h
theorem dpr_0 {R1 R2 : List Rl} : dpr R1 R2 0 1 := fun _ h _ => h
theorem dpr_s {R1 R2 : List Rl} {p S s q : Nat} (h : dpr R1 R2 p S) (hp : p < 12) (hS : S < 4096) (hs : s < 100) (hq : q < 12) (ht : (tg R1 p s).testBit q = true) : dpr R1 R2 q (aft R2 S s) := fun C c0 cs => cs p S s q (h C c0 cs) hp hS hs hq ht
def dif (a b : Nat) : Nat := a &&& (4095 - b)
theorem bit_dif {a b : Nat} (ha : a < 4096) (hb : b < 4096) (q : Nat) : (dif a b).testBit q = (a.testBit q && !b.testBit q) := by
  unfold dif
  rw [Nat.testBit_and, show 4095 - b = 2 ^ 12 - (b + 1) by omega, Nat.testBit_two_pow_sub_succ hb]
  cases e : a.testBit q with
  | false => rfl
  | true => rw [decide_eq_true (bit_12 ha e)]; rfl
theorem i_not64 : ∀ a : Nat, a < 64 → ∀ c : Nat, c < 64 → (Int32.ofInt ((64 * a + c : Nat) : Int) ^^^ (-1)) &&& 4095 = Int32.ofInt ((4095 - (64 * a + c) : Nat) : Int) := by decide +kernel
theorem i_not {b : Nat} (h : b < 4096) : (Int32.ofInt (b : Int) ^^^ (-1)) &&& 4095 = Int32.ofInt ((4095 - b : Nat) : Int) := by
  have := i_not64 (b / 64) (by omega) (b % 64) (by omega)
  rw [show 64 * (b / 64) + b % 64 = b by omega] at this; exact this
theorem i_dif {a b : Nat} (ha : a < 4096) (hb : b < 4096) : Int32.ofInt (a : Int) &&& (Int32.ofInt (b : Int) ^^^ (-1)) = Int32.ofInt ((dif a b : Nat) : Int) := by
  have h2 : Int32.ofInt (a : Int) = Int32.ofInt (a : Int) &&& 4095 := by
    rw [oi_lit 4095, show ((OfNat.ofNat 4095 : Int)) = ((4095 : Nat) : Int) from rfl, i_andN]
    have : a &&& 4095 = a % 2 ^ 12 := Nat.and_two_pow_sub_one_eq_mod a 12
    rw [this, Nat.mod_eq_of_lt ha]
  rw [h2, Int32.and_assoc, Int32.and_comm 4095, i_not hb, i_andN]
  rfl
theorem dif_lt {a b : Nat} (ha : a < 4096) : dif a b < 4096 := and_lt4 ha
theorem lt_12 {a : Nat} (h : ∀ q, a.testBit q = true → q < 12) : a < 4096 := by
  refine Nat.lt_pow_two_of_testBit (n := 12) a (fun i hi => ?_)
  cases e : a.testBit i with
  | false => rfl
  | true => have := h i e; omega
theorem bit_0 {a : Nat} (h : ∀ q, a.testBit q = false) : a = 0 := Nat.eq_of_testBit_eq (fun q => by rw [h q, Nat.zero_testBit])
def updN (M : Nat → Nat) (S v j : Nat) : Nat := if j = S then v else M j
theorem updN_eq {M : Nat → Nat} {S v : Nat} : updN M S v S = v := if_pos rfl
theorem updN_ne {M : Nat → Nat} {S v j : Nat} (h : j ≠ S) : updN M S v j = M j := if_neg h
theorem updN_id {M : Nat → Nat} {S v : Nat} (h : v = M S) : updN M S v = M := by
  funext j
  unfold updN
  by_cases c : j = S
  · rw [if_pos c, h, c]
  · rw [if_neg c]
def pM (e b : Nat) : Prop := b = e ∨ b = e + 9 ∨ b = e + 11 ∨ b = e + 12
def frW (e : Nat) (σ σ' : pm_H) : Prop := fr (pM e) σ σ' ∧ ∀ f, f ≠ 109 → f ≠ 110 → pm_F σ' f e = pm_F σ f e
theorem frW_rf {e : Nat} {σ : pm_H} : frW e σ σ := ⟨fr.rf, fun _ _ _ => rfl⟩
theorem frW_tr {e : Nat} {σ σ1 σ2 : pm_H} (h : frW e σ σ1) (g : frW e σ1 σ2) : frW e σ σ2 := ⟨h.1.tr g.1, fun f h1 h2 => (g.2 f h1 h2).trans (h.2 f h1 h2)⟩
theorem frW_sF {e f : Nat} {σ : pm_H} {v : Value} (hf : f = 109 ∨ f = 110) : frW e σ (pm_sF σ f e v) := ⟨fr_sF (Or.inl rfl), fun g h1 h2 => by rw [F_sF, if_neg (fun q => by omega)]⟩
theorem frW_sA {e i j : Nat} {σ : pm_H} {v : Value} (h : i = 9 ∨ i = 11 ∨ i = 12) : frW e σ (pm_sA σ (e + i) j v) := ⟨fr_sA (by unfold pM; omega), fun _ _ _ => rfl⟩
theorem frW_d {e : Nat} {σ σ' : pm_H} (h : frW e σ σ') (hd : doS σ e) : doS σ' e :=
  doS_st hd h.1 (fun f _ h2 h3 => h.2 f h2 h3) (stS_fr hd.2.2.2.1 h.1 (by unfold pM; omega)) (stS_fr hd.2.2.2.2 h.1 (by unfold pM; omega))
theorem frW_g {e : Nat} {σ σ' : pm_H} {G : List (Nat × Nat)} (h : frW e σ σ') (hg : isG σ e G) : isG σ' e G :=
  ⟨by rw [h.2 104 (by decide) (by decide)]; exact hg.1, fun i x hx => by rw [h.1.A (by unfold pM; omega), h.1.A (by unfold pM; omega)]; exact hg.2 i x hx⟩
theorem frW_1 {e : Nat} {σ σ' : pm_H} {T : Tr} (h : frW e σ σ') (hs : isSt σ (e + 1) T) : isSt σ' (e + 1) T := isSt_fr hs h.1 (fun b hb => by unfold pSt at hb; unfold pM; omega)
theorem frW_3 {e : Nat} {σ σ' : pm_H} {T : Tr} (h : frW e σ σ') (hs : isSt σ (e + 3) T) : isSt σ' (e + 3) T := isSt_fr hs h.1 (fun b hb => by unfold pSt at hb; unfold pM; omega)
/-- what was met, what waits, in which order -/
def mI (σ : pm_H) (e : Nat) (M W : Nat → Nat) (ws : List Nat) (f : Nat) : Prop := (∀ S, S < 4096 → iv (pm_A σ (e + 11) S) = Int32.ofInt (M S : Int)) ∧ (∀ S, S < 4096 → iv (pm_A σ (e + 12) S) = Int32.ofInt (W S : Int)) ∧ iv (pm_F σ 110 e) = Int32.ofInt (f : Int) ∧ f < 4096 ∧ iv (pm_F σ 109 e) = Int32.ofInt (ws.length : Int) ∧ (∀ (k S : Nat), ws[k]? = some S → iv (pm_A σ (e + 9) ((f + k) % 4096)) = Int32.ofInt (S : Int)) ∧ ws.Nodup ∧ (∀ S : Nat, S ∈ ws ↔ S < 4096 ∧ W S ≠ 0) ∧ ∀ S, S < 4096 → M S < 4096 ∧ W S < 4096
theorem i32_r4096 {a : Nat} (ha : a < 100000) : Int32.ofInt (a : Int) - Int32.ofInt (a : Int) / 4096 * 4096 = Int32.ofInt ((a % 4096 : Nat) : Int) := by
  have := pk_rem (a := a) (d := 4096) (by omega) (by omega) (by omega)
  rw [oi_nI, oi_nI, ← this]
  rfl
theorem i32_n4096 : ¬ ((4096 : Int32) = 0) := by decide
theorem or_dif {a b : Nat} (ha : a < 4096) (hb : b < 4096) : b ||| dif a b = b ||| a := by
  refine Nat.eq_of_testBit_eq (fun q => ?_)
  rw [Nat.testBit_or, Nat.testBit_or, bit_dif ha hb]
  cases b.testBit q <;> cases a.testBit q <;> rfl
def mtQ (σ : pm_H) (e Y S f : Nat) (M W : Nat → Nat) (T1 T2 : Tr) (o : pm_O) (σ' : pm_H) : Prop := frW e σ σ' ∧ ((o = .inl (some (.int 0)) ∧ ∃ q, Y.testBit q = true ∧ T1.1.testBit q = true ∧ S &&& T2.1 = 0) ∨ (o = .inl (some (.int 1)) ∧ (∀ q, Y.testBit q = true → (M S).testBit q = false → T1.1.testBit q = true → S &&& T2.1 ≠ 0) ∧ ∃ ws', mI σ' e (updN M S (M S ||| Y)) (updN W S (W S ||| dif Y (M S))) ws' f))
theorem and_ne {a b : Nat} : a &&& b ≠ 0 ↔ ∃ q, a.testBit q = true ∧ b.testBit q = true := by
  constructor
  · intro h
    by_cases c : ∃ q, a.testBit q = true ∧ b.testBit q = true
    · exact c
    · refine absurd (bit_0 (fun q => ?_)) h
      rw [Nat.testBit_and]
      cases ea : a.testBit q with
      | false => rfl
      | true => cases eb : b.testBit q with
        | false => rfl
        | true => exact absurd ⟨q, ea, eb⟩ c
  · rintro ⟨q, h1, h2⟩ h
    have := congrArg (fun n => n.testBit q) h
    simp only [Nat.testBit_and, h1, h2, Nat.zero_testBit] at this
    exact absurd this (by decide)
theorem s_Do_meet {σ : pm_H} {e Y S f : Nat} {M W : Nat → Nat} {ws : List Nat} {T1 T2 : Tr} (hd : doS σ e) (h1 : isSt σ (e + 1) T1) (h2 : isSt σ (e + 3) T2) (hI : mI σ e M W ws f) (hY : Y < 4096) (hS : S < 4096) : pm_C 1 15 [.ref e, .int (Int32.ofInt (Y : Int)), .int (Int32.ofInt (S : Int))] σ (mtQ σ e Y S f M W T1 T2) := by
  have hI0 := hI
  obtain ⟨i1, i2, i3, i4, i5, i6, i7, i8, i9⟩ := hI
  have mS := (i9 S hS).1
  have vS := vi hS (by omega)
  have wS := vc (show S < 2000000 by omega)
  have dl := dif_lt (b := M S) hY
  refine w_Do_meet_0 ?_
  simp only [hd.1, hd.2.1.1, hd.2.1.2.1, hd.2.1.2.2.2.2.2.2.2.2.1, hd.2.2.1.2.2.2.2.2.2.2.2.2.2.2.2.1, hd.2.2.1.2.2.2.2.2.2.2.2.2.2.2.2.2.1, vS, wS, i1 S hS, i_dif hY mS, isr_ref, rv_ref, true_and, forall_eq]
  rw [i_0 (by omega)]
  refine ⟨fun d0 => ?_, fun d0 => ?_⟩
  · -- nothing is fresh
    have no : ∀ q, Y.testBit q = true → (M S).testBit q = true := fun q hq => by
      have := congrArg (fun n => n.testBit q) d0
      simp only [bit_dif hY mS, hq, Nat.zero_testBit, Bool.true_and] at this
      cases e : (M S).testBit q with
      | true => rfl
      | false => rw [e] at this; cases this
    have eM : updN M S (M S ||| Y) = M := updN_id (by rw [← or_dif hY mS, d0, Nat.or_zero])
    have eW : updN W S (W S ||| dif Y (M S)) = W := updN_id (by rw [d0, Nat.or_zero])
    refine ⟨rfl, frW_rf, Or.inr ⟨rfl, fun q hq hm => (by rw [no q hq] at hm; cases hm), ws, ?_⟩⟩
    rw [eM, eW]; exact hI0
  have fin : ∀ (H : pm_H) (ws' : List Nat), (∀ q, Y.testBit q = true → (M S).testBit q = false → T1.1.testBit q = true → S &&& T2.1 ≠ 0) → frW e σ H → (∀ j, pm_A H (e + 11) j = if j = S then .int (Int32.ofInt ((M S ||| dif Y (M S) : Nat) : Int)) else pm_A σ (e + 11) j) → (∀ j, pm_A H (e + 12) j = if j = S then .int (Int32.ofInt ((W S ||| dif Y (M S) : Nat) : Int)) else pm_A σ (e + 12) j) → iv (pm_F H 110 e) = Int32.ofInt (f : Int) → iv (pm_F H 109 e) = Int32.ofInt (ws'.length : Int) → (∀ (k S' : Nat), ws'[k]? = some S' → iv (pm_A H (e + 9) ((f + k) % 4096)) = Int32.ofInt (S' : Int)) → ws'.Nodup → (∀ S', S' ∈ ws' ↔ S' < 4096 ∧ updN W S (W S ||| dif Y (M S)) S' ≠ 0) → mtQ σ e Y S f M W T1 T2 (.inl (some (.int ((1 : Int32))))) H := by
    intro H ws' good c1 c2 c3 c4 c5 c6 c7 c8
    refine ⟨c1, Or.inr ⟨rfl, good, ws', fun S' hS' => ?_, fun S' hS' => ?_, c4, i4, c5, c6, c7, c8, fun S' hS' => ?_⟩⟩
    · rw [c2]
      unfold updN
      by_cases c : S' = S
      · rw [if_pos c, if_pos c, or_dif hY mS]; rfl
      · rw [if_neg c, if_neg c]; exact i1 S' hS'
    · rw [c3]
      unfold updN
      by_cases c : S' = S
      · rw [if_pos c, if_pos c]; rfl
      · rw [if_neg c, if_neg c]; exact i2 S' hS'
    · unfold updN
      by_cases c : S' = S
      · rw [if_pos c, if_pos c]; exact ⟨or_lt mS hY, or_lt (i9 S hS).2 dl⟩
      · rw [if_neg c, if_neg c]; exact i9 S' hS'
  have wne : W S ||| dif Y (M S) ≠ 0 := fun q => d0 (Nat.or_eq_zero_iff.mp q).2
  -- the set takes the fresh states
  have R25 : (∀ q, Y.testBit q = true → (M S).testBit q = false → T1.1.testBit q = true → S &&& T2.1 ≠ 0) → pm_R 1 15 25 [.ref e, pm_U, .int (Int32.ofInt (S : Int)), .int (Int32.ofInt ((dif Y (M S) : Nat) : Int))] [] σ (mtQ σ e Y S f M W T1 T2) := by
    intro good
    refine w_Do_meet_25 ?_
    simp only [hd.1, hd.2.1.2.2.2.2.2.2.2.2.1, hd.2.1.2.2.2.2.2.2.2.2.2.1, hd.2.2.1.2.2.2.2.2.2.2.2.2.2.2.2.1, hd.2.2.1.2.2.2.2.2.2.2.2.2.2.2.2.2.1, hd.2.2.1.2.2.2.2.2.2.2.2.2.2.2.2.2.2.1, hd.2.2.1.2.2.2.2.2.2.2.2.2.2.2.2.2.2.2.1, t_sA, l_sA, F_sA, A_sA, Nat.reduceEqDiff, Nat.left_eq_add, Nat.add_eq_left, Nat.one_ne_zero, false_and, if_false, vS, wS, i1 S hS, i2 S hS, i_orN, isr_ref, rv_ref, true_and, forall_eq]
    rw [i_0 (by have := (i9 S hS).2; omega)]
    refine ⟨fun w0 => ?_, fun w0 => ?_⟩
    · have sn : S ∉ ws := fun q => ((i8 S).mp q).2 w0
      have nd := nodup_app i7 sn
      have nl := nodup_len nd (N := 4096) (fun y hy => by
        rcases List.mem_append.mp hy with q | q
        · exact ((i8 y).mp q).1
        · rw [List.mem_singleton.mp q]; exact hS)
      rw [List.length_append] at nl
      have nl' : ws.length < 4096 := nl
      have vx := vi (show (f + ws.length) % 4096 < 4096 by omega) (by omega)
      have wx := vc (show (f + ws.length) % 4096 < 2000000 by omega)
      simp only [hd.1, hd.2.1.2.2.2.2.2.2.1, hd.2.1.2.2.2.2.2.2.2.2.2.1, hd.2.2.1.2.2.2.2.2.2.2.2.1, hd.2.2.1.2.2.2.2.2.2.2.2.2.1, hd.2.2.1.2.2.2.2.2.2.2.2.2.2.2.2.2.2.1, hd.2.2.1.2.2.2.2.2.2.2.2.2.2.2.2.2.2.2.1, t_sA, l_sA, F_sA, A_sA, t_sF, l_sF, F_sF, A_sF, Nat.reduceEqDiff, Nat.left_eq_add, Nat.add_eq_left, Nat.one_ne_zero, false_and, if_false, and_true, if_true, vS, wS, vx, wx, i2 S hS, i3, i5, oi_addN, i32_r4096 (show f + ws.length < 100000 by omega), i32_n4096, not_false_eq_true, i_orN, isr_ref, rv_ref, true_and, forall_eq, oi_s]
      refine ⟨rfl, fin _ (ws ++ [S]) good (frW_tr (frW_tr (frW_tr (frW_sA (by omega)) (frW_sA (by omega))) (frW_sF (by omega))) (frW_sA (by omega))) (fun j => ?_) (fun j => ?_) ?_ ?_ (fun k S' hk => ?_) nd (fun S' => ?_)⟩
      · simp only [A_sA, A_sF, Nat.reduceEqDiff, Nat.left_eq_add, Nat.add_eq_left, Nat.one_ne_zero, false_and, true_and, if_false]
      · simp only [A_sA, A_sF, Nat.reduceEqDiff, Nat.left_eq_add, Nat.add_eq_left, Nat.one_ne_zero, false_and, true_and, if_false]
      · simp only [F_sA, F_sF, Nat.reduceEqDiff, Nat.left_eq_add, Nat.add_eq_left, Nat.one_ne_zero, false_and, if_false]; exact i3
      · simp only [F_sA, F_sF, and_true, if_true, List.length_append]; rfl
      · simp only [A_sA, A_sF, Nat.reduceEqDiff, Nat.left_eq_add, Nat.add_eq_left, Nat.one_ne_zero, false_and, true_and, if_false]
        rcases getA hk with q | ⟨q, q2⟩
        · have := (List.getElem?_eq_some_iff.mp q).1
          rw [if_neg (by omega)]; exact i6 k S' q
        · rw [if_pos (by rw [q]), q2]; rfl
      · rw [List.mem_append, List.mem_singleton, i8 S']
        unfold updN
        by_cases c : S' = S
        · rw [if_pos c]; exact ⟨fun _ => ⟨by omega, wne⟩, fun _ => Or.inr c⟩
        · rw [if_neg c]; exact ⟨fun q => q.elim id (fun q => absurd q c), fun q => Or.inl q⟩
    · try simp only [hd.1, hd.2.1.2.2.2.2.2.2.2.2.2.1, hd.2.2.1.2.2.2.2.2.2.2.2.2.2.2.2.2.2.1, hd.2.2.1.2.2.2.2.2.2.2.2.2.2.2.2.2.2.2.1, t_sA, l_sA, F_sA, A_sA, Nat.reduceEqDiff, Nat.left_eq_add, Nat.add_eq_left, Nat.one_ne_zero, false_and, if_false, vS, wS, i2 S hS, i_orN, isr_ref, rv_ref, true_and, forall_eq]
      refine ⟨rfl, fin _ ws good (frW_tr (frW_sA (by omega)) (frW_sA (by omega))) (fun j => ?_) (fun j => ?_) i3 i5 (fun k S' hk => ?_) i7 (fun S' => ?_)⟩
      · simp only [A_sA, Nat.reduceEqDiff, Nat.left_eq_add, Nat.add_eq_left, Nat.one_ne_zero, false_and, true_and, if_false]
      · simp only [A_sA, Nat.reduceEqDiff, Nat.left_eq_add, Nat.add_eq_left, Nat.one_ne_zero, false_and, true_and, if_false]
      · simp only [A_sA, Nat.reduceEqDiff, Nat.left_eq_add, Nat.add_eq_left, Nat.one_ne_zero, false_and, if_false]; exact i6 k S' hk
      · rw [i8 S']
        unfold updN
        by_cases c : S' = S
        · rw [if_pos c, c]; exact ⟨fun _ => ⟨hS, wne⟩, fun _ => ⟨hS, w0⟩⟩
        · rw [if_neg c]
  simp only [h1.1.1]
  refine ⟨trivial, gD (s_St_isAccepting h1 dl) (by omega) (fun c => R25 (fun q hq hm hf => ?_)) (fun c => ?_)⟩
  · exact absurd (and_ne.mpr ⟨q, by rw [bit_dif hY mS, hq, hm]; rfl, hf⟩) c
  · simp only [hd.1, hd.2.1.2.1, h2.1.1, isr_ref, rv_ref, true_and, forall_eq]
    refine gD (s_St_isAccepting h2 hS) (by omega) (fun c2 => ⟨rfl, frW_rf, Or.inl ⟨rfl, ?_⟩⟩) (fun c2 => R25 (fun _ _ _ _ => c2))
    obtain ⟨q, q1, q2⟩ := and_ne.mp c
    rw [bit_dif hY mS, Bool.and_eq_true] at q1
    exact ⟨q, q1.1, q2, by omega⟩
