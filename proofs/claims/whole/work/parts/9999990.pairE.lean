/-! ===== an entry is kept; whether outputs fit ===== -/
theorem pow_le1 (k : Nat) : 1 ≤ 2 ^ k := Nat.one_le_two_pow
/-- the pool is made twice as long -/
theorem s_Pa_grow {σ : pm_H} {e N0 p k : Nat} {H : Nat → Bool} {S : List Ent} {x y : List Nat} (hN : e + 9 ≤ N0) (hn0 : N0 ≤ pm_n σ) (hs : paS σ e N0 p k H S) (hT : fsT σ e x y) (hk : k < 8) : ∀ σ', σ' = pm_sF (pm_cp (pm_new σ 100 (2 * pm_l σ p) (2 * pm_l σ p)) p 0 (pm_n σ) 0 (pm_l σ p)) 406 e (.ref (pm_n σ)) → paS σ' e N0 (pm_n σ) (k + 1) H S ∧ fsT σ' e x y ∧ gr e N0 k (k + 1) σ σ' := by
  intro σ' es
  obtain ⟨hz, hp, hh, h1, ⟨q, h2, h3, h4, h5⟩, h6⟩ := hs
  have pn := hp.ne hN
  have pl : p < pm_n σ := by
    rcases hp.2.1 with c | c
    · omega
    · exact c.2
  have hlp := hp.2.2.2.2.1
  have p2 : 2 ^ (k + 1) = 2 * 2 ^ k := by rw [Nat.pow_succ, Nat.mul_comm]
  have F' : ∀ f a, ¬ (f = 406 ∧ a = e) → a < pm_n σ → pm_F σ' f a = pm_F σ f a := fun f a h h' => by
    rw [es, F_sF, if_neg h, F_cp, F_new, if_neg (by omega)]
  have A' : ∀ a j, a < pm_n σ → pm_A σ' a j = pm_A σ a j := fun a j h => by
    rw [es, A_sF, A_cp, if_neg (by omega), A_new, if_neg (by omega)]
  have t' : ∀ a, a < pm_n σ → pm_t σ' a = pm_t σ a := fun a h => by
    rw [es, t_sF, t_cp, t_new, if_neg (by omega)]
  have l' : ∀ a, a < pm_n σ → pm_l σ' a = pm_l σ a := fun a h => by
    rw [es, l_sF, l_cp, l_new, if_neg (by omega)]
  have An : ∀ j, j < pm_l σ p → pm_A σ' (pm_n σ) j = pm_A σ p j := fun j h => by
    rw [es, A_sF, A_cp, if_pos ⟨rfl, by omega, by omega⟩, A_new, if_neg (by omega), Nat.zero_add, Nat.sub_zero]
  have n' : pm_n σ' = pm_n σ + 1 := by rw [es, n_sF, n_cp, n_new]
  have w' : pm_w σ' = pm_w σ + 2 * pm_l σ p := by rw [es, w_sF, w_cp, w_new]
  refine ⟨⟨?_, ⟨?_, Or.inr ⟨hn0, by omega⟩, ?_, by omega, ?_, Or.inr hn0⟩, fun j hj => by rw [A' _ _ (by omega)]; exact hh j hj, ?_, ⟨q, ?_, h3, ?_, fun i x' u' v' hi => ?_⟩, fun x' hx' hn' => by rw [A' _ _ (by omega)]; exact h6 x' hx' hn'⟩, ⟨?_, ?_, fun i c hc => ?_, fun i c hc => ?_⟩, fun a ha => ?_, by omega, by omega, by omega, ?_⟩
  · unfold pcZ
    rw [t' e (by omega), t' (e + 1) (by omega), t' (e + 2) (by omega), t' (e + 3) (by omega), t' (e + 4) (by omega), t' (e + 5) (by omega), t' (e + 7) (by omega), t' (e + 8) (by omega), l' (e + 1) (by omega), l' (e + 2) (by omega), l' (e + 3) (by omega), l' (e + 4) (by omega), l' (e + 5) (by omega), l' (e + 7) (by omega), l' (e + 8) (by omega), F' 400 e (by omega) (by omega), F' 401 e (by omega) (by omega), F' 402 e (by omega) (by omega), F' 404 e (by omega) (by omega), F' 405 e (by omega) (by omega), F' 408 e (by omega) (by omega), F' 409 e (by omega) (by omega)]
    exact hz
  · rw [es, F_sF, if_pos ⟨rfl, rfl⟩]
  · rw [es, t_sF, t_cp, t_new, if_pos rfl]
  · rw [es, l_sF, l_cp, l_new, if_pos rfl]; omega
  · rw [F' _ _ (by omega) (by omega)]; exact h1
  · rw [F' _ _ (by omega) (by omega)]; exact h2
  · rw [es, l_sF, l_cp, l_new, if_pos rfl]; omega
  · obtain ⟨g1, g2, g3, st, g4, g5, g6⟩ := h5 i x' u' v' hi
    refine ⟨by rw [A' _ _ (by omega)]; exact g1, by rw [A' _ _ (by omega)]; exact g2, by rw [A' _ _ (by omega)]; exact g3, st, by rw [A' _ _ (by omega)]; exact g4, g5, fun j d hd => ?_⟩
    have jl := (List.getElem?_eq_some_iff.mp hd).1
    rw [List.length_append] at jl
    rw [An _ (by omega)]
    exact g6 j d hd
  · rw [F' _ _ (by omega) (by omega)]; exact hT.1
  · rw [F' _ _ (by omega) (by omega)]; exact hT.2.1
  · rw [A' _ _ (by omega)]; exact hT.2.2.1 i c hc
  · rw [A' _ _ (by omega)]; exact hT.2.2.2 i c hc
  · have a1 : a < N0 := ha.1
    have a2 : ¬ pPa e a := ha.2
    have a3 : a ≠ e := fun q => a2 (by rw [q]; unfold pPa; omega)
    exact ⟨⟨t' a (by omega), l' a (by omega)⟩, fun f => F' f a (fun q => a3 q.2) (by omega), fun j => A' a j (by omega)⟩
  · rw [w']; omega
theorem s_Pa_keepPair {σ : pm_H} {A B : Tr} {e N0 p k g : Nat} {H : Nat → Bool} {S : List Ent} {x y : List Nat} (hN : e + 9 ≤ N0) (hn0 : N0 ≤ pm_n σ) (hs : paS σ e N0 p k H S) (hT : fsT σ e x y) (hg : g < 144) (hn : g ∉ keys S) (hkd : (keys S).Nodup) (hkl : ∀ (i x : Nat) (u v : List Nat), S[i]? = some (x, u, v) → x < 144) (hS : S.length < 144) (lx : x.length ≤ 864) (ly : y.length ≤ 864) : cV 1 40 [.ref e, .int (Int32.ofInt (g : Int)), .int (Int32.ofInt ((mlen x y : Nat) : Int))] σ (fun σ' => ∃ p' k', paS σ' e N0 p' k' H (S ++ [(g, x.drop (mlen x y), y.drop (mlen x y))]) ∧ gr e N0 k k' σ σ') := by
  have hz := hs.1
  have hp := hs.2.1
  obtain ⟨q, h2, h3, h4, _⟩ := hs.2.2.2.2.1
  have pn := hp.ne hN
  have hk8 := hp.2.2.2.1
  have hlp := hp.2.2.2.2.1
  have p28 : 2 ^ k ≤ 2 ^ 8 := Nat.pow_le_pow_right (by decide) hk8
  have p21 := pow_le1 k
  have ml : mlen x y = min x.length y.length := rfl
  have len : ((max x.length y.length : Nat) : Int) - ((mlen x y : Nat) : Int) = ((max x.length y.length - mlen x y : Nat) : Int) := by omega
  have go : ∀ lg : Nat, (lg = e + 7 ∧ y.length < x.length) ∨ (lg = e + 8 ∧ x.length ≤ y.length) → pm_R 1 40 10 [.ref e, .int (Int32.ofInt (g : Int)), .int (Int32.ofInt ((mlen x y : Nat) : Int)), pm_U, pm_U] [.ref lg] σ (fun o σ' => o = .inl none ∧ ∃ p' k', paS σ' e N0 p' k' H (S ++ [(g, x.drop (mlen x y), y.drop (mlen x y))]) ∧ gr e N0 k k' σ σ') := by
    intro lg hlg
    refine w_Pa_keepPair_10 (rdF hz.t0 hT.1 (rdF hz.t0 hT.2.1 (rdF hz.t0 h2 (rdR hz.t0 hp.1 ⟨hp.2.2.1, fun z5 ez => ?_⟩))))
    rw [o_mx lx ly (by omega), len, oi_addN]
    subst ez
    rw [oi_nat, oi_le (by omega)]
    refine ⟨fun c => ?_, fun c => ?_⟩
    · refine pm_R_mono (s_Pa_keep37 hN hs hT hg hn hkd hkl hS lx ly hlg (fun q' h h' => ?_)) (fun o σ' r => ⟨r.1, p, k, r.2.1, gr_fr r.2.2 (fun a ha => ?_)⟩)
      · have : q' = q := by
          rw [h2, oi_eq (by omega)] at h
          omega
        rw [this]; omega
      · unfold pPa
        rcases hp.2.2.2.2.2 with w | w <;> omega
    · have k7 : k < 8 := by
        apply Classical.byContradiction
        intro w
        have : k = 8 := by omega
        subst this
        omega
      refine rdR hz.t0 hp.1 (rdR hz.t0 hp.1 ⟨hp.2.2.1, fun z8 ez => ?_⟩)
      subst ez
      refine (s_J_copyOf hp.2.2.1 rfl (by omega) (by rcases hp.2.1 with w | w <;> omega)).use (by omega) (fun σ9 e9 => ?_)
      refine wF (by rw [e9, t_cp, t_new, if_neg (by omega)]; exact hz.t0) (fun σ10 e10 => ?_)
      rw [e9] at e10
      obtain ⟨s10, T10, g10⟩ := s_Pa_grow hN hn0 hs hT k7 σ10 e10
      have p2 : 2 ^ (k + 1) = 2 * 2 ^ k := by rw [Nat.pow_succ, Nat.mul_comm]
      have l10 := s10.2.1.2.2.2.2.1
      refine pm_R_mono (s_Pa_keep37 hN s10 T10 hg hn hkd hkl hS lx ly hlg (fun q' h h' => ?_)) (fun o σ' r => ⟨r.1, pm_n σ, k + 1, r.2.1, g10.tr (gr_fr r.2.2 (fun a ha => ?_))⟩)
      · have : q' = q := by
          rw [e10, F_sF, if_neg (by omega), F_cp, F_new, if_neg (by omega), h2, oi_eq (by omega)] at h
          omega
        rw [this]; omega
      · unfold pPa; omega
  refine w_Pa_keepPair_0 (rdF hz.t0 hT.1 (rdF hz.t0 hT.2.1 ?_))
  rw [oi_le (by omega)]
  exact ⟨fun c => rdR hz.t0 hz.f409 (go (e + 8) (Or.inr ⟨rfl, by omega⟩)), fun c => rdR hz.t0 hz.f408 (go (e + 7) (Or.inl ⟨rfl, by omega⟩))⟩
/-- what comes of a comparison -/
def fitP (A B : Tr) (e N0 k g : Nat) (isEnd : Bool) (H : Nat → Bool) (S : List Ent) (x y : List Nat) (σ : pm_H) (b : Bool) (σ' : pm_H) : Prop := (b = true → ∃ w, mv x y = some w ∧ (isEnd = true → w = ([], [])) ∧ ∃ p' k', gr e N0 k k' σ σ' ∧ ((g ∈ keys S ∧ (g, w) ∈ S ∧ paS σ' e N0 p' k' H S) ∨ (g ∉ keys S ∧ paS σ' e N0 p' k' H (S ++ [(g, w)])))) ∧ (b = false → σ' = σ ∧ (mv x y = none ∨ ∃ w, mv x y = some w ∧ ((isEnd = true ∧ w ≠ ([], [])) ∨ ∃ w', (g, w') ∈ S ∧ w' ≠ w)))
theorem take_s {l : List Nat} {i a : Nat} (h : l[i]? = some a) : l.take (i + 1) = l.take i ++ [a] := by rw [List.take_add_one, h]; rfl
theorem s_Pa_isFitting {σ : pm_H} {A B : Tr} {e N0 p k g : Nat} {isEnd : Bool} {H : Nat → Bool} {S : List Ent} {x y : List Nat} (hN : e + 9 ≤ N0) (hn0 : N0 ≤ pm_n σ) (hs : paS σ e N0 p k H S) (hT : fsT σ e x y) (hg : g < 144) (ok : okS A B S) (lx : x.length ≤ 864) (ly : y.length ≤ 864) (cx : ∀ c, c ∈ x → c < 100) (cy : ∀ c, c ∈ y → c < 100) : pm_C 2 38 [.ref e, .int (Int32.ofInt (g : Int)), .int (bI isEnd)] σ (fun o σ' => ∃ b, o = .inl (some (.int (bI b))) ∧ fitP A B e N0 k g isEnd H S x y σ b σ') := by
  have hz := hs.1
  have hp := hs.2.1
  obtain ⟨h1, ⟨q, h2, h3, h4, h5⟩, h6⟩ := hs.2.2.2
  have vg := vi (show g < 144 from hg) (by omega)
  have wg := vc (show g < 2000000 by omega)
  have ml : mlen x y = min x.length y.length := rfl
  have n1 : (x.drop (mlen x y)).length = x.length - mlen x y := List.length_drop
  have n2 : (y.drop (mlen x y)).length = y.length - mlen x y := List.length_drop
  have fit33 : x.take (mlen x y) = y.take (mlen x y) → (isEnd = true → x.length = y.length) → pm_R 2 38 33 [.ref e, .int (Int32.ofInt (g : Int)), pm_U, .int (Int32.ofInt ((mlen x y : Nat) : Int)), pm_U] [] σ (fun o σ' => ∃ b, o = .inl (some (.int (bI b))) ∧ fitP A B e N0 k g isEnd H S x y σ b σ') := by
    intro tk he
    have mvs : mv x y = some (x.drop (mlen x y), y.drop (mlen x y)) := by unfold mv; rw [if_pos tk]
    have we : isEnd = true → (x.drop (mlen x y), y.drop (mlen x y)) = ([], []) := fun q => by
      have := he q
      rw [List.drop_of_length_le (l := x) (by omega), List.drop_of_length_le (l := y) (by omega)]
    by_cases c : g ∈ keys S
    · obtain ⟨u, v, hm⟩ := key_in c
      obtain ⟨i, hi⟩ := List.mem_iff_getElem?.mp hm
      have ent := (h5 i g u v hi).2
      have il := (List.getElem?_eq_some_iff.mp hi).1
      have i144 := okS_len ok
      obtain ⟨b1, b2, b3, b4, b5⟩ := ok.1 i g u v hi
      refine w_Pa_isFitting_33 (rdR hz.t0 hz.f401 (gA hz.t2 hz.l2 vg wg ent.1 ⟨fun q => absurd q (by decide), fun _ => ⟨hz.t0, ?_⟩⟩))
      refine (s_Pa_isSameLead hz hp hT ent h4 hg lx ly (by omega) b3 (fun d hd => by rcases List.mem_append.mp hd with w | w
                                                                                     · exact b4 d w
                                                                                     · exact b5 d w) cx cy).use (by omega) ⟨bI_and _, _, rfl, ?_⟩
      refine ⟨fun q => ?_, fun q => ⟨rfl, Or.inr ⟨_, mvs, Or.inr ⟨(u, v), hm, of_decide_eq_false q⟩⟩⟩⟩
      have q := of_decide_eq_true q
      exact ⟨_, mvs, we, p, k, gr.rf, Or.inl ⟨c, by rw [← q]; exact hm, hs⟩⟩
    · have hS := okS_lt ok hg c
      refine w_Pa_isFitting_33 (rdR hz.t0 hz.f401 (gA hz.t2 hz.l2 vg wg (h6 g hg c) ⟨fun _ => ⟨hz.t0, ?_⟩, fun q => absurd rfl q⟩))
      refine (s_Pa_keepPair (A := A) (B := B) hN hn0 hs hT hg c ok.2.1 (fun i x' u v hi => (ok.1 i x' u v hi).1) hS lx ly).use (by omega) (fun σ3 h => ⟨rfl, true, rfl, fun _ => ?_, fun q => by cases q⟩)
      obtain ⟨p', k', r1, r2⟩ := h
      exact ⟨_, mvs, we, p', k', r2, Or.inr ⟨c, r1⟩⟩
  refine w_Pa_isFitting_0 (rdF hz.t0 hT.1 (rdF hz.t0 hT.2.1 ?_))
  rw [o_mn lx ly]
  refine lp_up (fun j (_ : Unit) => [.ref e, .int (Int32.ofInt (g : Int)), .int (bI isEnd), .int (Int32.ofInt ((mlen x y : Nat) : Int)), .int (Int32.ofInt (j : Nat))]) (fun j _ τ => τ = σ ∧ x.take j = y.take j) (mlen x y) (fun j hj _ τ hτ next => ?_) (fun _ τ hτ => ?_) 0 (Nat.zero_le _) () σ ⟨rfl, rfl⟩
  · obtain ⟨rfl, tk⟩ := hτ
    have lx' : j < x.length := by omega
    have ly' : j < y.length := by omega
    have gx := List.getElem?_eq_getElem lx'
    have gy := List.getElem?_eq_getElem ly'
    generalize x[j] = a at gx
    generalize y[j] = b at gy
    have ca := cx a (List.mem_of_getElem? gx)
    have cb := cy b (List.mem_of_getElem? gy)
    refine w_Pa_isFitting_8 ⟨fun q => ?_, fun _ => rdR hz.t0 hz.f408 (gA hz.t7 hz.l7 (vi (show j < 864 by omega) (by omega)) (vc (by omega)) (hT.2.2.1 j a gx) (rdR hz.t0 hz.f409 (gA hz.t8 hz.l8 (vi (show j < 864 by omega) (by omega)) (vc (by omega)) (hT.2.2.2 j b gy) ?_)))⟩
    · rw [oi_le (by omega)] at q; omega
    rw [oi_eq (by omega), oi_s]
    refine ⟨fun q => next () τ ⟨rfl, ?_⟩, fun q => ⟨rfl, false, rfl, fun w => (by cases w), fun _ => ⟨rfl, Or.inl ?_⟩⟩⟩
    · rw [take_s gx, take_s gy, tk, show a = b by omega]
    · unfold mv
      rw [if_neg]
      intro t
      have e1 : (x.take (mlen x y))[j]? = some a := by rw [List.getElem?_take_of_lt hj]; exact gx
      have e2 : (y.take (mlen x y))[j]? = some b := by rw [List.getElem?_take_of_lt hj]; exact gy
      rw [t, e2] at e1
      exact q (by rw [Option.some.inj e1])
  · obtain ⟨rfl, tk⟩ := hτ
    have mvs : mv x y = some (x.drop (mlen x y), y.drop (mlen x y)) := by unfold mv; rw [if_pos tk]
    refine w_Pa_isFitting_8 ⟨fun _ => ?_, fun q => absurd (Int32.le_refl _) q⟩
    rw [bI_0]
    refine ⟨fun c => fit33 tk (fun q => by rw [c] at q; cases q), fun c => ?_⟩
    rw [Bool.not_eq_false] at c
    refine rdF hz.t0 hT.1 (rdF hz.t0 hT.2.1 ?_)
    rw [oi_eq (by omega)]
    refine ⟨fun q => fit33 tk (fun _ => by omega), fun q => ⟨rfl, false, rfl, fun w => (by cases w), fun _ => ⟨rfl, Or.inr ⟨_, mvs, Or.inl ⟨c, fun w => ?_⟩⟩⟩⟩⟩
    have e1 : x.drop (mlen x y) = [] := congrArg (fun z => z.1) w
    have e2 : y.drop (mlen x y) = [] := congrArg (fun z => z.2) w
    rw [e1] at n1
    rw [e2] at n2
    have n1' : 0 = x.length - mlen x y := n1
    have n2' : 0 = y.length - mlen x y := n2
    omega
