/-! ===== the pairing grows ===== -/
def gr (e N0 k k' : Nat) (σ σ' : pm_H) : Prop := al (fun a => a < N0 ∧ ¬ pPa e a) σ σ' ∧ pm_n σ ≤ pm_n σ' ∧ k ≤ k' ∧ pm_n σ' + k ≤ pm_n σ + k' ∧ pm_w σ' + 1728 * 2 ^ k ≤ pm_w σ + 1728 * 2 ^ k'
theorem gr.rf {e N0 k : Nat} {σ : pm_H} : gr e N0 k k σ σ := ⟨fun _ _ => ⟨⟨rfl, rfl⟩, fun _ => rfl, fun _ => rfl⟩, Nat.le_refl _, Nat.le_refl _, Nat.le_refl _, Nat.le_refl _⟩
theorem gr.tr {e N0 k k1 k2 : Nat} {σ σ1 σ2 : pm_H} (h : gr e N0 k k1 σ σ1) (g : gr e N0 k1 k2 σ1 σ2) : gr e N0 k k2 σ σ2 :=
  ⟨h.1.tr g.1, Nat.le_trans h.2.1 g.2.1, Nat.le_trans h.2.2.1 g.2.2.1, by have := h.2.2.2.1; have := g.2.2.2.1; omega, by have := h.2.2.2.2; have := g.2.2.2.2; omega⟩
theorem gr_fr {e N0 k : Nat} {P : Nat → Prop} {σ σ' : pm_H} (h : fr P σ σ') (hp : ∀ a, P a → pPa e a ∨ N0 ≤ a) : gr e N0 k k σ σ' :=
  ⟨al_fr h (fun a ha q => by rcases hp a q with c | c
                             · exact ha.2 c
                             · omega), by rw [h.n]; exact Nat.le_refl _, Nat.le_refl _, by rw [h.n]; exact Nat.le_refl _, by rw [h.w]; exact Nat.le_refl _⟩
theorem gr_fs {e N0 k : Nat} {σ σ' : pm_H} (h : fs e σ σ') : gr e N0 k k σ σ' := gr_fr h.1 (fun a ha => Or.inl (by unfold pPa; omega))
theorem gr.Tr {e N0 k k' a : Nat} {σ σ' : pm_H} {T : Tr} {π : Nat → Nat} (h : gr e N0 k k' σ σ') (ht : isTr σ a T π) (d : a + 122 ≤ e) (hN : e + 9 ≤ N0) : isTr σ' a T π := isTr_al ht (h.1.sub (fun b hb => by unfold pTr at hb; unfold pPa; omega))
theorem gr.Ru {e N0 k k' ρ : Nat} {σ σ' : pm_H} {r : Rl} (h : gr e N0 k k' σ σ') (ht : isRu σ ρ r) (d : ρ + 3 ≤ e) (hN : e + 9 ≤ N0) : isRu σ' ρ r := isRu_al ht (h.1.sub (fun b hb => by unfold pRu at hb; unfold pPa; omega))
/-- the pairing with its entries -/
def paS (σ : pm_H) (e N0 p k : Nat) (H : Nat → Bool) (S : List Ent) : Prop := pcZ σ e ∧ paP σ e N0 p k ∧ hpT σ e H ∧ tabC σ e p S
theorem fs.S {e N0 p k : Nat} {σ σ' : pm_H} {H : Nat → Bool} {S : List Ent} (h : fs e σ σ') (hN : e + 9 ≤ N0) (hs : paS σ e N0 p k H S) : paS σ' e N0 p k H S := ⟨h.z hs.1, h.p hs.2.1, h.h hs.2.2.1, h.tb (hs.2.1.ne hN) hs.2.2.2⟩
theorem o_mn {x y : Nat} (hx : x ≤ 864) (hy : y ≤ 864) : (if Int32.ofInt (y : Int) < Int32.ofInt (x : Int) then Int32.ofInt (y : Int) else Int32.ofInt (x : Int)) = Int32.ofInt ((min x y : Nat) : Int) := by
  rw [oi_min (by omega)]
  congr 1
  split <;> omega
theorem o_mx {x y m : Nat} (hx : x ≤ 864) (hy : y ≤ 864) (hm : m ≤ 864) : (if Int32.ofInt (x : Int) < Int32.ofInt (y : Int) then Int32.ofInt (y : Int) else Int32.ofInt (x : Int)) - Int32.ofInt (m : Int) = Int32.ofInt (((max x y : Nat) : Int) - (m : Int)) := by
  rw [oi_max (by omega), oi_sub]
  congr 1
  split <;> omega
/-- one after the other: what is left of the longer one -/
theorem left_at {x y : List Nat} {j c : Nat} : (x.drop (mlen x y) ++ y.drop (mlen x y))[j]? = some c ↔ if y.length < x.length then x[mlen x y + j]? = some c else y[mlen x y + j]? = some c := by
  unfold mlen
  by_cases h : y.length < x.length
  · rw [if_pos h, Nat.min_eq_right (by omega), List.drop_of_length_le (l := y) (Nat.le_refl _), List.append_nil, List.getElem?_drop]
  · rw [if_neg h, Nat.min_eq_left (by omega), List.drop_of_length_le (l := x) (Nat.le_refl _), List.nil_append, List.getElem?_drop]
theorem cI_R {d m k : Nat} {L S : List Value} {σ : pm_H} {Q : pm_O → pm_H → Prop} (h : pm_R d m k L S σ Q) : pm_R d m k L S σ Q := h
theorem s_Pa_isSameLead {σ : pm_H} {e N0 p k q g : Nat} {x y u v : List Nat} (hz : pcZ σ e) (hp : paP σ e N0 p k) (hT : fsT σ e x y) (he : entC σ e p q g u v) (hq : q ≤ pm_l σ p) (hg : g < 144) (lx : x.length ≤ 864) (ly : y.length ≤ 864) (lu : u.length + v.length ≤ 864) (ho : u = [] ∨ v = []) (cu : ∀ c, c ∈ u ++ v → c < 100) (cx : ∀ c, c ∈ x → c < 100) (cy : ∀ c, c ∈ y → c < 100) : cI 0 39 [.ref e, .int (Int32.ofInt (g : Int)), .int (Int32.ofInt ((mlen x y : Nat) : Int))] σ (bI (decide ((u, v) = (x.drop (mlen x y), y.drop (mlen x y))))) := by
  have vx := vi (show g < 144 from hg) (by omega)
  have wx := vc (show g < 2000000 by omega)
  have hk := hp.2.2.2.1
  have hlp := hp.2.2.2.2.1
  have p28 : 2 ^ k ≤ 2 ^ 8 := Nat.pow_le_pow_right (by decide) hk
  obtain ⟨a1, a2, st, a3, a4, a5⟩ := he
  have ml : mlen x y = min x.length y.length := rfl
  have n1 : (x.drop (mlen x y)).length = x.length - mlen x y := List.length_drop
  have n2 : (y.drop (mlen x y)).length = y.length - mlen x y := List.length_drop
  have uv0 : u.length = 0 ∨ v.length = 0 := by
    rcases ho with c | c
    · left; rw [c]; rfl
    · right; rw [c]; rfl
  refine w_Pa_isSameLead_0 (rdR hz.t0 hz.f404 (gA hz.t4 hz.l4 vx wx a2 (rdF hz.t0 hT.1 (rdF hz.t0 hT.2.1 ?_))))
  rw [oi_sub, oi_eq (by omega)]
  refine ⟨fun c => ?_, fun c => ⟨rfl, ?_, rfl⟩⟩
  -- the rest is as long
  · have len : ((max x.length y.length : Nat) : Int) - ((mlen x y : Nat) : Int) = ((u.length + v.length : Nat) : Int) := by omega
    have fin : ∀ lg : Nat, (lg = e + 7 ∧ y.length < x.length) ∨ (lg = e + 8 ∧ x.length ≤ y.length) → pm_R 0 39 33 [.ref e, .int (Int32.ofInt (g : Int)), .int (Int32.ofInt ((mlen x y : Nat) : Int)), .ref lg, .int (Int32.ofInt ((u.length + v.length : Nat) : Int)), .int ((0 : Int32))] [] σ (fun o σ' => o = .inl (some (.int (bI (decide ((u, v) = (x.drop (mlen x y), y.drop (mlen x y))))))) ∧ σ' = σ) := by
      intro lg hlg
      have tl : pm_t σ lg = 100 ∧ pm_l σ lg = 864 := by
        rcases hlg with ⟨c, _⟩ | ⟨c, _⟩
        · rw [c]; exact ⟨hz.t7, hz.l7⟩
        · rw [c]; exact ⟨hz.t8, hz.l8⟩
      have rest : ∀ j, j < u.length + v.length → ∃ a b : Nat, (u ++ v)[j]? = some a ∧ (x.drop (mlen x y) ++ y.drop (mlen x y))[j]? = some b ∧ iv (pm_A σ lg (mlen x y + j)) = Int32.ofInt (b : Int) ∧ mlen x y + j < 864 := by
        intro j hj
        have l1 : j < (u ++ v).length := by rw [List.length_append]; exact hj
        rcases hlg with ⟨c, d⟩ | ⟨c, d⟩
        · have l2 : mlen x y + j < x.length := by omega
          have g2 := List.getElem?_eq_getElem l2
          refine ⟨(u ++ v)[j], x[mlen x y + j], List.getElem?_eq_getElem l1, ?_, ?_, by omega⟩
          · rw [left_at, if_pos d]; exact g2
          · rw [c]; exact hT.2.2.1 _ _ g2
        · have l2 : mlen x y + j < y.length := by omega
          have g2 := List.getElem?_eq_getElem l2
          refine ⟨(u ++ v)[j], y[mlen x y + j], List.getElem?_eq_getElem l1, ?_, ?_, by omega⟩
          · rw [left_at, if_neg (by omega)]; exact g2
          · rw [c]; exact hT.2.2.2 _ _ g2
      by_cases same : (u, v) = (x.drop (mlen x y), y.drop (mlen x y))
      · rw [decide_eq_true same]
        refine lp0 (fun j => [.ref e, .int (Int32.ofInt (g : Int)), .int (Int32.ofInt ((mlen x y : Nat) : Int)), .ref lg, .int (Int32.ofInt ((u.length + v.length : Nat) : Int)), .int (Int32.ofInt (j : Nat))]) (u.length + v.length) (fun j hj next => ?_) ?_ 0 (Nat.zero_le _)
        · obtain ⟨a, b, r1, r2, r3, r4⟩ := rest j hj
          have e1 : u = x.drop (mlen x y) := congrArg (fun z => z.1) same
          have e2 : v = y.drop (mlen x y) := congrArg (fun z => z.2) same
          have ab : a = b := by rw [e1, e2] at r1; rw [r1] at r2; exact Option.some.inj r2
          refine w_Pa_isSameLead_33 ⟨fun z => ?_, fun _ => ?_⟩
          · rw [oi_le (by omega)] at z; omega
          refine rdR hz.t0 hp.1 (rdR hz.t0 hz.f405 (gA hz.t5 hz.l5 vx wx a3 ?_))
          rw [oi_addN, oi_addN]
          refine gA hp.2.2.1 rfl (vi (show st + j < pm_l σ p by omega) (by omega)) (vc (by omega)) (a5 j a r1) (gA tl.1 tl.2 (vi r4 (by omega)) (vc (by omega)) r3 ⟨fun _ => ?_, fun z => absurd (by rw [ab]) z⟩)
          rw [oi_s]; exact next
        · exact w_Pa_isSameLead_33 ⟨fun _ => ⟨rfl, rfl, rfl⟩, fun z => absurd (Int32.le_refl _) z⟩
      · rw [decide_eq_false same]
        have ex : ∃ j, j < u.length + v.length ∧ (u ++ v)[j]? ≠ (x.drop (mlen x y) ++ y.drop (mlen x y))[j]? := by
          apply Classical.byContradiction
          intro n
          have all : ∀ j, j < u.length + v.length → (u ++ v)[j]? = (x.drop (mlen x y) ++ y.drop (mlen x y))[j]? := fun j hj => by
            apply Classical.byContradiction
            intro q; exact n ⟨j, hj, q⟩
          have eq : u ++ v = x.drop (mlen x y) ++ y.drop (mlen x y) := by
            apply List.ext_getElem?
            intro j
            by_cases hj : j < u.length + v.length
            · exact all j hj
            · rw [List.getElem?_eq_none (by rw [List.length_append]; omega), List.getElem?_eq_none (by rw [List.length_append, n1, n2]; omega)]
          refine same ?_
          obtain ⟨q1, q2⟩ := List.append_inj eq (by rw [n1]; omega)
          rw [q1, q2]
        obtain ⟨j0, h1, h2⟩ := ex
        refine lp_up (fun j (_ : Unit) => [.ref e, .int (Int32.ofInt (g : Int)), .int (Int32.ofInt ((mlen x y : Nat) : Int)), .ref lg, .int (Int32.ofInt ((u.length + v.length : Nat) : Int)), .int (Int32.ofInt (j : Nat))]) (fun j _ τ => τ = σ ∧ j ≤ j0) (u.length + v.length) (fun j hj _ τ hτ next => ?_) (fun _ τ hτ => absurd hτ.2 (by omega)) 0 (Nat.zero_le _) () σ ⟨rfl, Nat.zero_le _⟩
        obtain ⟨rfl, hj0⟩ := hτ
        obtain ⟨a, b, r1, r2, r3, r4⟩ := rest j hj
        refine w_Pa_isSameLead_33 ⟨fun z => ?_, fun _ => ?_⟩
        · rw [oi_le (by omega)] at z; omega
        refine rdR hz.t0 hp.1 (rdR hz.t0 hz.f405 (gA hz.t5 hz.l5 vx wx a3 ?_))
        rw [oi_addN, oi_addN]
        refine gA hp.2.2.1 rfl (vi (show st + j < pm_l τ p by omega) (by omega)) (vc (by omega)) (a5 j a r1) (gA tl.1 tl.2 (vi r4 (by omega)) (vc (by omega)) r3 ⟨fun z => ?_, fun z => ⟨rfl, rfl, rfl⟩⟩)
        have ca : a < 100 := cu a (List.mem_of_getElem? r1)
        have cb : b < 100 := by
          rcases List.mem_append.mp (List.mem_of_getElem? r2) with w | w
          · exact cx b (List.mem_of_mem_drop w)
          · exact cy b (List.mem_of_mem_drop w)
        rw [oi_eq (by omega)] at z
        have ab : a = b := by omega
        rw [oi_s]
        refine next () τ ⟨rfl, ?_⟩
        by_cases c0 : j = j0
        · exfalso
          rw [c0] at r1 r2
          exact h2 (by rw [r1, r2, ab])
        · omega
    refine rdF hz.t0 hT.1 (rdF hz.t0 hT.2.1 ?_)
    rw [oi_le (by omega)]
    refine ⟨fun c2 => ?_, fun c2 => ?_⟩
    · refine rdR hz.t0 hz.f409 (rdF hz.t0 hT.1 (rdF hz.t0 hT.2.1 ?_))
      rw [o_mx lx ly (by omega), len]
      exact fin (e + 8) (Or.inr ⟨rfl, by omega⟩)
    · refine rdR hz.t0 hz.f408 (rdF hz.t0 hT.1 (rdF hz.t0 hT.2.1 ?_))
      rw [o_mx lx ly (by omega), len]
      exact fin (e + 7) (Or.inl ⟨rfl, by omega⟩)
  · rw [decide_eq_false]
    · rfl
    intro q
    have e1 : u = x.drop (mlen x y) := congrArg (fun z => z.1) q
    have e2 : v = y.drop (mlen x y) := congrArg (fun z => z.2) q
    rw [← e1] at n1
    rw [← e2] at n2
    omega

theorem s_J_copyOf {σ : pm_H} {a n : Nat} (ht : pm_t σ a = 100) (hl : pm_l σ a = n) (hn : 0 < n ∧ 2 * n ≤ 1000000) (ha : a < pm_n σ) : cRP 0 248 [.ref a, .int (Int32.ofNat n * 2)] σ (pm_n σ) (fun σ' => σ' = pm_cp (pm_new σ 100 (2 * n) (2 * n)) a 0 (pm_n σ) 0 n) := by
  have e2 : Int32.ofNat n * 2 = Int32.ofInt ((2 * n : Nat) : Int) := by rw [oi_nat, show Int32.ofInt (n : Int) * 2 = Int32.ofInt ((n : Int) * 2) from oi_mull _ 2]; congr 1; omega
  have w2 := vc (show 2 * n < 2000000 by omega)
  have w1 := vc (show n < 2000000 by omega)
  have mn : (if Int32.ofInt ((2 * n : Nat) : Int) < Int32.ofInt (n : Int) then Int32.ofInt ((2 * n : Nat) : Int) else Int32.ofInt (n : Int)) = Int32.ofInt (n : Int) := if_neg (by rw [oi_lt (by omega)]; omega)
  refine w_J_copyOf_0 ⟨ht, fun z1 ez => ?_⟩
  rw [hl, oi_nat] at ez
  subst ez
  rw [e2, oi_eq (by omega)]
  refine ⟨fun q => absurd q (by omega), fun _ => ⟨⟨n32 (by omega), by rw [w2]; omega⟩, fun σ2 es => ?_⟩⟩
  rw [w2] at es
  have t2 : pm_t σ2 a = 100 := by rw [es, t_new, if_neg (by omega)]; exact ht
  have l2 : pm_l σ2 a = n := by rw [es, l_new, if_neg (by omega)]; exact hl
  refine ⟨t2, fun z3 ez => ?_⟩
  rw [l2, oi_nat] at ez
  subst ez
  rw [mn, w1, c00]
  refine ⟨⟨t2, by rw [es, t_new, if_pos rfl], i32_00, i32_00, n32 (by omega), by rw [l2]; omega, by rw [es, l_new, if_pos rfl]; omega⟩, fun σ4 e4 => ⟨rfl, ?_⟩⟩
  rw [e4, es]
/-- an entry is laid down; there is room -/
theorem s_Pa_keep37 {σ : pm_H} {e N0 p k g lg : Nat} {H : Nat → Bool} {S : List Ent} {x y : List Nat} (hN : e + 9 ≤ N0) (hs : paS σ e N0 p k H S) (hT : fsT σ e x y) (hg : g < 144) (hn : g ∉ keys S) (hk : (keys S).Nodup) (hkl : ∀ (i x : Nat) (u v : List Nat), S[i]? = some (x, u, v) → x < 144) (hS : S.length < 144) (lx : x.length ≤ 864) (ly : y.length ≤ 864) (hlg : (lg = e + 7 ∧ y.length < x.length) ∨ (lg = e + 8 ∧ x.length ≤ y.length)) (room : ∀ q : Nat, iv (pm_F σ 407 e) = Int32.ofInt (q : Int) → q ≤ 864 * S.length → q + (max x.length y.length - mlen x y) ≤ pm_l σ p) : pm_R 1 40 37 [.ref e, .int (Int32.ofInt (g : Int)), .int (Int32.ofInt ((mlen x y : Nat) : Int)), .ref lg, .int (Int32.ofInt ((max x.length y.length - mlen x y : Nat) : Int))] [] σ (fun o σ' => o = .inl none ∧ paS σ' e N0 p k H (S ++ [(g, x.drop (mlen x y), y.drop (mlen x y))]) ∧ fr (fun b => b = e ∨ b = e + 2 ∨ b = e + 3 ∨ b = e + 4 ∨ b = e + 5 ∨ b = p) σ σ') := by
  obtain ⟨hz, hp, hh, h1, ⟨q, h2, h3, h4, h5⟩, h6⟩ := hs
  have pn := hp.ne hN
  have rm := room q h2 h3
  have vx := vi (show g < 144 from hg) (by omega)
  have wx := vc (show g < 2000000 by omega)
  have hk8 := hp.2.2.2.1
  have hlp := hp.2.2.2.2.1
  have p28 : 2 ^ k ≤ 2 ^ 8 := Nat.pow_le_pow_right (by decide) hk8
  have ml : mlen x y = min x.length y.length := rfl
  have n1 : (x.drop (mlen x y)).length = x.length - mlen x y := List.length_drop
  have n2 : (y.drop (mlen x y)).length = y.length - mlen x y := List.length_drop
  have tl : pm_t σ lg = 100 ∧ pm_l σ lg = 864 := by
    rcases hlg with ⟨c, _⟩ | ⟨c, _⟩
    · rw [c]; exact ⟨hz.t7, hz.l7⟩
    · rw [c]; exact ⟨hz.t8, hz.l8⟩
  have lgn : lg ≠ p ∧ (lg = e + 7 ∨ lg = e + 8) := by omega
  have wq := vc (show q < 2000000 by omega)
  have wm := vc (show mlen x y < 2000000 by omega)
  have wn := vc (show max x.length y.length - mlen x y < 2000000 by omega)
  refine w_Pa_keepPair_37 (rdR hz.t0 hp.1 (rdF hz.t0 h2 ⟨⟨tl.1, hp.2.2.1, n32 (by omega), n32 (by omega), n32 (by omega), by rw [wm, wn, tl.2]; omega, by rw [wq, wn]; exact rm⟩, fun σ3 e3 => ?_⟩))
  rw [wm, wq, wn] at e3
  have F3 : ∀ f a, pm_F σ3 f a = pm_F σ f a := fun f a => by rw [e3, F_cp]
  have A3 : ∀ a j, a ≠ p → pm_A σ3 a j = pm_A σ a j := fun a j ha => by rw [e3, A_cp, if_neg (by omega)]
  have t3 : ∀ a, pm_t σ3 a = pm_t σ a := fun a => by rw [e3, t_cp]
  have l3 : ∀ a, pm_l σ3 a = pm_l σ a := fun a => by rw [e3, l_cp]
  refine rdR (by rw [t3]; exact hz.t0) (by rw [F3]; exact hz.f401) (wA (by rw [t3]; exact hz.t2) (by rw [l3]; exact hz.l2) vx wx (fun σ5 e5 => ?_))
  have F5 : ∀ f a, pm_F σ5 f a = pm_F σ f a := fun f a => by rw [e5, F_sA, F3]
  have t5 : ∀ a, pm_t σ5 a = pm_t σ a := fun a => by rw [e5, t_sA, t3]
  have l5 : ∀ a, pm_l σ5 a = pm_l σ a := fun a => by rw [e5, l_sA, l3]
  refine rdR (by rw [t5]; exact hz.t0) (by rw [F5]; exact hz.f404) (rdF (by rw [t5]; exact hz.t0) (ivq (by rw [F5]) hT.1) (rdF (by rw [t5]; exact hz.t0) (ivq (by rw [F5]) hT.2.1) (wA (by rw [t5]; exact hz.t4) (by rw [l5]; exact hz.l4) vx wx (fun σ9 e9 => ?_))))
  rw [oi_sub] at e9
  have F9 : ∀ f a, pm_F σ9 f a = pm_F σ f a := fun f a => by rw [e9, F_sA, F5]
  have t9 : ∀ a, pm_t σ9 a = pm_t σ a := fun a => by rw [e9, t_sA, t5]
  have l9 : ∀ a, pm_l σ9 a = pm_l σ a := fun a => by rw [e9, l_sA, l5]
  refine rdR (by rw [t9]; exact hz.t0) (by rw [F9]; exact hz.f405) (rdF (by rw [t9]; exact hz.t0) (ivq (by rw [F9]) h2) (wA (by rw [t9]; exact hz.t5) (by rw [l9]; exact hz.l5) vx wx (fun σ12 e12 => ?_)))
  have F12 : ∀ f a, pm_F σ12 f a = pm_F σ f a := fun f a => by rw [e12, F_sA, F9]
  have t12 : ∀ a, pm_t σ12 a = pm_t σ a := fun a => by rw [e12, t_sA, t9]
  have l12 : ∀ a, pm_l σ12 a = pm_l σ a := fun a => by rw [e12, l_sA, l9]
  refine rdF (by rw [t12]; exact hz.t0) (ivq (by rw [F12]) h2) (wF (by rw [t12]; exact hz.t0) (fun σ14 e14 => ?_))
  rw [oi_addN] at e14
  have F14 : ∀ f a, f ≠ 407 → pm_F σ14 f a = pm_F σ f a := fun f a hf => by rw [e14, F_sF, if_neg (by omega), F12]
  have t14 : ∀ a, pm_t σ14 a = pm_t σ a := fun a => by rw [e14, t_sF, t12]
  have l14 : ∀ a, pm_l σ14 a = pm_l σ a := fun a => by rw [e14, l_sF, l12]
  have vS := vi (show S.length < 144 from hS) (by omega)
  have wS := vc (show S.length < 2000000 by omega)
  refine rdR (by rw [t14]; exact hz.t0) (by rw [F14 _ _ (by omega)]; exact hz.f402) (rdF (by rw [t14]; exact hz.t0) (ivq (by rw [F14 _ _ (by omega)]) h1) (wA (by rw [t14]; exact hz.t3) (by rw [l14]; exact hz.l3) vS wS (fun σ17 e17 => ?_)))
  have F17 : ∀ f a, f ≠ 407 → pm_F σ17 f a = pm_F σ f a := fun f a hf => by rw [e17, F_sA, F14 f a hf]
  have t17 : ∀ a, pm_t σ17 a = pm_t σ a := fun a => by rw [e17, t_sA, t14]
  have l17 : ∀ a, pm_l σ17 a = pm_l σ a := fun a => by rw [e17, l_sA, l14]
  refine rdF (by rw [t17]; exact hz.t0) (ivq (by rw [F17 _ _ (by omega)]) h1) (wF (by rw [t17]; exact hz.t0) (fun σ19 e19 => ⟨rfl, ?_⟩))
  rw [oi_s] at e19
  have F19 : ∀ f a, f ≠ 407 → f ≠ 403 → pm_F σ19 f a = pm_F σ f a := fun f a hf hf2 => by rw [e19, F_sF, if_neg (by omega), F17 f a hf]
  have t19 : ∀ a, pm_t σ19 a = pm_t σ a := fun a => by rw [e19, t_sF, t17]
  have l19 : ∀ a, pm_l σ19 a = pm_l σ a := fun a => by rw [e19, l_sF, l17]
  have fr19 : fr (fun b => b = e ∨ b = e + 2 ∨ b = e + 3 ∨ b = e + 4 ∨ b = e + 5 ∨ b = p) σ σ19 := by
    rw [e19, e17, e14, e12, e9, e5, e3]
    exact ((((((fr_cp (by omega)).tr (fr_sA (by omega))).tr (fr_sA (by omega))).tr (fr_sA (by omega))).tr (fr_sF (by omega))).tr (fr_sA (by omega))).tr (fr_sF (by omega))
  have Ap : ∀ j, pm_A σ19 p j = pm_A σ3 p j := fun j => by
    rw [e19, A_sF, e17, A_sA, if_neg (by omega), e14, A_sF, e12, A_sA, if_neg (by omega), e9, A_sA, if_neg (by omega), e5, A_sA, if_neg (by omega)]
  have A2 : ∀ j, pm_A σ19 (e + 2) j = if j = g then .int (vp_nar .boolean 1) else pm_A σ (e + 2) j := fun j => by
    rw [e19, A_sF, e17, A_sA, if_neg (by omega), e14, A_sF, e12, A_sA, if_neg (by omega), e9, A_sA, if_neg (by omega), e5, A_sA, A3 _ _ (by omega)]
    by_cases c : j = g
    · rw [if_pos ⟨rfl, c⟩, if_pos c]
    · rw [if_neg (fun q => c q.2), if_neg c]
  have A4 : ∀ j, pm_A σ19 (e + 4) j = if j = g then .int (Int32.ofInt ((x.length : Int) - (y.length : Int))) else pm_A σ (e + 4) j := fun j => by
    rw [e19, A_sF, e17, A_sA, if_neg (by omega), e14, A_sF, e12, A_sA, if_neg (by omega), e9, A_sA, e5, A_sA, if_neg (c := e + 4 = e + 2 ∧ j = g) (by omega), A3 _ _ (by omega)]
    by_cases c : j = g
    · rw [if_pos ⟨rfl, c⟩, if_pos c]
    · rw [if_neg (fun q => c q.2), if_neg c]
  have A5 : ∀ j, pm_A σ19 (e + 5) j = if j = g then .int (Int32.ofInt (q : Int)) else pm_A σ (e + 5) j := fun j => by
    rw [e19, A_sF, e17, A_sA, if_neg (by omega), e14, A_sF, e12, A_sA, e9, A_sA, if_neg (c := e + 5 = e + 4 ∧ j = g) (by omega), e5, A_sA, if_neg (c := e + 5 = e + 2 ∧ j = g) (by omega), A3 _ _ (by omega)]
    by_cases c : j = g
    · rw [if_pos ⟨rfl, c⟩, if_pos c]
    · rw [if_neg (fun q => c q.2), if_neg c]
  have A3' : ∀ j, pm_A σ19 (e + 3) j = if j = S.length then .int (Int32.ofInt (g : Int)) else pm_A σ (e + 3) j := fun j => by
    rw [e19, A_sF, e17, A_sA, e14, A_sF, e12, A_sA, if_neg (c := e + 3 = e + 5 ∧ j = g) (by omega), e9, A_sA, if_neg (c := e + 3 = e + 4 ∧ j = g) (by omega), e5, A_sA, if_neg (c := e + 3 = e + 2 ∧ j = g) (by omega), A3 _ _ (by omega)]
    by_cases c : j = S.length
    · rw [if_pos ⟨rfl, c⟩, if_pos c]
    · rw [if_neg (fun q => c q.2), if_neg c]
  have A1 : ∀ j, pm_A σ19 (e + 1) j = pm_A σ (e + 1) j := fun j => fr19.A (by omega)
  refine ⟨⟨?_, ?_, fun j hj => by rw [A1]; exact hh j hj, ?_, ⟨q + (max x.length y.length - mlen x y), ?_, ?_, ?_, fun i x' u' v' hi => ?_⟩, fun x' hx' hn' => ?_⟩, fr19⟩
  · unfold pcZ
    simp only [t19, l19, F19 400 _ (by omega) (by omega), F19 401 _ (by omega) (by omega), F19 402 _ (by omega) (by omega), F19 404 _ (by omega) (by omega), F19 405 _ (by omega) (by omega), F19 408 _ (by omega) (by omega), F19 409 _ (by omega) (by omega)]
    exact hz
  · unfold paP
    simp only [t19, l19, fr19.n, F19 406 _ (by omega) (by omega)]
    exact hp
  · rw [e19, F_sF, if_pos ⟨rfl, rfl⟩, List.length_append]; rfl
  · rw [e19, F_sF, if_neg (by omega), e17, F_sA, e14, F_sF, if_pos ⟨rfl, rfl⟩]; rfl
  · rw [List.length_append]; show _ ≤ 864 * (S.length + 1); omega
  · rw [l19]; exact rm
  · rcases getA hi with c | ⟨c, c2⟩
    · have il := (List.getElem?_eq_some_iff.mp c).1
      obtain ⟨g1, g2, g3, st, g4, g5, g6⟩ := h5 i x' u' v' c
      have xg : x' ≠ g := fun q => hn (by rw [← q]; exact List.mem_map.mpr ⟨_, List.mem_of_getElem? c, rfl⟩)
      refine ⟨by rw [A3', if_neg (by omega)]; exact g1, by rw [A2, if_neg xg]; exact g2, by rw [A4, if_neg xg]; exact g3, st, by rw [A5, if_neg xg]; exact g4, by omega, fun j d hd => ?_⟩
      have jl := (List.getElem?_eq_some_iff.mp hd).1
      rw [List.length_append] at jl
      rw [Ap, e3, A_cp, if_neg (by omega)]
      exact g6 j d hd
    · have q1 : x' = g := congrArg (fun z : Ent => z.1) c2
      have q2 : u' = x.drop (mlen x y) := congrArg (fun z : Ent => z.2.1) c2
      have q3 : v' = y.drop (mlen x y) := congrArg (fun z : Ent => z.2.2) c2
      rw [q1, q2, q3]
      refine ⟨by rw [A3', if_pos c]; rfl, by rw [A2, if_pos rfl]; rfl, by rw [A4, if_pos rfl, n1, n2]; show Int32.ofInt _ = Int32.ofInt _; congr 1; omega, q, by rw [A5, if_pos rfl]; rfl, by rw [n1, n2]; omega, fun j d hd => ?_⟩
      have jl := (List.getElem?_eq_some_iff.mp hd).1
      rw [List.length_append, n1, n2] at jl
      rw [left_at] at hd
      rw [Ap, e3, A_cp, if_pos ⟨rfl, by omega, by omega⟩, Nat.add_sub_cancel_left]
      rcases hlg with ⟨w1, w2⟩ | ⟨w1, w2⟩
      · rw [if_pos w2] at hd
        rw [w1]; exact hT.2.2.1 _ _ hd
      · rw [if_neg (by omega)] at hd
        rw [w1]; exact hT.2.2.2 _ _ hd
  · have : keys (S ++ [(g, x.drop (mlen x y), y.drop (mlen x y))]) = keys S ++ [g] := by unfold keys; rw [List.map_append]; rfl
    rw [this, List.mem_append, List.mem_singleton] at hn'
    rw [A2, if_neg (fun q => hn' (Or.inr q))]
    exact h6 x' hx' (fun q => hn' (Or.inl q))
