/-! ===== the model: whether two transducers agree ===== -/
/-- what comes of a step -/
def goP (A B : Tr) (m g : Nat) (S : List Ent) (x y : List Nat) (σ : pm_H) (b : Bool) (σ' : pm_H) : Prop := XP m σ σ' ∧ pm_A σ' (m + 21) = pm_A σ (m + 21) ∧ pm_A σ' (m + 22) = pm_A σ (m + 22) ∧ (b = true → ∃ w, mv x y = some w ∧ ((g ∈ keys S ∧ (g, w) ∈ S ∧ tabM σ' m S) ∨ (g ∉ keys S ∧ tabM σ' m (S ++ [(g, w)])))) ∧ (b = false → mv x y = none ∨ ∃ w, mv x y = some w ∧ ∃ w', (g, w') ∈ S ∧ w' ≠ w)
theorem XR_21 {m ro : Nat} {σ σ' : pm_H} (f : XR m ro σ σ') (h : ro = 27 ∨ ro = 28) : XP m σ σ' ∧ pm_A σ' (m + 21) = pm_A σ (m + 21) ∧ pm_A σ' (m + 22) = pm_A σ (m + 22) := ⟨f.P (by omega), funext (fun j => frX.A f (by omega) (by omega)), funext (fun j => frX.A f (by omega) (by omega))⟩
theorem XQ_21 {m : Nat} {σ σ' : pm_H} (f : XQ m σ σ') : XP m σ σ' ∧ pm_A σ' (m + 21) = pm_A σ (m + 21) ∧ pm_A σ' (m + 22) = pm_A σ (m + 22) := ⟨f.P, funext (fun j => frX.A f (by omega) (by omega)), funext (fun j => frX.A f (by omega) (by omega))⟩
theorem s_M_goesOn {σ : pm_H} {A B : Tr} {m ja jb x s i : Nat} {S : List Ent} {u v : List Nat} {r t : Rl} (hm : mS σ m) (ht : tabM σ m S) (ok : okS A B S) (hi : S[i]? = some (x, u, v)) (hr : mRu σ m ja r) (htr : mRu σ m jb t) (hja : ja < 520) (hjb : jb < 520) (o1 : okR r) (o2 : okR t) (hs : s < 100) (e1 : en r s = true) (e2 : en t s = true) : pm_C 2 227 [.ref m, .int (Int32.ofInt (x : Int)), .int (Int32.ofInt (ja : Int)), .int (Int32.ofInt (jb : Int)), .int (Int32.ofInt (s : Int))] σ (fun o σ' => ∃ b, o = .inl (some (.int (bI b))) ∧ goP A B m (12 * rT r + rT t) S (u ++ outW r s) (v ++ outW t s) σ b σ') := by
  obtain ⟨b1, b2, b3, b4, b5⟩ := ok.1 i x u v hi
  have il := (List.getElem?_eq_some_iff.mp hi).1
  have l144 := okS_len ok
  have lr := o1.2.2.2.1
  have lt := o2.2.2.2.1
  have x2 := o1.2.1
  have x4 := o2.2.1
  have g144 : 12 * rT r + rT t < 144 := by omega
  have ent := (ht.2.1 i x u v hi).2
  have uv0 : u.length = 0 ∨ v.length = 0 := by
    rcases b3 with q | q
    · left; rw [q]; rfl
    · right; rw [q]; rfl
  refine w_M_goesOn_0 (rdR hm.1 hm.f4 (gA hm.t4 hm.l4 (vi hja (by omega)) (vc (by omega)) hr.2.1 (rdR hm.1 hm.f4 (gA hm.t4 hm.l4 (vi hjb (by omega)) (vc (by omega)) htr.2.1 (rdR hm.1 hm.f27 ⟨hm.1, ?_⟩)))))
  have one : (1 : Int32) * Int32.ofInt ((u.length : Int) - (v.length : Int)) = Int32.ofInt ((u.length : Int) - (v.length : Int)) := by
    rw [show (1 : Int32) * Int32.ofInt ((u.length : Int) - (v.length : Int)) = Int32.ofInt (1 * ((u.length : Int) - (v.length : Int))) from oi_lmul _ 1, Int.one_mul]
  have neg : (-1 : Int32) * Int32.ofInt ((u.length : Int) - (v.length : Int)) = Int32.ofInt ((v.length : Int) - (u.length : Int)) := by
    rw [show (-1 : Int32) = Int32.ofInt (-1) by decide, oi_mul]; congr 1; omega
  have zu : ((u.length : Int) - (v.length : Int) ≤ 0 ∧ -2000 < (u.length : Int) - (v.length : Int) ∧ u = []) ∨ ((u.length : Int) - (v.length : Int) = u.length ∧ ∀ i c : Nat, u[i]? = some c → iv (pm_A σ (m + 25) (870 * x + i)) = Int32.ofInt (c : Int)) := by
    rcases b3 with q | q
    · left; rw [q] at uv0 b2 ⊢; simp at b2 ⊢; omega
    · right
      refine ⟨by rw [q]; simp, fun j c hc => ent.2.2 j c ?_⟩
      rw [q, List.append_nil]; exact hc
  have zv : ∀ τ, XR m 27 σ τ → ((v.length : Int) - (u.length : Int) ≤ 0 ∧ -2000 < (v.length : Int) - (u.length : Int) ∧ v = []) ∨ ((v.length : Int) - (u.length : Int) = v.length ∧ ∀ i c : Nat, v[i]? = some c → iv (pm_A τ (m + 25) (870 * x + i)) = Int32.ofInt (c : Int)) := fun τ f => by
    rcases b3 with q | q
    · right
      refine ⟨by rw [q]; simp, fun j c hc => ?_⟩
      rw [frX.A f (by omega) (by omega)]
      refine ent.2.2 j c ?_
      rw [q, List.nil_append]; exact hc
    · left; rw [q] at uv0 b2 ⊢; simp at b2 ⊢; omega
  refine (s_M_laid (ro := 27) (w := u) hm hr hja o1 (Or.inl rfl) b1 hs e1 ent.2.1 one zu (by omega)).use (by omega) (fun σ6 p6 => ?_)
  obtain ⟨w6, f6⟩ := p6
  have m6 := f6.mS hm
  refine rdR m6.1 m6.f28 ⟨m6.1, ?_⟩
  refine (s_M_laid (ro := 28) (w := v) m6 (mRu_X f6 htr hjb lt) hjb o2 (Or.inr rfl) b1 hs e2 (by rw [frX.A f6 (by omega) (by omega)]; exact ent.2.1) neg (zv σ6 f6) (by omega)).use (by omega) (fun σ8 p8 => ?_)
  obtain ⟨w8, f8⟩ := p8
  have m8 := f8.mS m6
  have w6' : wdT σ8 (m + 27) (u ++ outW r s) := fun j c hc => by rw [frX.A f8 (by omega) (by omega)]; exact w6 j c hc
  have t8 := tabM_R (tabM_R ht f6 (Or.inl rfl)) f8 (Or.inr rfl)
  have F6 := XR_21 f6 (Or.inl rfl)
  have F8 := XR_21 f8 (Or.inr rfl)
  have P8 : XP m σ σ8 := F6.1.tr F8.1
  have P21 : pm_A σ8 (m + 21) = pm_A σ (m + 21) := F8.2.1.trans F6.2.1
  have P22 : pm_A σ8 (m + 22) = pm_A σ (m + 22) := F8.2.2.trans F6.2.2
  rw [oi_12l]
  have lu : (u ++ outW r s).length ≤ 870 := by rw [List.length_append, outW_len]; omega
  have lv : (v ++ outW t s).length ≤ 870 := by rw [List.length_append, outW_len]; omega
  have cu : ∀ c, c ∈ u ++ outW r s → c < 100 := fun c hc => by
    rcases List.mem_append.mp hc with w | w
    · exact b4 c w
    · exact outW_lt e1 w
  have cv : ∀ c, c ∈ v ++ outW t s → c < 100 := fun c hc => by
    rcases List.mem_append.mp hc with w | w
    · exact b5 c w
    · exact outW_lt e2 w
  have lm : max (u ++ outW r s).length (v ++ outW t s).length - mlen (u ++ outW r s) (v ++ outW t s) ≤ 870 := by omega
  generalize u ++ outW r s = X at *
  generalize v ++ outW t s = Y at *
  have ml : mlen X Y = min X.length Y.length := rfl
  refine lp_up (fun j (_ : Unit) => [.ref m, pm_U, pm_U, pm_U, pm_U, .int (Int32.ofInt ((12 * rT r + rT t : Nat) : Int)), .int (Int32.ofInt (X.length : Int)), .int (Int32.ofInt (Y.length : Int)), .int (Int32.ofInt (j : Nat))]) (fun j _ τ => τ = σ8 ∧ X.take j = Y.take j) (mlen X Y) (fun j hj _ τ hτ next => ?_) (fun _ τ hτ => ?_) 0 (Nat.zero_le _) () σ8 ⟨rfl, rfl⟩
  · obtain ⟨rfl, tk⟩ := hτ
    have lx' : j < X.length := by omega
    have ly' : j < Y.length := by omega
    have gx := List.getElem?_eq_getElem lx'
    have gy := List.getElem?_eq_getElem ly'
    generalize X[j] = a at gx
    generalize Y[j] = b at gy
    have ca := cu a (List.mem_of_getElem? gx)
    have cb := cv b (List.mem_of_getElem? gy)
    refine w_M_goesOn_32 ⟨fun q => ?_, fun _ => ⟨fun q => ?_, fun _ => ?_⟩⟩
    · rw [oi_le (by omega)] at q; omega
    · rw [oi_le (by omega)] at q; omega
    refine rdR m8.1 m8.f27 (gA m8.t27 m8.l27 (vi (show j < 876 by omega) (by omega)) (vc (by omega)) (w6' j a gx) (rdR m8.1 m8.f28 (gA m8.t28 m8.l28 (vi (show j < 876 by omega) (by omega)) (vc (by omega)) (w8 j b gy) ?_)))
    rw [oi_eq (by omega), oi_s]
    refine ⟨fun q => next () τ ⟨rfl, ?_⟩, fun q => ?_⟩
    · rw [take_s gx, take_s gy, tk, show a = b by omega]
    · refine w_M_goesOn_49 ?_
      rw [oi_eq (by omega), oi_eq (by omega)]
      refine ⟨fun w => absurd w (by omega), fun _ => ⟨fun w => absurd w (by omega), fun _ => ⟨rfl, false, rfl, P8, P21, P22, fun w => (by cases w), fun _ => Or.inl ?_⟩⟩⟩
      unfold mv
      rw [if_neg]
      intro tt
      have d1 : (X.take (mlen X Y))[j]? = some a := by rw [List.getElem?_take_of_lt hj]; exact gx
      have d2 : (Y.take (mlen X Y))[j]? = some b := by rw [List.getElem?_take_of_lt hj]; exact gy
      rw [tt, d2] at d1
      exact q (by rw [Option.some.inj d1])
  · obtain ⟨rfl, tk⟩ := hτ
    have mvs : mv X Y = some (X.drop (mlen X Y), Y.drop (mlen X Y)) := by unfold mv; rw [if_pos tk]
    have call : ∀ {K : Int32 → pm_H → Prop} {Z : Nat → pm_H → Prop}, K = (fun r1 σ1 => ((r1 = 0 → (0 : Int32) &&& 1 = 0 ∧ (∃ b, (Sum.inl (some (.int ((0 : Int32)))) : pm_O) = .inl (some (.int (bI b))) ∧ goP A B m (12 * rT r + rT t) S X Y σ b σ1)) ∧ (¬ r1 = 0 → (1 : Int32) &&& 1 = 1 ∧ (∃ b, (Sum.inl (some (.int ((1 : Int32)))) : pm_O) = .inl (some (.int (bI b))) ∧ goP A B m (12 * rT r + rT t) S X Y σ b σ1)))) → pm_C 1 226 [.ref m, .int (Int32.ofInt ((12 * rT r + rT t : Nat) : Int)), .int (Int32.ofInt ((mlen X Y : Nat) : Int)), .int (Int32.ofInt (X.length : Int)), .int (Int32.ofInt (Y.length : Int))] τ (pm_kI K Z) := by
      intro K Z eK
      refine pm_C_mono (pm_C_up (s_M_comes (A := A) (B := B) m8 t8 (Or.inl ok) w6' w8 g144 lu lv cu cv lm) (by omega)) (fun o σ' h => ?_)
      obtain ⟨b, rfl, tr, fa⟩ := h
      refine kI_B ?_
      rw [eK]
      cases b with
      | false =>
        obtain ⟨rfl, w', z1, z2⟩ := fa rfl
        exact ⟨fun _ => ⟨rfl, false, rfl, P8, P21, P22, fun w => (by cases w), fun _ => Or.inr ⟨_, mvs, w', z1, z2⟩⟩, fun q => absurd rfl q⟩
      | true =>
        obtain ⟨fc, alt⟩ := tr rfl
        have C := XQ_21 fc
        refine ⟨fun q => absurd q (by decide), fun _ => ⟨rfl, true, rfl, P8.tr C.1, C.2.1.trans P21, C.2.2.trans P22, fun _ => ⟨_, mvs, alt⟩, fun w => (by cases w)⟩⟩
    have fin : pm_R 2 227 49 [.ref m, pm_U, pm_U, pm_U, pm_U, .int (Int32.ofInt ((12 * rT r + rT t : Nat) : Int)), .int (Int32.ofInt (X.length : Int)), .int (Int32.ofInt (Y.length : Int)), .int (Int32.ofInt ((mlen X Y : Nat) : Int))] [] τ (fun o σ' => ∃ b, o = .inl (some (.int (bI b))) ∧ goP A B m (12 * rT r + rT t) S X Y σ b σ') := by
      refine w_M_goesOn_49 ⟨fun _ => ⟨m8.1, call rfl⟩, fun q => ⟨fun _ => ⟨m8.1, call rfl⟩, fun q2 => ?_⟩⟩
      exfalso
      rw [oi_eq (by omega)] at q q2
      omega
    refine w_M_goesOn_32 ⟨fun _ => fin, fun q => ⟨fun _ => fin, fun q2 => ?_⟩⟩
    exfalso
    rw [oi_le (by omega)] at q q2
    omega
