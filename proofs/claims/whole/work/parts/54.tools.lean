/-! ===== tools: ints, loops, frames ===== -/
theorem oi_nat (n : Nat) : Int32.ofNat n = Int32.ofInt (n : Int) := (Int32.ofInt_eq_ofNat (n := n)).symm
theorem oi_lit (n : Nat) : (OfNat.ofNat n : Int32) = Int32.ofInt (OfNat.ofNat n : Int) := oi_nat n
theorem oi_neg (n : Nat) : (-(OfNat.ofNat n) : Int32) = Int32.ofInt (-(OfNat.ofNat n : Int)) := by rw [oi_lit, ← Int32.ofInt_neg]
theorem oi_add (a b : Int) : Int32.ofInt a + Int32.ofInt b = Int32.ofInt (a + b) := (Int32.ofInt_add a b).symm
theorem oi_sub (a b : Int) : Int32.ofInt a - Int32.ofInt b = Int32.ofInt (a - b) := (Int32.ofInt_sub a b).symm
theorem oi_mul (a b : Int) : Int32.ofInt a * Int32.ofInt b = Int32.ofInt (a * b) := (Int32.ofInt_mul a b).symm
theorem oi_addl (a : Int) (n : Nat) : Int32.ofInt a + (OfNat.ofNat n : Int32) = Int32.ofInt (a + OfNat.ofNat n) := by rw [oi_lit, oi_add]
theorem oi_ladd (a : Int) (n : Nat) : (OfNat.ofNat n : Int32) + Int32.ofInt a = Int32.ofInt (OfNat.ofNat n + a) := by rw [oi_lit, oi_add]
theorem oi_subl (a : Int) (n : Nat) : Int32.ofInt a - (OfNat.ofNat n : Int32) = Int32.ofInt (a - OfNat.ofNat n) := by rw [oi_lit, oi_sub]
theorem oi_lsub (a : Int) (n : Nat) : (OfNat.ofNat n : Int32) - Int32.ofInt a = Int32.ofInt (OfNat.ofNat n - a) := by rw [oi_lit, oi_sub]
theorem oi_mull (a : Int) (n : Nat) : Int32.ofInt a * (OfNat.ofNat n : Int32) = Int32.ofInt (a * OfNat.ofNat n) := by rw [oi_lit, oi_mul]
theorem oi_lmul (a : Int) (n : Nat) : (OfNat.ofNat n : Int32) * Int32.ofInt a = Int32.ofInt (OfNat.ofNat n * a) := by rw [oi_lit, oi_mul]
theorem oi_addn (a : Int) (n : Nat) : Int32.ofInt a + (-(OfNat.ofNat n) : Int32) = Int32.ofInt (a + -(OfNat.ofNat n : Int)) := by rw [oi_neg, oi_add]
theorem oi_to {a : Int} (h : -2147483648 ≤ a ∧ a < 2147483648) : (Int32.ofInt a).toInt = a := i_ofInt h
theorem oi_nc {a : Int} (h : -2147483648 ≤ a ∧ a < 2147483648) : (Int32.ofInt a).toNatClampNeg = a.toNat := by
  unfold Int32.toNatClampNeg
  rw [oi_to h]
theorem oi_in {a : Int} {n : Nat} (h : -2147483648 ≤ a ∧ a < 2147483648) : vp_in (Int32.ofInt a) n ↔ 0 ≤ a ∧ a < n := by
  rw [vp_in_iff, oi_to h]
theorem oi_le {a b : Int} (h : (-2147483648 ≤ a ∧ a < 2147483648) ∧ (-2147483648 ≤ b ∧ b < 2147483648)) : Int32.ofInt a ≤ Int32.ofInt b ↔ a ≤ b := i_le h.1 h.2
theorem oi_lt {a b : Int} (h : (-2147483648 ≤ a ∧ a < 2147483648) ∧ (-2147483648 ≤ b ∧ b < 2147483648)) : Int32.ofInt a < Int32.ofInt b ↔ a < b := i_lt h.1 h.2
theorem oi_eq {a b : Int} (h : (-2147483648 ≤ a ∧ a < 2147483648) ∧ (-2147483648 ≤ b ∧ b < 2147483648)) : Int32.ofInt a = Int32.ofInt b ↔ a = b := i_eq h.1 h.2
theorem oi_lel {a : Int} {n : Nat} (h : (-2147483648 ≤ a ∧ a < 2147483648) ∧ (OfNat.ofNat n : Int) < 2147483648) : Int32.ofInt a ≤ (OfNat.ofNat n : Int32) ↔ a ≤ OfNat.ofNat n := by
  rw [oi_lit, oi_le ⟨h.1, by have : (0 : Int) ≤ OfNat.ofNat n := Int.natCast_nonneg n
                             omega, h.2⟩]
theorem oi_lle {a : Int} {n : Nat} (h : (-2147483648 ≤ a ∧ a < 2147483648) ∧ (OfNat.ofNat n : Int) < 2147483648) : (OfNat.ofNat n : Int32) ≤ Int32.ofInt a ↔ OfNat.ofNat n ≤ a := by
  rw [oi_lit, oi_le ⟨⟨by have : (0 : Int) ≤ OfNat.ofNat n := Int.natCast_nonneg n
                         omega, h.2⟩, h.1⟩]
theorem oi_ltl {a : Int} {n : Nat} (h : (-2147483648 ≤ a ∧ a < 2147483648) ∧ (OfNat.ofNat n : Int) < 2147483648) : Int32.ofInt a < (OfNat.ofNat n : Int32) ↔ a < OfNat.ofNat n := by
  rw [oi_lit, oi_lt ⟨h.1, by have : (0 : Int) ≤ OfNat.ofNat n := Int.natCast_nonneg n
                             omega, h.2⟩]
theorem oi_llt {a : Int} {n : Nat} (h : (-2147483648 ≤ a ∧ a < 2147483648) ∧ (OfNat.ofNat n : Int) < 2147483648) : (OfNat.ofNat n : Int32) < Int32.ofInt a ↔ OfNat.ofNat n < a := by
  rw [oi_lit, oi_lt ⟨⟨by have : (0 : Int) ≤ OfNat.ofNat n := Int.natCast_nonneg n
                         omega, h.2⟩, h.1⟩]
theorem oi_eql {a : Int} {n : Nat} (h : (-2147483648 ≤ a ∧ a < 2147483648) ∧ (OfNat.ofNat n : Int) < 2147483648) : Int32.ofInt a = (OfNat.ofNat n : Int32) ↔ a = OfNat.ofNat n := by
  rw [oi_lit, oi_eq ⟨h.1, by have : (0 : Int) ≤ OfNat.ofNat n := Int.natCast_nonneg n
                             omega, h.2⟩]
theorem oi_of (x : Int32) : ∃ z : Int, x = Int32.ofInt z ∧ -2147483648 ≤ z ∧ z < 2147483648 := ⟨x.toInt, (Int32.ofInt_toInt x).symm, Int32.le_toInt x, Int32.toInt_lt x⟩
/-- a loop that counts up: a measure falls, the invariant holds at its head -/
theorem lp_up {d m k : Nat} {Q : pm_O → pm_H → Prop} {α : Type} (L : Nat → α → List Value) (I : Nat → α → pm_H → Prop) (n : Nat)
    (step : ∀ i, i < n → ∀ x σ, I i x σ → (∀ y σ', I (i + 1) y σ' → pm_R d m k (L (i + 1) y) [] σ' Q) → pm_R d m k (L i x) [] σ Q)
    (done : ∀ x σ, I n x σ → pm_R d m k (L n x) [] σ Q) : ∀ i, i ≤ n → ∀ x σ, I i x σ → pm_R d m k (L i x) [] σ Q := by
  intro i hi
  obtain ⟨j, rfl⟩ := Nat.exists_eq_add_of_le hi
  clear hi
  induction j generalizing i with
  | zero => exact done
  | succ j ih =>
    intro x σ hI
    refine step i (by omega) x σ hI (fun y σ' hy => ?_)
    have e : i + (j + 1) = (i + 1) + j := by omega
    exact ih (i + 1) (by rw [← e]; exact step) (by rw [← e]; exact done) y σ' hy
/-- a run has one end -/
theorem pm_C_det {d m : Nat} {As : List Value} {σ σ' : pm_H} {o : pm_O} {Q : pm_O → pm_H → Prop} (h : pm_C d m As σ (fun o1 σ1 => o1 = o ∧ σ1 = σ')) : pm_C d m As σ Q ↔ Q o σ' := by
  constructor
  · rintro ⟨n2, o2, σ2, h3, h4⟩
    obtain ⟨n1, o1, σ1, h1, rfl, rfl⟩ := h
    have e1 := pm_exec_le h1 (Nat.le_add_right n1 n2)
    have e2 := pm_exec_le h3 (Nat.le_add_left n2 n1)
    rw [e1] at e2
    cases e2
    exact h4
  · intro hq
    exact pm_C_mono h (fun o1 σ1 q => by obtain ⟨rfl, rfl⟩ := q; exact hq)
theorem cI.eq {d d' m : Nat} {As : List Value} {σ : pm_H} {r : Int32} {K : Int32 → pm_H → Prop} {X : Nat → pm_H → Prop} (h : cI d m As σ r) (hd : d ≤ d') : pm_C d' m As σ (pm_kI K X) ↔ K r σ := pm_C_det (pm_C_up h hd)
theorem cJ.eq {d d' m : Nat} {As : List Value} {σ : pm_H} {r : Int64} {K : Int64 → pm_H → Prop} {X : Nat → pm_H → Prop} (h : cJ d m As σ r) (hd : d ≤ d') : pm_C d' m As σ (pm_kJ K X) ↔ K r σ := pm_C_det (pm_C_up h hd)
/-- all but what P names is as it was, and nothing was made -/
def fr (P : Nat → Prop) (σ σ' : pm_H) : Prop := σ'.1 = σ.1 ∧ σ'.2.1 = σ.2.1 ∧ ∀ a, ¬ P a → (∀ f, pm_F σ' f a = pm_F σ f a) ∧ ∀ j, pm_A σ' a j = pm_A σ a j
theorem fr.rf {P : Nat → Prop} {σ : pm_H} : fr P σ σ := ⟨rfl, rfl, fun _ _ => ⟨fun _ => rfl, fun _ => rfl⟩⟩
theorem fr.tr {P : Nat → Prop} {σ σ1 σ2 : pm_H} (h : fr P σ σ1) (g : fr P σ1 σ2) : fr P σ σ2 :=
  ⟨g.1.trans h.1, g.2.1.trans h.2.1, fun a ha => ⟨fun f => ((g.2.2 a ha).1 f).trans ((h.2.2 a ha).1 f), fun j => ((g.2.2 a ha).2 j).trans ((h.2.2 a ha).2 j)⟩⟩
theorem fr.mono {P P' : Nat → Prop} {σ σ1 : pm_H} (h : fr P σ σ1) (hp : ∀ a, P a → P' a) : fr P' σ σ1 := ⟨h.1, h.2.1, fun a ha => h.2.2 a (fun q => ha (hp a q))⟩
theorem fr.t {P : Nat → Prop} {σ σ1 : pm_H} (h : fr P σ σ1) (a : Nat) : pm_t σ1 a = pm_t σ a := by unfold pm_t; rw [h.2.1]
theorem fr.l {P : Nat → Prop} {σ σ1 : pm_H} (h : fr P σ σ1) (a : Nat) : pm_l σ1 a = pm_l σ a := by unfold pm_l; rw [h.2.1]
theorem fr.n {P : Nat → Prop} {σ σ1 : pm_H} (h : fr P σ σ1) : pm_n σ1 = pm_n σ := by unfold pm_n; rw [h.1]
theorem fr.w {P : Nat → Prop} {σ σ1 : pm_H} (h : fr P σ σ1) : pm_w σ1 = pm_w σ := by unfold pm_w; rw [h.1]
theorem fr.F {P : Nat → Prop} {σ σ1 : pm_H} (h : fr P σ σ1) {f a : Nat} (ha : ¬ P a) : pm_F σ1 f a = pm_F σ f a := (h.2.2 a ha).1 f
theorem fr.A {P : Nat → Prop} {σ σ1 : pm_H} (h : fr P σ σ1) {a j : Nat} (ha : ¬ P a) : pm_A σ1 a j = pm_A σ a j := (h.2.2 a ha).2 j
theorem fr_sF {P : Nat → Prop} {σ : pm_H} {f a : Nat} {v : Value} (ha : P a) : fr P σ (pm_sF σ f a v) := by
  refine ⟨rfl, rfl, fun b hb => ⟨fun f' => ?_, fun _ => rfl⟩⟩
  rw [F_sF, if_neg]
  rintro ⟨_, rfl⟩
  exact hb ha
theorem fr_sA {P : Nat → Prop} {σ : pm_H} {j a : Nat} {v : Value} (ha : P a) : fr P σ (pm_sA σ a j v) := by
  refine ⟨rfl, rfl, fun b hb => ⟨fun _ => rfl, fun j' => ?_⟩⟩
  rw [A_sA, if_neg]
  rintro ⟨rfl, _⟩
  exact hb ha
theorem fr_cp {P : Nat → Prop} {σ : pm_H} {a0 sp a dp n : Nat} (ha : P a) : fr P σ (pm_cp σ a0 sp a dp n) := by
  refine ⟨rfl, rfl, fun b hb => ⟨fun _ => rfl, fun j' => ?_⟩⟩
  rw [A_cp, if_neg]
  rintro ⟨rfl, _⟩
  exact hb ha
theorem fr_uSy {P : Nat → Prop} {σ : pm_H} {g : Nat} {lo hi : Int64} (ha : P g) : fr P σ (uSy σ g lo hi) := (fr_sF ha).tr (fr_sF ha)
theorem aSy_fr {P : Nat → Prop} {σ σ' : pm_H} {g : Nat} {lo hi : Int64} (h : aSy σ g lo hi) (hf : fr P σ σ') (hg : ¬ P g) : aSy σ' g lo hi := by
  obtain ⟨h1, h2, h3⟩ := h
  exact ⟨by rw [hf.t, h1], by rw [hf.F hg, h2], by rw [hf.F hg, h3]⟩
