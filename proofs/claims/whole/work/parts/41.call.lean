/-! ===== more depth does no harm; the use of what is known of a callee ===== -/
theorem pm_step_up {r1 r2 : Nat → Nat → Nat → List Value → List Value → pm_H → Option (pm_O × pm_H)} (hr : ∀ d m k L S σ z, r1 d m k L S σ = some z → r2 (d + 1) m k L S σ = some z) {d m k : Nat} {L S : List Value} {σ : pm_H} {z : pm_O × pm_H} (h : pm_step r1 d m k L S σ = some z) : pm_step r2 (d + 1) m k L S σ = some z := by
  unfold pm_step at h ⊢
  cases hk : (pm_prog m).2.2[k]? with
  | none => rw [hk] at h; cases h
  | some e =>
    obtain ⟨pc, i, len, v, x, y, nx, f1, f2, c1, c2, hs⟩ := e
    rw [hk] at h
    dsimp only at h ⊢
    cases h1 : pm_sop i v L S with
    | some q => obtain ⟨L', S'⟩ := q; rw [h1] at h; dsimp only at h ⊢; exact hr _ _ _ _ _ _ _ h
    | none =>
      rw [h1] at h
      dsimp only at h ⊢
      cases h2 : pm_rd i v x y S σ with
      | some q =>
        obtain ⟨p, w, S'⟩ := q
        rw [h2] at h
        dsimp only at h ⊢
        by_cases hp : pm_op p
        · rw [pm_if_t hp] at h ⊢; exact hr _ _ _ _ _ _ _ h
        · rw [pm_if_f hp] at h; cases h
      | none =>
        rw [h2] at h
        dsimp only at h ⊢
        cases h2a : pm_wr i v x y S σ with
        | some q =>
          obtain ⟨p, S', σ'⟩ := q
          rw [h2a] at h
          dsimp only at h ⊢
          by_cases hp : pm_op p
          · rw [pm_if_t hp] at h ⊢; exact hr _ _ _ _ _ _ _ h
          · rw [pm_if_f hp] at h; cases h
        | none =>
        rw [h2a] at h
        dsimp only at h ⊢
        cases h2b : pm_cd i S with
        | some q =>
          obtain ⟨p, S'⟩ := q
          rw [h2b] at h
          dsimp only at h ⊢
          by_cases hp : pm_op p
          · rw [pm_if_t hp] at h ⊢; exact hr _ _ _ _ _ _ _ h
          · rw [pm_if_f hp] at h; cases h
        | none =>
        rw [h2b] at h
        dsimp only at h ⊢
        cases h3 : pm_bop i S with
        | some q =>
          obtain ⟨p, sw, S'⟩ := q
          rw [h3] at h
          dsimp only at h ⊢
          by_cases hp : p
          · rw [pm_if_t hp] at h ⊢
            cases sw
            · exact hr _ _ _ _ _ _ _ h
            · exact hr _ _ _ _ _ _ _ h
          · rw [pm_if_f hp] at h ⊢
            cases sw
            · exact hr _ _ _ _ _ _ _ h
            · exact hr _ _ _ _ _ _ _ h
        | none =>
          rw [h3] at h
          dsimp only at h ⊢
          cases h4 : pm_rop i x S with
          | some q =>
            obtain ⟨p, o⟩ := q
            rw [h4] at h
            exact h
          | none =>
            rw [h4] at h
            dsimp only at h ⊢
            split at h
            · exact hr _ _ _ _ _ _ _ h
            · exact h
            · exact hr _ _ _ _ _ _ _ h
            · cases hc : pm_isc i with
              | false => rw [hc] at h; cases h
              | true =>
                rw [hc] at h
                simp only [if_true] at h ⊢
                cases d with
                | zero => cases h
                | succ d' =>
                  dsimp only at h ⊢
                  by_cases hp : (pm_prog x).1 ≤ S.length ∧ pm_cat (S.drop (pm_prog x).1) ≤ 8 ∧ (pm_flat (S.take (pm_prog x).1).reverse).length ≤ (pm_prog x).2.1 ∧ pm_op (pm_rcv σ y (S.take (pm_prog x).1).reverse)
                  · rw [pm_if_t hp] at h ⊢
                    cases hcall : r1 d' x 0 (pm_ent (S.take (pm_prog x).1).reverse (pm_prog x).2.1) [] σ with
                    | none => rw [hcall] at h; cases h
                    | some q =>
                      obtain ⟨o, σ1⟩ := q
                      rw [hcall] at h
                      rw [hr _ _ _ _ _ _ _ hcall]
                      cases o with
                      | inl r =>
                        dsimp only at h ⊢
                        cases hpu : pm_push v r (S.drop (pm_prog x).1) with
                        | none => rw [hpu] at h; cases h
                        | some S2 => rw [hpu] at h; dsimp only at h ⊢; exact hr _ _ _ _ _ _ _ h
                      | inr E =>
                        dsimp only at h ⊢
                        cases c2 with
                        | true => cases h
                        | false =>
                          simp only [Bool.false_eq_true, if_false] at h ⊢
                          cases hlk : hs.lookup E with
                          | none => rw [hlk] at h; exact h
                          | some hh => rw [hlk] at h; dsimp only at h ⊢; exact hr _ _ _ _ _ _ _ h
                  · rw [pm_if_f hp] at h; cases h
theorem pm_exec_up1 : ∀ (n d m k : Nat) (L S : List Value) (σ : pm_H) (z : pm_O × pm_H), pm_exec n d m k L S σ = some z → pm_exec n (d + 1) m k L S σ = some z := by
  intro n
  induction n with
  | zero => intro d m k L S σ z h; cases h
  | succ n ih => intro d m k L S σ z h; exact pm_step_up ih h
theorem pm_C_up1 {d m : Nat} {As : List Value} {σ : pm_H} {Q : pm_O → pm_H → Prop} (h : pm_C d m As σ Q) : pm_C (d + 1) m As σ Q := by
  obtain ⟨n, o, σ', h1, h2⟩ := h
  exact ⟨n, o, σ', pm_exec_up1 _ _ _ _ _ _ _ _ h1, h2⟩
theorem pm_C_up {d d' m : Nat} {As : List Value} {σ : pm_H} {Q : pm_O → pm_H → Prop} (h : pm_C d m As σ Q) (hd : d ≤ d') : pm_C d' m As σ Q := by
  obtain ⟨j, rfl⟩ := Nat.exists_eq_add_of_le hd
  induction j with
  | zero => exact h
  | succ j ih => exact pm_C_up1 (ih (Nat.le_add_right _ _))
/-- a callee that answers an int and leaves all as it was -/
def cI (d m : Nat) (As : List Value) (σ : pm_H) (r : Int32) : Prop := pm_C d m As σ (fun o σ' => o = .inl (some (.int r)) ∧ σ' = σ)
def cJ (d m : Nat) (As : List Value) (σ : pm_H) (r : Int64) : Prop := pm_C d m As σ (fun o σ' => o = .inl (some (.long r)) ∧ σ' = σ)
theorem cI.use {d d' m : Nat} {As : List Value} {σ : pm_H} {r : Int32} {K : Int32 → pm_H → Prop} {X : Nat → pm_H → Prop} (h : cI d m As σ r) (hd : d ≤ d') (hk : K r σ) : pm_C d' m As σ (pm_kI K X) :=
  pm_C_mono (pm_C_up h hd) (fun o σ' q => by obtain ⟨rfl, rfl⟩ := q; exact hk)
theorem cJ.use {d d' m : Nat} {As : List Value} {σ : pm_H} {r : Int64} {K : Int64 → pm_H → Prop} {X : Nat → pm_H → Prop} (h : cJ d m As σ r) (hd : d ≤ d') (hk : K r σ) : pm_C d' m As σ (pm_kJ K X) :=
  pm_C_mono (pm_C_up h hd) (fun o σ' q => by obtain ⟨rfl, rfl⟩ := q; exact hk)
/-- a callee that answers nothing; what holds after it -/
def cV (d m : Nat) (As : List Value) (σ : pm_H) (P : pm_H → Prop) : Prop := pm_C d m As σ (fun o σ' => o = .inl none ∧ P σ')
theorem cV.use {d d' m : Nat} {As : List Value} {σ : pm_H} {P K : pm_H → Prop} {X : Nat → pm_H → Prop} (h : cV d m As σ P) (hd : d ≤ d') (hk : ∀ σ', P σ' → K σ') : pm_C d' m As σ (pm_kV K X) :=
  pm_C_mono (pm_C_up h hd) (fun o σ' q => by obtain ⟨rfl, q⟩ := q; exact hk _ q)
/-- a callee that answers an int; what holds after it -/
def cIP (d m : Nat) (As : List Value) (σ : pm_H) (r : Int32) (P : pm_H → Prop) : Prop := pm_C d m As σ (fun o σ' => o = .inl (some (.int r)) ∧ P σ')
theorem cIP.use {d d' m : Nat} {As : List Value} {σ : pm_H} {r : Int32} {P : pm_H → Prop} {K : Int32 → pm_H → Prop} {X : Nat → pm_H → Prop} (h : cIP d m As σ r P) (hd : d ≤ d') (hk : ∀ σ', P σ' → K r σ') : pm_C d' m As σ (pm_kI K X) :=
  pm_C_mono (pm_C_up h hd) (fun o σ' q => by obtain ⟨rfl, q⟩ := q; exact hk _ q)
def cRP (d m : Nat) (As : List Value) (σ : pm_H) (r : Nat) (P : pm_H → Prop) : Prop := pm_C d m As σ (fun o σ' => o = .inl (some (.ref r)) ∧ P σ')
theorem cRP.use {d d' m : Nat} {As : List Value} {σ : pm_H} {r : Nat} {P : pm_H → Prop} {K : Nat → pm_H → Prop} {X : Nat → pm_H → Prop} (h : cRP d m As σ r P) (hd : d ≤ d') (hk : ∀ σ', P σ' → K r σ') : pm_C d' m As σ (pm_kR K X) :=
  pm_C_mono (pm_C_up h hd) (fun o σ' q => by obtain ⟨rfl, q⟩ := q; exact hk _ q)
/-- a callee that throws -/
def cX (d m : Nat) (As : List Value) (σ : pm_H) (E : Nat) (P : pm_H → Prop) : Prop := pm_C d m As σ (fun o σ' => o = .inr E ∧ P σ')
/-! ===== reads after writes ===== -/
theorem F_sF {σ : pm_H} {f a f' a' : Nat} {v : Value} : pm_F (pm_sF σ f a v) f' a' = if f' = f ∧ a' = a then v else pm_F σ f' a' := rfl
theorem A_sF {σ : pm_H} {f a a' j : Nat} {v : Value} : pm_A (pm_sF σ f a v) a' j = pm_A σ a' j := rfl
theorem t_sF {σ : pm_H} {f a a' : Nat} {v : Value} : pm_t (pm_sF σ f a v) a' = pm_t σ a' := rfl
theorem l_sF {σ : pm_H} {f a a' : Nat} {v : Value} : pm_l (pm_sF σ f a v) a' = pm_l σ a' := rfl
theorem n_sF {σ : pm_H} {f a : Nat} {v : Value} : pm_n (pm_sF σ f a v) = pm_n σ := rfl
theorem w_sF {σ : pm_H} {f a : Nat} {v : Value} : pm_w (pm_sF σ f a v) = pm_w σ := rfl
theorem F_sA {σ : pm_H} {a j f' a' : Nat} {v : Value} : pm_F (pm_sA σ a j v) f' a' = pm_F σ f' a' := rfl
theorem A_sA {σ : pm_H} {a j a' j' : Nat} {v : Value} : pm_A (pm_sA σ a j v) a' j' = if a' = a ∧ j' = j then v else pm_A σ a' j' := rfl
theorem t_sA {σ : pm_H} {a j a' : Nat} {v : Value} : pm_t (pm_sA σ a j v) a' = pm_t σ a' := rfl
theorem l_sA {σ : pm_H} {a j a' : Nat} {v : Value} : pm_l (pm_sA σ a j v) a' = pm_l σ a' := rfl
theorem n_sA {σ : pm_H} {a j : Nat} {v : Value} : pm_n (pm_sA σ a j v) = pm_n σ := rfl
theorem w_sA {σ : pm_H} {a j : Nat} {v : Value} : pm_w (pm_sA σ a j v) = pm_w σ := rfl
theorem F_cp {σ : pm_H} {a0 sp a dp n f' a' : Nat} : pm_F (pm_cp σ a0 sp a dp n) f' a' = pm_F σ f' a' := rfl
theorem A_cp {σ : pm_H} {a0 sp a dp n a' j' : Nat} : pm_A (pm_cp σ a0 sp a dp n) a' j' = if a' = a ∧ dp ≤ j' ∧ j' < dp + n then pm_A σ a0 (sp + (j' - dp)) else pm_A σ a' j' := rfl
theorem t_cp {σ : pm_H} {a0 sp a dp n a' : Nat} : pm_t (pm_cp σ a0 sp a dp n) a' = pm_t σ a' := rfl
theorem l_cp {σ : pm_H} {a0 sp a dp n a' : Nat} : pm_l (pm_cp σ a0 sp a dp n) a' = pm_l σ a' := rfl
theorem n_cp {σ : pm_H} {a0 sp a dp n : Nat} : pm_n (pm_cp σ a0 sp a dp n) = pm_n σ := rfl
theorem w_cp {σ : pm_H} {a0 sp a dp n : Nat} : pm_w (pm_cp σ a0 sp a dp n) = pm_w σ := rfl
theorem F_new {σ : pm_H} {t len w f' a' : Nat} : pm_F (pm_new σ t len w) f' a' = if a' = pm_n σ then .null else pm_F σ f' a' := rfl
theorem A_new {σ : pm_H} {t len w a' j' : Nat} : pm_A (pm_new σ t len w) a' j' = if a' = pm_n σ then .null else pm_A σ a' j' := rfl
theorem t_new {σ : pm_H} {t len w a' : Nat} : pm_t (pm_new σ t len w) a' = if a' = pm_n σ then t else pm_t σ a' := by
  unfold pm_t pm_new pm_n; dsimp only; split <;> rfl
theorem l_new {σ : pm_H} {t len w a' : Nat} : pm_l (pm_new σ t len w) a' = if a' = pm_n σ then len else pm_l σ a' := by
  unfold pm_l pm_new pm_n; dsimp only; split <;> rfl
theorem n_new {σ : pm_H} {t len w : Nat} : pm_n (pm_new σ t len w) = pm_n σ + 1 := rfl
theorem w_new {σ : pm_H} {t len w : Nat} : pm_w (pm_new σ t len w) = pm_w σ + w := rfl
theorem iv_int {x : Int32} : iv (.int x) = x := rfl
theorem jv_long {x : Int64} : jv (.long x) = x := rfl
theorem rv_ref {x : Nat} : rv (.ref x) = x := rfl
theorem isr_ref {x : Nat} : isr (.ref x) = true := rfl
/-! ===== small ints ===== -/
theorem i_ofInt {a : Int} (h : -2147483648 ≤ a ∧ a < 2147483648) : (Int32.ofInt a).toInt = a := by
  have e : ((Int32.size : Nat) : Int) = 4294967296 := rfl
  rw [Int32.toInt_ofInt, Int.bmod_def, e]
  split <;> omega
theorem i_add {a b : Int} : Int32.ofInt a + Int32.ofInt b = Int32.ofInt (a + b) := (Int32.ofInt_add a b).symm
theorem i_le {a b : Int} (ha : -2147483648 ≤ a ∧ a < 2147483648) (hb : -2147483648 ≤ b ∧ b < 2147483648) : Int32.ofInt a ≤ Int32.ofInt b ↔ a ≤ b := by
  rw [Int32.le_iff_toInt_le, i_ofInt ha, i_ofInt hb]
theorem i_lt {a b : Int} (ha : -2147483648 ≤ a ∧ a < 2147483648) (hb : -2147483648 ≤ b ∧ b < 2147483648) : Int32.ofInt a < Int32.ofInt b ↔ a < b := by
  rw [Int32.lt_iff_toInt_lt, i_ofInt ha, i_ofInt hb]
theorem i_eq {a b : Int} (ha : -2147483648 ≤ a ∧ a < 2147483648) (hb : -2147483648 ≤ b ∧ b < 2147483648) : Int32.ofInt a = Int32.ofInt b ↔ a = b := by
  rw [← Int32.toInt_inj, i_ofInt ha, i_ofInt hb]
