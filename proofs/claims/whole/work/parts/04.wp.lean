/-! ===== the pure machine: more time changes nothing; a stretch's row is sound ===== -/
theorem pm_step_mono {r1 r2 : Nat → Nat → Nat → List Value → List Value → pm_H → Option (pm_O × pm_H)} (hr : ∀ d m k L S σ z, r1 d m k L S σ = some z → r2 d m k L S σ = some z) {d m k : Nat} {L S : List Value} {σ : pm_H} {z : pm_O × pm_H} (h : pm_step r1 d m k L S σ = some z) : pm_step r2 d m k L S σ = some z := by
  unfold pm_step at h ⊢
  cases hk : (pm_prog m).2.2[k]? with
  | none => rw [hk] at h; cases h
  | some e =>
    obtain ⟨pc, i, len, v, x, y, nx, f1, f2, c1, c2, hs⟩ := e
    rw [hk] at h
    dsimp only at h ⊢
    cases h1 : pm_sop i v L S with
    | some q => obtain ⟨L', S'⟩ := q; rw [h1] at h; dsimp only at h ⊢; exact hr _ _ _ _ _ _ _ h
    | none =>
      rw [h1] at h
      dsimp only at h ⊢
      cases h2 : pm_rd i v x y S σ with
      | some q =>
        obtain ⟨p, w, S'⟩ := q
        rw [h2] at h
        dsimp only at h ⊢
        by_cases hp : pm_op p
        · rw [pm_if_t hp] at h ⊢; exact hr _ _ _ _ _ _ _ h
        · rw [pm_if_f hp] at h; cases h
      | none =>
        rw [h2] at h
        dsimp only at h ⊢
        cases h2a : pm_wr i v x y S σ with
        | some q =>
          obtain ⟨p, S', σ'⟩ := q
          rw [h2a] at h
          dsimp only at h ⊢
          by_cases hp : pm_op p
          · rw [pm_if_t hp] at h ⊢; exact hr _ _ _ _ _ _ _ h
          · rw [pm_if_f hp] at h; cases h
        | none =>
        rw [h2a] at h
        dsimp only at h ⊢
        cases h2b : pm_cd i S with
        | some q =>
          obtain ⟨p, S'⟩ := q
          rw [h2b] at h
          dsimp only at h ⊢
          by_cases hp : pm_op p
          · rw [pm_if_t hp] at h ⊢; exact hr _ _ _ _ _ _ _ h
          · rw [pm_if_f hp] at h; cases h
        | none =>
        rw [h2b] at h
        dsimp only at h ⊢
        cases h3 : pm_bop i S with
        | some q =>
          obtain ⟨p, sw, S'⟩ := q
          rw [h3] at h
          dsimp only at h ⊢
          by_cases hp : p
          · rw [pm_if_t hp] at h ⊢
            cases sw
            · exact hr _ _ _ _ _ _ _ h
            · exact hr _ _ _ _ _ _ _ h
          · rw [pm_if_f hp] at h ⊢
            cases sw
            · exact hr _ _ _ _ _ _ _ h
            · exact hr _ _ _ _ _ _ _ h
        | none =>
          rw [h3] at h
          dsimp only at h ⊢
          cases h4 : pm_rop i x S with
          | some q =>
            obtain ⟨p, o⟩ := q
            rw [h4] at h
            exact h
          | none =>
            rw [h4] at h
            dsimp only at h ⊢
            split at h
            · exact hr _ _ _ _ _ _ _ h
            · exact h
            · exact hr _ _ _ _ _ _ _ h
            · cases hc : pm_isc i with
              | false => rw [hc] at h; cases h
              | true =>
                rw [hc] at h
                simp only [if_true] at h ⊢
                cases d with
                | zero => cases h
                | succ d' =>
                  dsimp only at h ⊢
                  by_cases hp : (pm_prog x).1 ≤ S.length ∧ pm_cat (S.drop (pm_prog x).1) ≤ 8 ∧ (pm_flat (S.take (pm_prog x).1).reverse).length ≤ (pm_prog x).2.1 ∧ pm_op (pm_rcv σ y (S.take (pm_prog x).1).reverse)
                  · rw [pm_if_t hp] at h ⊢
                    cases hcall : r1 d' x 0 (pm_ent (S.take (pm_prog x).1).reverse (pm_prog x).2.1) [] σ with
                    | none => rw [hcall] at h; cases h
                    | some q =>
                      obtain ⟨o, σ1⟩ := q
                      rw [hcall] at h
                      rw [hr _ _ _ _ _ _ _ hcall]
                      cases o with
                      | inl r =>
                        dsimp only at h ⊢
                        cases hpu : pm_push v r (S.drop (pm_prog x).1) with
                        | none => rw [hpu] at h; cases h
                        | some S2 => rw [hpu] at h; dsimp only at h ⊢; exact hr _ _ _ _ _ _ _ h
                      | inr E =>
                        dsimp only at h ⊢
                        cases c2 with
                        | true => cases h
                        | false =>
                          simp only [Bool.false_eq_true, if_false] at h ⊢
                          cases hlk : hs.lookup E with
                          | none => rw [hlk] at h; exact h
                          | some hh => rw [hlk] at h; dsimp only at h ⊢; exact hr _ _ _ _ _ _ _ h
                  · rw [pm_if_f hp] at h; cases h
theorem pm_exec_mono1 : ∀ (n d m k : Nat) (L S : List Value) (σ : pm_H) (z : pm_O × pm_H), pm_exec n d m k L S σ = some z → pm_exec (n + 1) d m k L S σ = some z := by
  intro n
  induction n with
  | zero => intro d m k L S σ z h; cases h
  | succ n ih => intro d m k L S σ z h; exact pm_step_mono ih h
theorem pm_exec_mono {n d m k : Nat} {L S : List Value} {σ : pm_H} {z : pm_O × pm_H} (h : pm_exec n d m k L S σ = some z) (j : Nat) : pm_exec (n + j) d m k L S σ = some z := by
  induction j with
  | zero => exact h
  | succ j ih => exact pm_exec_mono1 _ _ _ _ _ _ _ _ ih
theorem pm_exec_le {n n' d m k : Nat} {L S : List Value} {σ : pm_H} {z : pm_O × pm_H} (h : pm_exec n d m k L S σ = some z) (hn : n ≤ n') : pm_exec n' d m k L S σ = some z := by
  obtain ⟨j, rfl⟩ := Nat.exists_eq_add_of_le hn
  exact pm_exec_mono h j
theorem pm_R_intro {d m k : Nat} {L S : List Value} {σ : pm_H} {Q : pm_O → pm_H → Prop} {o : pm_O} {σ' : pm_H} (n : Nat) (h : pm_step (pm_exec n) d m k L S σ = some (o, σ')) (hq : Q o σ') : pm_R d m k L S σ Q := ⟨n + 1, o, σ', h, hq⟩
theorem pm_R_mono {d m k : Nat} {L S : List Value} {σ : pm_H} {Q Q' : pm_O → pm_H → Prop} (h : pm_R d m k L S σ Q) (hq : ∀ o σ', Q o σ' → Q' o σ') : pm_R d m k L S σ Q' := by
  obtain ⟨n, o, σ', h1, h2⟩ := h
  exact ⟨n, o, σ', h1, hq _ _ h2⟩
theorem pm_C_mono {d m : Nat} {As : List Value} {σ : pm_H} {Q Q' : pm_O → pm_H → Prop} (h : pm_C d m As σ Q) (hq : ∀ o σ', Q o σ' → Q' o σ') : pm_C d m As σ Q' := pm_R_mono h hq
def pm_okn : Nat → List pm_E → Bool
  | _, [] => true
  | k, e :: tl => e.2.2.2.2.2.2.1 == k + 1 && pm_okn (k + 1) tl
theorem pm_okn_at : ∀ (C : List pm_E) (k0 : Nat), pm_okn k0 C = true → ∀ (k : Nat) (e : pm_E), C[k]? = some e → e.2.2.2.2.2.2.1 = k0 + k + 1 := by
  intro C
  induction C with
  | nil => intro k0 _ k e h; simp at h
  | cons a tl ih =>
    intro k0 h k e he
    simp only [pm_okn, Bool.and_eq_true, beq_iff_eq] at h
    cases k with
    | zero => simp only [List.getElem?_cons_zero, Option.some.injEq] at he; subst he; exact h.1
    | succ k =>
      simp only [List.getElem?_cons_succ] at he
      rw [ih (k0 + 1) h.2 k e he]
      omega
def pm_ok (m : Nat) (C : List pm_E) : Prop := (pm_prog m).2.2 = C ∧ pm_okn 0 C = true
theorem pm_drop_cons {C tl : List pm_E} {k : Nat} {e : pm_E} (h : C.drop k = e :: tl) : C[k]? = some e ∧ tl = C.drop (k + 1) := by
  constructor
  · have h1 : (C.drop k)[0]? = C[k + 0]? := List.getElem?_drop
    rw [h] at h1
    simpa using h1.symm
  · rw [← List.tail_drop, h]
    rfl
theorem pm_kk_push {mk : Value} {S : List Value} {K : List Value → pm_H → Prop} {X : Nat → pm_H → Prop} {o : pm_O} {σ : pm_H} (h : pm_kk mk S K X o σ) : (∃ (r : Option Value) (S' : List Value), o = .inl r ∧ pm_push mk r S = some S' ∧ K S' σ) ∨ ∃ E, o = .inr E ∧ X E σ := by
  cases mk <;> simp only [pm_kk] at h
  · rcases o with r | E
    · rcases r with _ | r
      · exact h.elim
      · cases r <;> first | exact h.elim | exact Or.inl ⟨_, _, rfl, rfl, h⟩
    · exact Or.inr ⟨E, rfl, h⟩
  · rcases o with r | E
    · rcases r with _ | r
      · exact h.elim
      · cases r <;> first | exact h.elim | exact Or.inl ⟨_, _, rfl, rfl, h⟩
    · exact Or.inr ⟨E, rfl, h⟩
  · rcases o with r | E
    · rcases r with _ | r
      · exact h.elim
      · cases r <;> first | exact h.elim | exact Or.inl ⟨_, _, rfl, rfl, h⟩
    · exact Or.inr ⟨E, rfl, h⟩
  · rcases o with r | E
    · rcases r with _ | r
      · exact h.elim
      · cases r <;> first | exact h.elim | exact Or.inl ⟨_, _, rfl, rfl, h⟩
    · exact Or.inr ⟨E, rfl, h⟩
  · rcases o with r | E
    · rcases r with _ | r
      · exact Or.inl ⟨_, _, rfl, rfl, h⟩
      · exact h.elim
    · exact Or.inr ⟨E, rfl, h⟩
theorem pm_run (n : Nat) : ∀ {d m k : Nat} {C : List pm_E} {L S : List Value} {σ : pm_H} {Q : pm_O → pm_H → Prop}, pm_ok m C → pm_wp n d m C (C.drop k) L S σ Q → pm_R d m k L S σ Q := by
  induction n with
  | zero => intro d m k C L S σ Q _ h; exact h.elim
  | succ n ih =>
    intro d m k C L S σ Q hC h
    cases hd : C.drop k with
    | nil => rw [hd] at h; exact h.elim
    | cons e tl =>
      rw [hd] at h
      obtain ⟨hk, htl⟩ := pm_drop_cons hd
      have hnx := pm_okn_at C 0 hC.2 k e hk
      have hk' : (pm_prog m).2.2[k]? = some e := by rw [hC.1]; exact hk
      obtain ⟨pc, i, len, v, x, y, nx, f1, f2, c1, c2, hs⟩ := e
      dsimp only at hnx
      have hnx : nx = k + 1 := by omega
      subst hnx
      have hN : ∀ {d' : Nat} {L S : List Value} {σ : pm_H}, (bif c1 then pm_R d' m (k + 1) L S σ Q else pm_wp n d' m C tl L S σ Q) → pm_R d' m (k + 1) L S σ Q := by
        intro d' L S σ h
        cases c1 with
        | true => exact h
        | false => exact ih hC (by rw [htl] at h; exact h)
      have hJ : ∀ {L S : List Value} {σ : pm_H}, (bif c2 then pm_R d m x L S σ Q else pm_wp n d m C (C.drop x) L S σ Q) → pm_R d m x L S σ Q := by
        intro L S σ h
        cases c2 with
        | true => exact h
        | false => exact ih hC h
      simp only [pm_wp] at h
      cases h1 : pm_sop i v L S with
      | some q =>
        obtain ⟨L', S'⟩ := q
        rw [h1] at h
        obtain ⟨n0, o, σ', h5, h6⟩ := hN h
        exact pm_R_intro n0 (by simp only [pm_step, hk', h1]; exact h5) h6
      | none =>
      rw [h1] at h
      dsimp only at h
      cases h2 : pm_rd i v x y S σ with
      | some q =>
        obtain ⟨p, w, S'⟩ := q
        rw [h2] at h
        obtain ⟨hp, h⟩ := pm_ad_iff.mp h
        obtain ⟨n0, o, σ', h5, h6⟩ := hN (pm_nm_at h)
        exact pm_R_intro n0 (by simp only [pm_step, hk', h1, h2]; rw [pm_if_t hp]; exact h5) h6
      | none =>
      rw [h2] at h
      dsimp only at h
      cases h2a : pm_wr i v x y S σ with
      | some q =>
        obtain ⟨p, S', σ'⟩ := q
        rw [h2a] at h
        obtain ⟨hp, h⟩ := pm_ad_iff.mp h
        obtain ⟨n0, o, σ2, h5, h6⟩ := hN (h _ rfl)
        exact pm_R_intro n0 (by simp only [pm_step, hk', h1, h2, h2a]; rw [pm_if_t hp]; exact h5) h6
      | none =>
      rw [h2a] at h
      dsimp only at h
      cases h2b : pm_cd i S with
      | some q =>
        obtain ⟨p, S'⟩ := q
        rw [h2b] at h
        obtain ⟨hp, h⟩ := pm_ad_iff.mp h
        obtain ⟨n0, o, σ2, h5, h6⟩ := hN h
        exact pm_R_intro n0 (by simp only [pm_step, hk', h1, h2, h2a, h2b]; rw [pm_if_t hp]; exact h5) h6
      | none =>
      rw [h2b] at h
      dsimp only at h
      cases h3 : pm_bop i S with
      | some q =>
        obtain ⟨p, sw, S'⟩ := q
        rw [h3] at h
        cases sw with
        | true =>
          by_cases hp : p
          · obtain ⟨n0, o, σ', h5, h6⟩ := hN (h.1 hp)
            exact pm_R_intro n0 (by simp only [pm_step, hk', h1, h2, h2a, h2b, h3]; rw [pm_if_t hp]; exact h5) h6
          · obtain ⟨n0, o, σ', h5, h6⟩ := hJ (h.2 hp)
            exact pm_R_intro n0 (by simp only [pm_step, hk', h1, h2, h2a, h2b, h3]; rw [pm_if_f hp]; exact h5) h6
        | false =>
          by_cases hp : p
          · obtain ⟨n0, o, σ', h5, h6⟩ := hJ (h.1 hp)
            exact pm_R_intro n0 (by simp only [pm_step, hk', h1, h2, h2a, h2b, h3]; rw [pm_if_t hp]; exact h5) h6
          · obtain ⟨n0, o, σ', h5, h6⟩ := hN (h.2 hp)
            exact pm_R_intro n0 (by simp only [pm_step, hk', h1, h2, h2a, h2b, h3]; rw [pm_if_f hp]; exact h5) h6
      | none =>
      rw [h3] at h
      dsimp only at h
      cases h4 : pm_rop i x S with
      | some q =>
        obtain ⟨p, o⟩ := q
        rw [h4] at h
        obtain ⟨hp, h⟩ := pm_ad_iff.mp h
        exact pm_R_intro 0 (by simp only [pm_step, hk', h1, h2, h2a, h2b, h3, h4]; exact pm_if_t hp) h
      | none =>
      rw [h4] at h
      dsimp only at h
      split at h
      · obtain ⟨n0, o, σ', h5, h6⟩ := hJ h
        exact pm_R_intro n0 (by simp only [pm_step, hk', h1, h2, h2a, h2b, h3, h4]; exact h5) h6
      · exact pm_R_intro 0 (by simp only [pm_step, hk', h1, h2, h2a, h2b, h3, h4]) h
      · obtain ⟨n0, o, σ', h5, h6⟩ := h
        exact pm_R_intro n0 (by simp only [pm_step, hk', h1, h2, h2a, h2b, h3, h4]; exact h5) h6
      · split at h
        · rename_i d' hc
          split at h
          · rename_i hb
            simp only [Bool.and_eq_true, Nat.ble_eq] at hb
            obtain ⟨hr, h⟩ := pm_ad_iff.mp h
            obtain ⟨n1, o, σ1, h5, h6⟩ := h
            have hp : (pm_prog x).1 ≤ S.length ∧ pm_cat (S.drop (pm_prog x).1) ≤ 8 ∧ (pm_flat (S.take (pm_prog x).1).reverse).length ≤ (pm_prog x).2.1 ∧ pm_op (pm_rcv σ y (S.take (pm_prog x).1).reverse) := ⟨hb.1, hb.2.1, hb.2.2, hr⟩
            have key : ∀ n0, pm_step (pm_exec n0) (d' + 1) m k L S σ = (match pm_exec n0 d' x 0 (pm_ent (S.take (pm_prog x).1).reverse (pm_prog x).2.1) [] σ with
              | none => none
              | some (.inl r, σ1) => match pm_push v r (S.drop (pm_prog x).1) with
                | none => none
                | some S'' => pm_exec n0 (d' + 1) m (k + 1) (pm_fg f1 L) S'' σ1
              | some (.inr E, σ1) => if c2 then none else match hs.lookup E with
                | some h => pm_exec n0 (d' + 1) m h [] [] σ1
                | none => if hs.isEmpty then some (.inr E, σ1) else none) := by
              intro n0
              simp only [pm_step, hk', h1, h2, h2a, h2b, h3, h4, hc]
              rw [pm_if_t hp]
              rfl
            rcases pm_kk_push h6 with ⟨r, S'', rfl, hpu, h7⟩ | ⟨E, rfl, h7⟩
            · obtain ⟨n2, o, σ', h8, h9⟩ := hN h7
              refine pm_R_intro (o := o) (σ' := σ') (n1 + n2) ?_ h9
              rw [key, pm_exec_le h5 (Nat.le_add_right _ _)]
              dsimp only
              rw [hpu]
              exact pm_exec_le h8 (Nat.le_add_left _ _)
            · cases c2 with
              | true => exact h7.elim
              | false =>
                simp only [pm_kX] at h7
                cases hlk : hs.lookup E with
                | none =>
                  rw [hlk] at h7
                  cases hs with
                  | cons a b => exact h7.elim
                  | nil =>
                    refine pm_R_intro (o := .inr E) (σ' := σ1) n1 ?_ h7
                    rw [key, h5]
                    simp
                | some hh =>
                  rw [hlk] at h7
                  obtain ⟨n2, o, σ', h8, h9⟩ := h7
                  refine pm_R_intro (o := o) (σ' := σ') (n1 + n2) ?_ h9
                  rw [key, pm_exec_le h5 (Nat.le_add_right _ _)]
                  simp only [Bool.false_eq_true, if_false, hlk]
                  exact pm_exec_le h8 (Nat.le_add_left _ _)
          · exact h.elim
        · exact h.elim
