/-! ===== sums ===== -/
def sumN (f : Nat → Nat) : Nat → Nat
  | 0 => 0
  | n + 1 => sumN f n + f n
theorem sumN_s (f : Nat → Nat) (n : Nat) : sumN f (n + 1) = sumN f n + f n := rfl
theorem sumN_ext {f g : Nat → Nat} {n : Nat} (h : ∀ i, i < n → f i = g i) : sumN f n = sumN g n := by
  induction n with
  | zero => rfl
  | succ n ih => rw [sumN_s, sumN_s, ih (fun i hi => h i (by omega)), h n (by omega)]
theorem sumN_le {f g : Nat → Nat} {n : Nat} (h : ∀ i, i < n → f i ≤ g i) : sumN f n ≤ sumN g n := by
  induction n with
  | zero => exact Nat.le_refl _
  | succ n ih => exact Nat.add_le_add (ih (fun i hi => h i (by omega))) (h n (by omega))
theorem sumN_add (f g : Nat → Nat) (n : Nat) : sumN (fun i => f i + g i) n = sumN f n + sumN g n := by
  induction n with
  | zero => rfl
  | succ n ih => rw [sumN_s, sumN_s, sumN_s, ih]; omega
theorem sumN_mul (c : Nat) (f : Nat → Nat) (n : Nat) : sumN (fun i => c * f i) n = c * sumN f n := by
  induction n with
  | zero => rfl
  | succ n ih => rw [sumN_s, sumN_s, ih, Nat.mul_add]
theorem sumN_0 (n : Nat) : sumN (fun _ => 0) n = 0 := by
  induction n with
  | zero => rfl
  | succ n ih => rw [sumN_s, ih]
theorem sumN_swap (f : Nat → Nat → Nat) (n m : Nat) : sumN (fun i => sumN (fun j => f i j) m) n = sumN (fun j => sumN (fun i => f i j) n) m := by
  induction n with
  | zero => exact (sumN_0 m).symm
  | succ n ih =>
    rw [sumN_s, ih, ← sumN_add]
    rfl
theorem sumN_at (a v n : Nat) : sumN (fun i => if i = a then v else 0) n = if a < n then v else 0 := by
  induction n with
  | zero => rw [if_neg (by omega)]; rfl
  | succ n ih =>
    rw [sumN_s, ih]
    by_cases h : n = a
    · rw [if_neg (by omega), if_pos h, if_pos (by omega)]; omega
    · rw [if_neg h]
      by_cases h2 : a < n
      · rw [if_pos h2, if_pos (by omega)]; rfl
      · rw [if_neg h2, if_neg (by omega)]
theorem sumN_mono {f : Nat → Nat} {a b : Nat} (h : a ≤ b) : sumN f a ≤ sumN f b := by
  induction b with
  | zero => have : a = 0 := by omega
            rw [this]; exact Nat.le_refl _
  | succ b ih =>
    by_cases e : a = b + 1
    · rw [e]; exact Nat.le_refl _
    · rw [sumN_s]; have := ih (by omega); omega
theorem sumN_ge {f : Nat → Nat} {n i : Nat} (h : i < n) : f i ≤ sumN f n := by
  have := sumN_mono (f := f) (show i + 1 ≤ n by omega)
  rw [sumN_s] at this; omega
theorem cnt_sum (p : Nat → Bool) (n : Nat) : cnt p n = sumN (fun i => if p i then 1 else 0) n := by
  induction n with
  | zero => rfl
  | succ n ih => rw [cnt_s, sumN_s, ih]
def sumL (f : Nat → Nat) : List Nat → Nat
  | [] => 0
  | a :: l => f a + sumL f l
theorem sumL_app (f : Nat → Nat) (l l' : List Nat) : sumL f (l ++ l') = sumL f l + sumL f l' := by
  induction l with
  | nil => show _ = 0 + _; rw [Nat.zero_add]; rfl
  | cons a l ih => show f a + sumL f (l ++ l') = (f a + sumL f l) + _; rw [ih]; omega
theorem sumL_ext {f g : Nat → Nat} {l : List Nat} (h : ∀ x, x ∈ l → f x = g x) : sumL f l = sumL g l := by
  induction l with
  | nil => rfl
  | cons a l ih =>
    show f a + sumL f l = g a + sumL g l
    rw [h a (List.mem_cons_self ..), ih (fun x hx => h x (List.mem_cons_of_mem _ hx))]
theorem sumL_s {f : Nat → Nat} {l : List Nat} {i x : Nat} (h : l[i]? = some x) : sumL f (l.take (i + 1)) = sumL f (l.take i) + f x := by
  rw [List.take_add_one, h, sumL_app]; rfl
theorem sumL_take (f : Nat → Nat) (l : List Nat) (i : Nat) : sumL f (l.take i) ≤ sumL f l := by
  have : sumL f l = sumL f (l.take i) + sumL f (l.drop i) := by rw [← sumL_app, List.take_append_drop]
  omega
/-- a list without repetition, and its members' sum -/
theorem sumL_N {f : Nat → Nat} {N : Nat} : ∀ {l : List Nat}, l.Nodup → (∀ x, x ∈ l → x < N) → sumL f l = sumN (fun i => if i ∈ l then f i else 0) N := by
  intro l
  induction l with
  | nil => intro _ _; rw [sumN_ext (g := fun _ => 0) (fun i _ => by simp), sumN_0]; rfl
  | cons a l ih =>
    intro h hb
    have ha : a ∉ l := (List.nodup_cons.mp h).1
    have h2 := ih (List.nodup_cons.mp h).2 (fun x hx => hb x (List.mem_cons_of_mem _ hx))
    rw [sumN_ext (g := fun i => (if i = a then f a else 0) + (if i ∈ l then f i else 0)) (fun i _ => ?_), sumN_add, sumN_at, if_pos (hb a (List.mem_cons_self ..)), ← h2]
    · rfl
    · by_cases e : i = a
      · subst e; rw [if_pos (List.mem_cons_self ..), if_pos rfl, if_neg ha]; rfl
      · rw [if_neg e, Nat.zero_add]
        by_cases c : i ∈ l
        · rw [if_pos c, if_pos (List.mem_cons_of_mem _ c)]
        · rw [if_neg c, if_neg (fun q => (List.mem_cons.mp q).elim e c)]
theorem sumL_1 (l : List Nat) : sumL (fun _ => 1) l = l.length := by
  induction l with
  | nil => rfl
  | cons a l ih => show 1 + sumL _ l = _; rw [ih, List.length_cons]; omega
theorem sumN_1 (n : Nat) : sumN (fun _ => 1) n = n := by
  induction n with
  | zero => rfl
  | succ n ih => rw [sumN_s, ih]
theorem nodup_len {l : List Nat} {N : Nat} (h : l.Nodup) (hb : ∀ x, x ∈ l → x < N) : l.length ≤ N := by
  rw [← sumL_1, sumL_N h hb]
  refine Nat.le_trans (sumN_le (g := fun _ => 1) (fun i _ => ?_)) (Nat.le_of_eq (sumN_1 N))
  by_cases c : i ∈ l
  · rw [if_pos c]; exact Nat.le_refl _
  · rw [if_neg c]; omega
theorem nodup_app {l : List Nat} {x : Nat} (h : l.Nodup) (hx : x ∉ l) : (l ++ [x]).Nodup := by
  rw [List.nodup_append]
  refine ⟨h, by simp, fun a ha b hb => ?_⟩
  rw [List.mem_singleton] at hb
  rw [hb]; intro q; exact hx (q ▸ ha)
theorem getA {α : Type} {l : List α} {x y : α} {k : Nat} (h : (l ++ [x])[k]? = some y) : l[k]? = some y ∨ (k = l.length ∧ y = x) := by
  by_cases c : k < l.length
  · rw [List.getElem?_append_left c] at h; exact Or.inl h
  · rw [List.getElem?_append_right (by omega)] at h
    by_cases e : k = l.length
    · subst e; simp at h; exact Or.inr ⟨rfl, h.symm⟩
    · rw [List.getElem?_eq_none (by simp; omega)] at h; cases h
/-- members of a list without repetition are at one place -/
theorem nodup_at {l : List Nat} {i x : Nat} (h : l.Nodup) (hi : l[i]? = some x) : x ∉ l.take i := by
  intro q
  obtain ⟨j, hj⟩ := List.mem_iff_getElem?.mp q
  rw [List.getElem?_take] at hj
  by_cases c : j < i
  · rw [if_pos c] at hj
    have hji := (List.getElem?_eq_some_iff.mp hj).1
    have hii := (List.getElem?_eq_some_iff.mp hi).1
    have e1 := (List.getElem?_eq_some_iff.mp hj).2
    have e2 := (List.getElem?_eq_some_iff.mp hi).2
    have := (List.pairwise_iff_getElem.mp h) j i hji hii c
    rw [e1, e2] at this
    exact this rfl
  · rw [if_neg c] at hj; cases hj
theorem mem_take_s {l : List Nat} {i x y : Nat} (h : l[i]? = some x) : y ∈ l.take (i + 1) ↔ y ∈ l.take i ∨ y = x := by
  rw [List.take_add_one, h]; simp
/-! ===== how many words lead to a set of states ===== -/
def cw (rs : List Rl) : Nat → Nat → Nat
  | 0, S => if S = 1 then 1 else 0
  | n + 1, S' => sumN (fun S => if S = 0 then 0 else cw rs n S * cnt (fun s => decide (aft rs S s = S')) 100) 4096
def dcnt (T : Tr) (n : Nat) : Nat := sumN (fun S => if S &&& T.1 ≠ 0 then cw T.2 n S else 0) 4096
theorem cnt_parts (g : Nat → Nat) (N m : Nat) : sumN (fun S => cnt (fun s => decide (g s = S)) m) N ≤ m := by
  rw [sumN_ext (g := fun S => sumN (fun s => if decide (g s = S) = true then 1 else 0) m) (fun S _ => cnt_sum _ _), sumN_swap]
  refine Nat.le_trans (sumN_le (g := fun _ => 1) (fun s _ => ?_)) (Nat.le_of_eq (sumN_1 m))
  rw [sumN_ext (g := fun S => if S = g s then 1 else 0) (fun S _ => by
    by_cases e : g s = S
    · rw [decide_eq_true e, if_pos rfl, if_pos e.symm]
    · rw [decide_eq_false e, if_neg (by decide), if_neg (fun q => e q.symm)]), sumN_at]
  by_cases c : g s < N
  · rw [if_pos c]; exact Nat.le_refl _
  · rw [if_neg c]; omega
theorem cw_tot (rs : List Rl) : ∀ n, sumN (cw rs n) 4096 ≤ 100 ^ n := by
  intro n
  induction n with
  | zero =>
    have : sumN (cw rs 0) 4096 = if 1 < 4096 then 1 else 0 := sumN_at 1 1 4096
    rw [this]; decide
  | succ n ih =>
    show sumN (fun S' => sumN (fun S => if S = 0 then 0 else cw rs n S * cnt (fun s => decide (aft rs S s = S')) 100) 4096) 4096 ≤ _
    rw [sumN_swap]
    refine Nat.le_trans (sumN_le (g := fun S => 100 * cw rs n S) (fun S _ => ?_)) ?_
    · by_cases e : S = 0
      · rw [sumN_ext (g := fun _ => 0) (fun _ _ => if_pos e), sumN_0]; exact Nat.zero_le _
      · rw [sumN_ext (g := fun S' => cw rs n S * cnt (fun s => decide (aft rs S s = S')) 100) (fun _ _ => if_neg e), sumN_mul, Nat.mul_comm 100]
        exact Nat.mul_le_mul_left _ (cnt_parts (fun s => aft rs S s) 4096 100)
    · rw [sumN_mul, Nat.pow_succ, Nat.mul_comm (100 ^ n)]
      exact Nat.mul_le_mul_left _ ih
theorem cw_le {rs : List Rl} {n S : Nat} (hS : S < 4096) (hn : n ≤ 8) : cw rs n S ≤ 10000000000000000 := by
  refine Nat.le_trans (sumN_ge (f := cw rs n) hS) (Nat.le_trans (cw_tot rs n) ?_)
  exact Nat.le_trans (Nat.pow_le_pow_right (by decide) hn) (by decide)
theorem L_add (a b : Nat) : Int64.ofNat a + Int64.ofNat b = Int64.ofNat (a + b) := (Int64.ofNat_add a b).symm
theorem L_mul (a b : Nat) : Int64.ofNat a * Int64.ofNat b = Int64.ofNat (a * b) := (Int64.ofNat_mul a b).symm
theorem L_toInt {a : Nat} (h : a < 9223372036854775808) : (Int64.ofNat a).toInt = (a : Int) := Int64.toInt_ofNat_of_lt (by omega)
theorem L_z {a : Nat} (h : a < 9223372036854775808) : Int64.ofNat a = 0 ↔ a = 0 := by
  rw [← Int64.toInt_inj, L_toInt h]
  show (a : Int) = 0 ↔ _
  omega
theorem L_pos {a : Nat} (h : a < 9223372036854775808) : lg_cmp (Int64.ofNat a) 0 ≤ 0 ↔ a = 0 := by
  by_cases e : a = 0
  · subst e; decide
  · have h2 : Int64.ofNat a > 0 := by
      show 0 < Int64.ofNat a
      rw [Int64.lt_iff_toInt_lt, L_toInt h]
      show (0 : Int) < (a : Int)
      omega
    unfold lg_cmp
    rw [if_pos h2]
    exact ⟨fun q => absurd q (by decide), fun q => absurd q e⟩
theorem L_i32 : ∀ n : Nat, n < 101 → (Int32.ofInt (n : Int)).toInt64 = Int64.ofNat n := by decide +kernel
