/-! ===== neighbouring symbols that lead to the same states ===== -/
def resp (al : Nat → Bool) (k : Nat) (h : Nat → Nat) : Prop := ∀ j, 0 < j → j < k → al j = true → h (j - 1) = h j
def sumP (h : Nat → Nat) : List (Nat × Nat) → Nat
  | [] => 0
  | x :: l => x.2 * h x.1 + sumP h l
theorem sumP_app (h : Nat → Nat) (l l' : List (Nat × Nat)) : sumP h (l ++ l') = sumP h l + sumP h l' := by
  induction l with
  | nil => show _ = 0 + _; rw [Nat.zero_add]; rfl
  | cons a l ih => show _ + sumP h (l ++ l') = (_ + sumP h l) + _; rw [ih]; omega
theorem sumP_s {h : Nat → Nat} {l : List (Nat × Nat)} {i : Nat} {x : Nat × Nat} (hx : l[i]? = some x) : sumP h (l.take (i + 1)) = sumP h (l.take i) + x.2 * h x.1 := by
  rw [List.take_add_one, hx, sumP_app]; rfl
theorem sumP_take (h : Nat → Nat) (l : List (Nat × Nat)) (i : Nat) : sumP h (l.take i) ≤ sumP h l := by
  have : sumP h l = sumP h (l.take i) + sumP h (l.drop i) := by rw [← sumP_app, List.take_append_drop]
  omega
def grpOk (al : Nat → Bool) (k : Nat) (G : List (Nat × Nat)) : Prop :=
  G.length ≤ k ∧ (∀ x, x ∈ G → x.1 < k ∧ 1 ≤ x.2 ∧ x.2 ≤ k) ∧ (∀ s, s < k → ∃ x, x ∈ G ∧ ∀ h, resp al k h → h x.1 = h s) ∧ (∀ h, resp al k h → sumN h k = sumP h G) ∧ (0 < k → ∃ G0 a n, G = G0 ++ [(a, n)] ∧ ∀ h, resp al k h → h a = h (k - 1))
theorem resp_d {al : Nat → Bool} {k : Nat} {h : Nat → Nat} (r : resp al (k + 1) h) : resp al k h := fun j h1 h2 h3 => r j h1 (by omega) h3
theorem grp_0 (al : Nat → Bool) : grpOk al 0 [] := ⟨Nat.le_refl _, fun x hx => (by cases hx), fun s hs => absurd hs (by omega), fun h _ => rfl, fun h => absurd h (by omega)⟩
theorem grp_new {al : Nat → Bool} {k : Nat} {G : List (Nat × Nat)} (g : grpOk al k G) : grpOk al (k + 1) (G ++ [(k, 1)]) := by
  refine ⟨by rw [List.length_append]; exact Nat.add_le_add g.1 (Nat.le_refl _), fun x hx => ?_, fun s hs => ?_, fun h r => ?_, fun _ => ⟨G, k, 1, rfl, fun h _ => rfl⟩⟩
  · rcases List.mem_append.mp hx with q | q
    · have := g.2.1 x q; omega
    · rw [List.mem_singleton.mp q]
      exact ⟨Nat.lt_succ_self _, Nat.le_refl _, Nat.succ_le_succ (Nat.zero_le _)⟩
  · by_cases e : s = k
    · exact ⟨(k, 1), by simp, fun h _ => by rw [e]⟩
    · obtain ⟨x, hx, q⟩ := g.2.2.1 s (by omega)
      exact ⟨x, List.mem_append_left _ hx, fun h r => q h (resp_d r)⟩
  · rw [sumN_s, g.2.2.2.1 h (resp_d r), sumP_app]
    show _ = _ + (1 * h k + 0)
    omega
theorem grp_bump {al : Nat → Bool} {k a n : Nat} {G0 : List (Nat × Nat)} (g : grpOk al k (G0 ++ [(a, n)])) (hk : 0 < k) (hal : al k = true) : grpOk al (k + 1) (G0 ++ [(a, n + 1)]) := by
  have last : ∀ h, resp al k h → h a = h (k - 1) := by
    obtain ⟨G1, a1, n1, e, q⟩ := g.2.2.2.2 hk
    have := List.append_inj_right' e rfl
    simp only [List.cons.injEq, Prod.mk.injEq, and_true] at this
    rw [this.1]; exact q
  have lastk : ∀ h, resp al (k + 1) h → h a = h k := fun h r => by rw [last h (resp_d r)]; exact r k hk (by omega) hal
  refine ⟨by have := g.1; rw [List.length_append] at this ⊢; exact Nat.le_succ_of_le this, fun x hx => ?_, fun s hs => ?_, fun h r => ?_, fun _ => ⟨G0, a, n + 1, rfl, fun h r => by rw [lastk h r]; rfl⟩⟩
  · rcases List.mem_append.mp hx with q | q
    · have := g.2.1 x (List.mem_append_left _ q); omega
    · rw [List.mem_singleton.mp q]
      have := g.2.1 (a, n) (by simp)
      exact ⟨by have h := this.1; exact Nat.lt_succ_of_lt h, Nat.succ_le_succ (Nat.zero_le _), Nat.succ_le_succ this.2.2⟩
  · by_cases e : s = k
    · exact ⟨(a, n + 1), by simp, fun h r => by rw [e]; exact lastk h r⟩
    · obtain ⟨x, hx, q⟩ := g.2.2.1 s (by omega)
      rcases List.mem_append.mp hx with c | c
      · exact ⟨x, List.mem_append_left _ c, fun h r => q h (resp_d r)⟩
      · rw [List.mem_singleton.mp c] at q
        exact ⟨(a, n + 1), by simp, fun h r => q h (resp_d r)⟩
  · rw [sumN_s, g.2.2.2.1 h (resp_d r), sumP_app, sumP_app, ← lastk h r]
    show _ + (n * h a + 0) + h a = _ + ((n + 1) * h a + 0)
    rw [Nat.add_mul]; omega
theorem aftN_al {rs : List Rl} {S s t : Nat} (h : alike rs s t = true) : ∀ n, n ≤ 12 → aftN rs S s n = aftN rs S t n := by
  intro n
  induction n with
  | zero => intro _; rfl
  | succ n ih =>
    intro hn
    show aftN rs S s n ||| _ = aftN rs S t n ||| _
    rw [ih (by omega), alike_iff.mp h n (by omega)]
theorem aft_al {rs : List Rl} {S s t : Nat} (h : alike rs s t = true) : aft rs S s = aft rs S t := aftN_al h 12 (Nat.le_refl _)
/-- the groups in the object -/
def isG (σ : pm_H) (e : Nat) (G : List (Nat × Nat)) : Prop := iv (pm_F σ 104 e) = Int32.ofInt (G.length : Int) ∧ ∀ (i : Nat) (x : Nat × Nat), G[i]? = some x → iv (pm_A σ (e + 5) i) = Int32.ofInt (x.1 : Int) ∧ iv (pm_A σ (e + 6) i) = Int32.ofInt (x.2 : Int)
def pG (e b : Nat) : Prop := b = e ∨ b = e + 5 ∨ b = e + 6
def alk (T1 T2 : Tr) (j : Nat) : Bool := alike T1.2 (j - 1) j && alike T2.2 (j - 1) j
theorem doS_sA {σ : pm_H} {e a j : Nat} {v : Value} (h : doS σ e) : doS (pm_sA σ a j v) e := h
theorem doS_sF {σ : pm_H} {e f : Nat} {v : Value} (h : doS σ e) (hf : f = 104 ∨ f = 109 ∨ f = 110) : doS (pm_sF σ f e v) e := by
  rcases hf with rfl | rfl | rfl <;>
  · unfold doS stS at h ⊢
    simp only [F_sF, t_sF, l_sF, Nat.reduceEqDiff, false_and, if_false]
    exact h
theorem i100_le {k : Nat} (hk : k < 100000) : (100 : Int32) ≤ Int32.ofInt (k : Int) ↔ 100 ≤ k := i32_100 hk
theorem oi_prev {k : Nat} (h : 0 < k) : Int32.ofInt (k : Int) - 1 = Int32.ofInt ((k - 1 : Nat) : Int) := by
  rw [show Int32.ofInt (k : Int) - 1 = Int32.ofInt ((k : Int) - 1) from oi_subl _ 1]
  congr 1; omega
theorem n_le0 {k : Nat} (h : k < 100000) : Int32.ofInt (k : Int) ≤ 0 ↔ k = 0 := by
  have := oi_lel (a := (k : Int)) (n := 0) ⟨by omega, by decide⟩
  rw [show (OfNat.ofNat 0 : Int32) = 0 from rfl] at this
  rw [this]
  show (k : Int) ≤ 0 ↔ _
  omega
theorem s_Do_findGroups {σ : pm_H} {e o1 o2 : Nat} {T1 T2 : Tr} (hd : doS σ e) (h1 : isSt σ o1 T1) (h2 : isSt σ o2 T2) (k1 : okTr T1) (k2 : okTr T2) (ho1 : o1 = e + 1 ∨ o1 = e + 3) (ho2 : o2 = e + 1 ∨ o2 = e + 3) : cV 1 9 [.ref e, .ref o1, .ref o2] σ (fun σ' => (∃ G, grpOk (alk T1 T2) 100 G ∧ isG σ' e G) ∧ doS σ' e ∧ fr (pG e) σ σ') := by
  refine w_Do_findGroups_0 ⟨hd.1, fun σ1 e1 => ?_⟩
  refine lp_up (fun k (_ : List (Nat × Nat)) => [.ref e, .ref o1, .ref o2, .int (Int32.ofInt (k : Nat))]) (fun k G τ => grpOk (alk T1 T2) k G ∧ isG τ e G ∧ doS τ e ∧ fr (pG e) σ τ) 100 (fun k hk G τ hh next => ?_) (fun G τ hh => ?_) 0 (Nat.zero_le _) [] σ1 ⟨grp_0 _, ⟨by rw [e1, F_sF, if_pos ⟨rfl, rfl⟩]; rfl, fun i x hx => by simp at hx⟩, by rw [e1]; exact doS_sF hd (Or.inl rfl), by rw [e1]; exact fr_sF (Or.inl rfl)⟩
  · obtain ⟨g, hg, hdt, f⟩ := hh
    have gl := g.1
    have s1 := isSt_fr h1 f (fun b hb => by unfold pSt at hb; unfold pG; omega)
    have s2 := isSt_fr h2 f (fun b hb => by unfold pSt at hb; unfold pG; omega)
    have vx := vi (show G.length < 100 by omega) (by omega)
    have wx := vc (show G.length < 2000000 by omega)
    have R37 : pm_R 1 9 37 [.ref e, .ref o1, .ref o2, .int (Int32.ofInt (k : Nat))] [] τ (fun o σ' => o = .inl none ∧ (∃ G, grpOk (alk T1 T2) 100 G ∧ isG σ' e G) ∧ doS σ' e ∧ fr (pG e) σ σ') := by
      refine w_Do_findGroups_37 ?_
      simp only [hdt.1, hdt.2.1.2.2.1, hdt.2.1.2.2.2.1, hdt.2.2.1.1, hdt.2.2.1.2.1, hdt.2.2.1.2.2.1, hdt.2.2.1.2.2.2.1, hg.1, t_sA, l_sA, F_sA, vx, wx, isr_ref, rv_ref, true_and, forall_eq, oi_s]
      refine next (G ++ [(k, 1)]) _ ⟨grp_new g, ⟨?_, fun i x hx => ?_⟩, doS_sF (doS_sA (doS_sA hdt)) (Or.inl rfl), ((f.tr (fr_sA (Or.inr (Or.inl rfl)))).tr (fr_sA (Or.inr (Or.inr rfl)))).tr (fr_sF (Or.inl rfl))⟩
      · rw [F_sF, if_pos ⟨rfl, rfl⟩, List.length_append]; rfl
      · rw [A_sF, A_sF, A_sA, A_sA, A_sA, A_sA]
        rcases getA hx with q | ⟨q, rfl⟩
        · have := (List.getElem?_eq_some_iff.mp q).1
          rw [if_neg (by omega), if_neg (by omega), if_neg (by omega), if_neg (by omega)]
          exact hg.2 i x q
        · subst q
          rw [if_neg (by omega), if_pos ⟨rfl, rfl⟩, if_pos ⟨rfl, rfl⟩]
          exact ⟨rfl, rfl⟩
    refine w_Do_findGroups_5 ⟨fun q => ?_, fun _ => ⟨hdt.1, fun z ez => ?_⟩⟩
    · rw [i100_le (by omega)] at q; omega
    rw [hg.1] at ez
    subst ez
    refine ⟨fun _ => R37, fun q => ?_⟩
    rw [n_le0 (by omega)] at q
    have k0 : 0 < k := by
      rcases Nat.eq_zero_or_pos k with c | c
      · subst c; omega
      · exact c
    rw [oi_prev k0]
    refine ⟨s1.1.1, gI (s_St_isAlike s1 k1 (by omega) hk) (by omega) (fun _ => R37) (fun a1 => ⟨s2.1.1, gI (s_St_isAlike s2 k2 (by omega) hk) (by omega) (fun _ => R37) (fun a2 => ?_)⟩)⟩
    obtain ⟨G0, a, n, rfl, -⟩ := g.2.2.2.2 k0
    have gl' : G0.length + 1 ≤ k := by rw [List.length_append] at gl; exact gl
    have vy := vi (show G0.length < 100 by omega) (by omega)
    have wy := vc (show G0.length < 2000000 by omega)
    have hl : Int32.ofInt (((G0 ++ [(a, n)]).length : Nat) : Int) - 1 = Int32.ofInt (G0.length : Int) := by
      rw [oi_prev (by rw [List.length_append]; exact Nat.succ_pos _), List.length_append]; rfl
    have hn := (hg.2 G0.length (a, n) (by simp)).2
    simp only [hdt.1, hdt.2.1.2.2.2.1, hdt.2.2.1.2.2.1, hdt.2.2.1.2.2.2.1, hg.1, hl, hn, vy, wy, isr_ref, rv_ref, true_and, forall_eq, oi_s]
    refine next (G0 ++ [(a, n + 1)]) _ ⟨grp_bump g k0 (by unfold alk; rw [a1, a2]; rfl), ⟨?_, fun i x hx => ?_⟩, doS_sA hdt, f.tr (fr_sA (Or.inr (Or.inr rfl)))⟩
    · rw [F_sA, hg.1, List.length_append, List.length_append]; rfl
    · rw [A_sA, A_sA]
      rcases getA hx with q | ⟨q, rfl⟩
      · have := (List.getElem?_eq_some_iff.mp q).1
        rw [if_neg (by omega), if_neg (by omega)]
        exact hg.2 i x (by rw [List.getElem?_append_left this]; exact q)
      · subst q
        rw [if_neg (by omega), if_pos ⟨rfl, rfl⟩]
        exact ⟨(hg.2 G0.length (a, n) (by simp)).1, rfl⟩
  · exact w_Do_findGroups_5 ⟨fun _ => ⟨rfl, ⟨G, hh.1, hh.2.1⟩, hh.2.2.1, hh.2.2.2⟩, fun q => absurd (Int32.le_refl _) q⟩
