/-! ===== agreement of two transducers: what it means ===== -/
def clS (A B : Tr) (H : Nat → Bool) : Prop := (∀ p, p < 144 → finP A B p = true → H p = true) ∧ ∀ r t, r ∈ A.2 → t ∈ B.2 → both r t = true → H (12 * rT r + rT t) = true → H (12 * rF r + rF t) = true
/-- pairs from which both can end: the least set -/
def Hop (A B : Tr) (p : Nat) : Prop := ∀ H : Nat → Bool, clS A B H → H p = true
def isHop (A B : Tr) (H : Nat → Bool) : Prop := ∀ p, p < 144 → (H p = true ↔ Hop A B p)
def rnd (A B : Tr) (H : Nat → Bool) : (Nat → Bool) × Bool := A.2.foldl (hopR B) (H, false)
theorem fold_nof {α β : Type} {f : β → α → β} (fl : β → Bool) (hf : ∀ s x, fl (f s x) = false → f s x = s) : ∀ (l : List α) (s : β), fl (l.foldl f s) = false → l.foldl f s = s ∧ ∀ x, x ∈ l → f s x = s := by
  intro l
  induction l with
  | nil => intro s _; exact ⟨rfl, fun x hx => by cases hx⟩
  | cons y l ih =>
    intro s h
    rw [List.foldl_cons] at h ⊢
    obtain ⟨h1, h2⟩ := ih (f s y) h
    have h3 : f s y = s := hf s y (by rw [h1] at h; exact h)
    rw [h3] at h1 h2
    rw [h3]
    refine ⟨h1, fun x hx => ?_⟩
    rcases List.mem_cons.mp hx with e | e
    · rw [e]; exact h3
    · exact h2 x e
theorem fold_inv {α β : Type} {f : β → α → β} (P : β → Prop) : ∀ (l : List α), (∀ s x, x ∈ l → P s → P (f s x)) → ∀ s, P s → P (l.foldl f s) := by
  intro l
  induction l with
  | nil => intro _ s h; exact h
  | cons y l ih =>
    intro hf s h
    rw [List.foldl_cons]
    exact ih (fun s x hx => hf s x (List.mem_cons_of_mem _ hx)) _ (hf s y (List.mem_cons_self ..) h)
theorem hopS_no {r : Rl} {s : (Nat → Bool) × Bool} {t : Rl} (h : (hopS r s t).2 = false) : hopS r s t = s ∧ ¬ (s.1 (12 * rF r + rF t) = false ∧ s.1 (12 * rT r + rT t) = true ∧ both r t = true) := by
  unfold hopS at h ⊢
  by_cases c : s.1 (12 * rF r + rF t) = false ∧ s.1 (12 * rT r + rT t) = true ∧ both r t = true
  · rw [if_pos c] at h; cases h
  · rw [if_neg c]; exact ⟨rfl, c⟩
theorem hopR_no {B : Tr} {s : (Nat → Bool) × Bool} {r : Rl} (h : (hopR B s r).2 = false) : hopR B s r = s ∧ ∀ t, t ∈ B.2 → ¬ (s.1 (12 * rF r + rF t) = false ∧ s.1 (12 * rT r + rT t) = true ∧ both r t = true) := by
  have h' : s.2 = false ∧ (B.2.foldl (hopS r) (s.1, false)).2 = false := by
    have := h
    unfold hopR at this
    exact Bool.or_eq_false_iff.mp this
  obtain ⟨g1, g2⟩ := fold_nof (fun s => s.2) (fun s x hx => (hopS_no hx).1) B.2 (s.1, false) h'.2
  refine ⟨?_, fun t ht => ?_⟩
  · unfold hopR
    rw [g1, h'.1]
    exact Prod.ext rfl h'.1.symm
  · have e := g2 t ht
    have := (hopS_no (r := r) (s := (s.1, false)) (t := t) (by rw [e])).2
    exact this
/-- what a round keeps -/
def rI (A B : Tr) (H : Nat → Bool) (s : (Nat → Bool) × Bool) : Prop := (∀ p, H p = true → s.1 p = true) ∧ ((∀ p, p < 144 → H p = true → Hop A B p) → ∀ p, p < 144 → s.1 p = true → Hop A B p) ∧ (s.2 = true → ∃ p, p < 144 ∧ H p = false ∧ s.1 p = true)
theorem hopS_I {A B : Tr} (kA : okTr A) (kB : okTr B) {H : Nat → Bool} {r t : Rl} (hr : r ∈ A.2) (ht : t ∈ B.2) {s : (Nat → Bool) × Bool} (h : rI A B H s) : rI A B H (hopS r s t) := by
  unfold hopS
  by_cases c : s.1 (12 * rF r + rF t) = false ∧ s.1 (12 * rT r + rT t) = true ∧ both r t = true
  · rw [if_pos c]
    have o1 := kA.2 r hr
    have o2 := kB.2 t ht
    have x1 := o1.1
    have x2 := o1.2.1
    have x3 := o2.1
    have x4 := o2.2.1
    refine ⟨fun p hp => ?_, fun g p hp h2 => ?_, fun _ => ⟨12 * rF r + rF t, by omega, ?_, ?_⟩⟩
    · show (if p = 12 * rF r + rF t then true else s.1 p) = true
      split
      · rfl
      · exact h.1 p hp
    · have h3 : (if p = 12 * rF r + rF t then true else s.1 p) = true := h2
      by_cases e : p = 12 * rF r + rF t
      · intro H' hc
        rw [e]
        exact hc.2 r t hr ht c.2.2 (h.2.1 g _ (by omega) c.2.1 H' hc)
      · rw [if_neg e] at h3
        exact h.2.1 g p hp h3
    · rw [Bool.eq_false_iff]
      intro q
      have := h.1 _ q
      rw [c.1] at this; cases this
    · show (if 12 * rF r + rF t = 12 * rF r + rF t then true else s.1 _) = true
      rw [if_pos rfl]
  · rw [if_neg c]; exact h
theorem hopR_I {A B : Tr} (kA : okTr A) (kB : okTr B) {H : Nat → Bool} {r : Rl} (hr : r ∈ A.2) {s : (Nat → Bool) × Bool} (h : rI A B H s) : rI A B H (hopR B s r) := by
  have g := fold_inv (fun s' : (Nat → Bool) × Bool => (∀ p, s.1 p = true → s'.1 p = true) ∧ rI A B H (s'.1, s'.2 || s.2)) B.2 (f := hopS r) (fun s' t ht q => ?_) (s.1, false) ⟨fun p q => q, by rw [Bool.false_or]; exact h⟩
  · have e : hopR B s r = ((B.2.foldl (hopS r) (s.1, false)).1, (B.2.foldl (hopS r) (s.1, false)).2 || s.2) := by unfold hopR; rw [Bool.or_comm]
    rw [e]; exact g.2
  · have g := hopS_I kA kB hr ht q.2
    unfold hopS at g ⊢
    by_cases c : s'.1 (12 * rF r + rF t) = false ∧ s'.1 (12 * rT r + rT t) = true ∧ both r t = true
    · rw [if_pos c] at g
      rw [if_pos c]
      refine ⟨fun p hp => ?_, ?_⟩
      · show (if p = 12 * rF r + rF t then true else s'.1 p) = true
        split
        · rfl
        · exact q.1 p hp
      · rw [Bool.true_or]; exact g
    · rw [if_neg c]; exact q
theorem rnd_I {A B : Tr} (kA : okTr A) (kB : okTr B) (H : Nat → Bool) : rI A B H (rnd A B H) := by
  unfold rnd
  exact fold_inv (rI A B H) A.2 (fun s r hr h => hopR_I kA kB hr h) (H, false) ⟨fun _ h => h, fun h => h, fun h => by cases h⟩
theorem rnd_no {A B : Tr} {H : Nat → Bool} (h : (rnd A B H).2 = false) : (rnd A B H).1 = H ∧ ∀ r t, r ∈ A.2 → t ∈ B.2 → both r t = true → H (12 * rT r + rT t) = true → H (12 * rF r + rF t) = true := by
  unfold rnd at h ⊢
  obtain ⟨h1, h2⟩ := fold_nof (fun s => s.2) (fun s x hx => (hopR_no hx).1) A.2 (H, false) h
  refine ⟨by rw [h1], fun r t hr ht hb hg => ?_⟩
  have e := h2 r hr
  have := (hopR_no (B := B) (s := (H, false)) (r := r) (by rw [e])).2 t ht
  cases c : H (12 * rF r + rF t) with
  | true => rfl
  | false => exact absurd ⟨c, hg, hb⟩ this
theorem cnt_ltp {p q : Nat → Bool} (hpq : ∀ j, p j = true → q j = true) : ∀ n, (∃ j, j < n ∧ p j = false ∧ q j = true) → cnt p n < cnt q n := by
  have le : ∀ n, cnt p n ≤ cnt q n := by
    intro n
    induction n with
    | zero => exact Nat.le_refl _
    | succ n ih =>
      show cnt p n + (if p n then 1 else 0) ≤ cnt q n + (if q n then 1 else 0)
      cases c : p n with
      | true => rw [hpq n c]; simp; exact ih
      | false => simp; omega
  intro n
  induction n with
  | zero => rintro ⟨j, h, _⟩; omega
  | succ n ih =>
    rintro ⟨j, h, h1, h2⟩
    show cnt p n + (if p n then 1 else 0) < cnt q n + (if q n then 1 else 0)
    by_cases c : j = n
    · rw [c] at h1 h2
      rw [h1, h2]
      have := le n
      simp; omega
    · have := ih ⟨j, by omega, h1, h2⟩
      cases c : p n with
      | true => rw [hpq n c]; simp; exact this
      | false => simp; omega
theorem cnt_all {p : Nat → Bool} : ∀ n, n ≤ cnt p n → ∀ j, j < n → p j = true := by
  intro n
  induction n with
  | zero => intro _ j h; omega
  | succ n ih =>
    intro h j hj
    have h' : n + 1 ≤ cnt p n + (if p n then 1 else 0) := h
    have := cnt_le p n
    cases c : p n with
    | false => rw [c] at h'; simp at h'; omega
    | true =>
      rw [c] at h'; simp at h'
      by_cases e : j = n
      · rw [e]; exact c
      · exact ih h' j (by omega)
theorem hopN_ok {A B : Tr} (kA : okTr A) (kB : okTr B) : ∀ (k : Nat) (H : Nat → Bool), 144 ≤ cnt H 144 + k → (∀ p, p < 144 → finP A B p = true → H p = true) → (∀ p, p < 144 → H p = true → Hop A B p) → isHop A B (hopN A B k H) := by
  have base : ∀ H : Nat → Bool, (∀ p, p < 144 → finP A B p = true → H p = true) → (∀ p, p < 144 → H p = true → Hop A B p) → (∀ r t, r ∈ A.2 → t ∈ B.2 → both r t = true → H (12 * rT r + rT t) = true → H (12 * rF r + rF t) = true) → isHop A B H :=
    fun H h1 h2 h3 p hp => ⟨h2 p hp, fun q => q H ⟨h1, h3⟩⟩
  intro k
  induction k with
  | zero =>
    intro H hc h1 h2
    have all := cnt_all (p := H) 144 (by omega)
    refine base H h1 h2 (fun r t hr ht _ _ => all _ ?_)
    have x1 := (kA.2 r hr).1
    have x3 := (kB.2 t ht).1
    omega
  | succ k ih =>
    intro H hc h1 h2
    have g := rnd_I kA kB H
    have e : hopN A B (k + 1) H = if (rnd A B H).2 then hopN A B k (rnd A B H).1 else (rnd A B H).1 := rfl
    rw [e]
    cases c : (rnd A B H).2 with
    | true =>
      rw [if_pos rfl]
      have lt := cnt_ltp g.1 144 (g.2.2 c)
      exact ih _ (by omega) (fun p hp q => g.1 p (h1 p hp q)) (g.2.1 h2)
    | false =>
      rw [if_neg (by decide)]
      have n := rnd_no c
      rw [n.1]
      exact base H h1 h2 n.2
/-- outputs side by side: what is left behind what both have -/
def mlen (x y : List Nat) : Nat := min x.length y.length
def mv (x y : List Nat) : Option (List Nat × List Nat) := if x.take (mlen x y) = y.take (mlen x y) then some (x.drop (mlen x y), y.drop (mlen x y)) else none
abbrev Ent : Type := Nat × List Nat × List Nat
abbrev LD : Type := Nat → Option (List Nat × List Nat)
def Cons (A B : Tr) (D : LD) : Prop := D 0 = some ([], []) ∧ ∀ p u v, p < 144 → D p = some (u, v) → (finP A B p = true → u = [] ∧ v = []) ∧ ∀ r t s, r ∈ A.2 → t ∈ B.2 → s < 100 → 12 * rF r + rF t = p → en r s = true → en t s = true → Hop A B (12 * rT r + rT t) → ∃ w, mv (u ++ outW r s) (v ++ outW t s) = some w ∧ D (12 * rT r + rT t) = some w
/-- no word has two different outputs -/
def Agr (A B : Tr) : Prop := Hop A B 0 → ∃ D, Cons A B D
noncomputable def agB (A B : Tr) : Bool := @decide (Agr A B) (Classical.propDecidable _)
theorem agB_t {A B : Tr} (h : Agr A B) : agB A B = true := by unfold agB; exact @decide_eq_true _ (Classical.propDecidable _) h
theorem agB_f {A B : Tr} (h : ¬ Agr A B) : agB A B = false := by unfold agB; exact @decide_eq_false _ (Classical.propDecidable _) h
theorem mv_len {x y : List Nat} : (x.drop (mlen x y)).length + (y.drop (mlen x y)).length = (x.length - y.length) + (y.length - x.length) := by
  rw [List.length_drop, List.length_drop]
  unfold mlen
  omega
theorem mv_one {x y : List Nat} : x.drop (mlen x y) = [] ∨ y.drop (mlen x y) = [] := by
  unfold mlen
  by_cases c : x.length ≤ y.length
  · left; rw [Nat.min_eq_left c]; exact List.drop_of_length_le (Nat.le_refl _)
  · right; rw [Nat.min_eq_right (by omega)]; exact List.drop_of_length_le (Nat.le_refl _)
theorem mv_some {x y : List Nat} {w : List Nat × List Nat} (h : mv x y = some w) : w = (x.drop (mlen x y), y.drop (mlen x y)) ∧ x.take (mlen x y) = y.take (mlen x y) := by
  unfold mv at h
  by_cases c : x.take (mlen x y) = y.take (mlen x y)
  · rw [if_pos c] at h
    exact ⟨(Option.some.inj h).symm, c⟩
  · rw [if_neg c] at h; cases h
/-- the entries that were found -/
def keys (S : List Ent) : List Nat := S.map (fun e => e.1)
def okS (A B : Tr) (S : List Ent) : Prop := (∀ i x u v, S[i]? = some (x, u, v) → x < 144 ∧ u.length + v.length ≤ 6 * i ∧ (u = [] ∨ v = []) ∧ (∀ c, c ∈ u → c < 100) ∧ ∀ c, c ∈ v → c < 100) ∧ (keys S).Nodup ∧ (0, [], []) ∈ S ∧ ∀ D, Cons A B D → ∀ x u v, (x, u, v) ∈ S → D x = some (u, v)
def stpS (A B : Tr) (S : List Ent) (u v : List Nat) (r t : Rl) (s : Nat) : Prop := en r s = true → en t s = true → Hop A B (12 * rT r + rT t) → ∃ w, mv (u ++ outW r s) (v ++ outW t s) = some w ∧ (12 * rT r + rT t, w) ∈ S
def finS (A B : Tr) (S : List Ent) : Prop := ∀ x u v, (x, u, v) ∈ S → finP A B x = true → u = [] ∧ v = []
theorem stpS.up {A B : Tr} {S S' : List Ent} {u v : List Nat} {r t : Rl} {s : Nat} (h : stpS A B S u v r t s) (hs : ∀ e, e ∈ S → e ∈ S') : stpS A B S' u v r t s := fun a b c => by
  obtain ⟨w, h1, h2⟩ := h a b c
  exact ⟨w, h1, hs _ h2⟩
theorem okS_len {A B : Tr} {S : List Ent} (h : okS A B S) : S.length ≤ 144 := by
  have := nodup_len h.2.1 (N := 144) (fun x hx => by
    obtain ⟨e, he, rfl⟩ := List.mem_map.mp hx
    obtain ⟨i, hi⟩ := List.mem_iff_getElem?.mp he
    exact (h.1 i e.1 e.2.1 e.2.2 hi).1)
  unfold keys at this
  rw [List.length_map] at this
  exact this
theorem okS_lt {A B : Tr} {S : List Ent} (h : okS A B S) {g : Nat} (hg : g < 144) (hn : g ∉ keys S) : S.length < 144 := by
  have := nodup_len (nodup_app h.2.1 hn) (N := 144) (fun x hx => by
    rcases List.mem_append.mp hx with c | c
    · obtain ⟨e, he, rfl⟩ := List.mem_map.mp c
      obtain ⟨i, hi⟩ := List.mem_iff_getElem?.mp he
      exact (h.1 i e.1 e.2.1 e.2.2 hi).1
    · rw [List.mem_singleton.mp c]; exact hg)
  rw [List.length_append] at this
  unfold keys at this
  rw [List.length_map] at this
  exact this
theorem key_in {S : List Ent} {g : Nat} (h : g ∈ keys S) : ∃ u v, (g, u, v) ∈ S := by
  obtain ⟨e, he, rfl⟩ := List.mem_map.mp h
  exact ⟨e.2.1, e.2.2, he⟩
theorem key_un {S : List Ent} (h : (keys S).Nodup) {g : Nat} {w w' : List Nat × List Nat} (h1 : (g, w) ∈ S) (h2 : (g, w') ∈ S) : w = w' := by
  obtain ⟨i, hi⟩ := List.mem_iff_getElem?.mp h1
  obtain ⟨j, hj⟩ := List.mem_iff_getElem?.mp h2
  have e1 : (keys S)[i]? = some g := by unfold keys; rw [List.getElem?_map, hi]; rfl
  have e2 : (keys S)[j]? = some g := by unfold keys; rw [List.getElem?_map, hj]; rfl
  have l1 := (List.getElem?_eq_some_iff.mp e1).1
  have : i = j := (List.getElem?_inj l1 h).mp (by rw [e1, e2])
  rw [this, hj] at hi
  have e := Option.some.inj hi
  exact (congrArg (fun z : Ent => z.2) e).symm
theorem outW_len (r : Rl) (s : Nat) : (outW r s).length = (rTs r).length := by unfold outW; rw [List.length_map]
theorem outW_lt {r : Rl} {s c : Nat} (h : en r s = true) (hc : c ∈ outW r s) : c < 100 := by
  unfold outW at hc
  obtain ⟨t, ht, rfl⟩ := List.mem_map.mp hc
  obtain ⟨k, hk⟩ := List.mem_iff_getElem?.mp ht
  have := en_val h hk
  omega
/-- an entry more -/
theorem okS_app {A B : Tr} {S : List Ent} (kA : okTr A) (kB : okTr B) (h : okS A B S) {i x s : Nat} {u v : List Nat} {r t : Rl} {w : List Nat × List Nat} (he : S[i]? = some (x, u, v)) (hr : r ∈ A.2) (ht : t ∈ B.2) (hs : s < 100) (hx : 12 * rF r + rF t = x) (e1 : en r s = true) (e2 : en t s = true) (hh : Hop A B (12 * rT r + rT t)) (hm : mv (u ++ outW r s) (v ++ outW t s) = some w) (hn : 12 * rT r + rT t ∉ keys S) : okS A B (S ++ [(12 * rT r + rT t, w)]) := by
  have o1 := kA.2 r hr
  have o2 := kB.2 t ht
  have x2 := o1.2.1
  have x4 := o2.2.1
  have l1 := o1.2.2.2.1
  have l2 := o2.2.2.2.1
  obtain ⟨b1, b2, b3, b4, b5⟩ := h.1 i x u v he
  have il := (List.getElem?_eq_some_iff.mp he).1
  obtain ⟨rfl, tk⟩ := mv_some hm
  have ml := mv_len (x := u ++ outW r s) (y := v ++ outW t s)
  have mo := mv_one (x := u ++ outW r s) (y := v ++ outW t s)
  refine ⟨fun j x' u' v' hj => ?_, ?_, List.mem_append_left _ h.2.2.1, fun D hD x' u' v' hx' => ?_⟩
  · rcases getA hj with c | ⟨c, c2⟩
    · exact h.1 j x' u' v' c
    · have q1 : x' = 12 * rT r + rT t := congrArg (fun z : Ent => z.1) c2
      have q2 : u' = (u ++ outW r s).drop (mlen (u ++ outW r s) (v ++ outW t s)) := congrArg (fun z : Ent => z.2.1) c2
      have q3 : v' = (v ++ outW t s).drop (mlen (u ++ outW r s) (v ++ outW t s)) := congrArg (fun z : Ent => z.2.2) c2
      rw [q1, q2, q3]
      refine ⟨by omega, ?_, mo, fun d hd => ?_, fun d hd => ?_⟩
      · rw [ml, List.length_append, List.length_append, outW_len, outW_len]
        have : u.length = 0 ∨ v.length = 0 := by
          rcases b3 with q | q
          · left; rw [q]; rfl
          · right; rw [q]; rfl
        omega
      · rcases List.mem_append.mp (List.mem_of_mem_drop hd) with q | q
        · exact b4 d q
        · exact outW_lt e1 q
      · rcases List.mem_append.mp (List.mem_of_mem_drop hd) with q | q
        · exact b5 d q
        · exact outW_lt e2 q
  · have : keys (S ++ [(12 * rT r + rT t, ((u ++ outW r s).drop (mlen (u ++ outW r s) (v ++ outW t s)), (v ++ outW t s).drop (mlen (u ++ outW r s) (v ++ outW t s))))]) = keys S ++ [12 * rT r + rT t] := by unfold keys; rw [List.map_append]; rfl
    rw [this]
    exact nodup_app h.2.1 hn
  · rcases List.mem_append.mp hx' with c | c
    · exact h.2.2.2 D hD x' u' v' c
    · have c := List.mem_singleton.mp c
      have q1 : x' = 12 * rT r + rT t := congrArg (fun z : Ent => z.1) c
      have q2 : (u', v') = ((u ++ outW r s).drop (mlen (u ++ outW r s) (v ++ outW t s)), (v ++ outW t s).drop (mlen (u ++ outW r s) (v ++ outW t s))) := congrArg (fun z : Ent => z.2) c
      obtain ⟨w', g1, g2⟩ := (hD.2 x u v b1 (h.2.2.2 D hD x u v (List.mem_of_getElem? he))).2 r t s hr ht hs hx e1 e2 hh
      rw [hm] at g1
      rw [q1, q2, g2, ← Option.some.inj g1]
/-- a step that doesn't fit -/
theorem noCons {A B : Tr} {S : List Ent} (kA : okTr A) (kB : okTr B) (h : okS A B S) {i x s : Nat} {u v : List Nat} {r t : Rl} (he : S[i]? = some (x, u, v)) (hr : r ∈ A.2) (ht : t ∈ B.2) (hs : s < 100) (hx : 12 * rF r + rF t = x) (e1 : en r s = true) (e2 : en t s = true) (hh : Hop A B (12 * rT r + rT t)) (hb : mv (u ++ outW r s) (v ++ outW t s) = none ∨ ∃ w, mv (u ++ outW r s) (v ++ outW t s) = some w ∧ ((finP A B (12 * rT r + rT t) = true ∧ w ≠ ([], [])) ∨ ∃ w', (12 * rT r + rT t, w') ∈ S ∧ w' ≠ w)) : ¬ ∃ D, Cons A B D := by
  rintro ⟨D, hD⟩
  have x2 := (kA.2 r hr).2.1
  have x4 := (kB.2 t ht).2.1
  have b1 := (h.1 i x u v he).1
  obtain ⟨w, g1, g2⟩ := (hD.2 x u v b1 (h.2.2.2 D hD x u v (List.mem_of_getElem? he))).2 r t s hr ht hs hx e1 e2 hh
  rcases hb with q | ⟨w1, q1, q2⟩
  · rw [q] at g1; cases g1
  · rw [q1] at g1
    have e := Option.some.inj g1
    rcases q2 with ⟨f, n⟩ | ⟨w', m1, m2⟩
    · have z := (hD.2 (12 * rT r + rT t) w.1 w.2 (by omega) g2).1 f
      exact n (by rw [e]; exact Prod.ext z.1 z.2)
    · have z := h.2.2.2 D hD (12 * rT r + rT t) w'.1 w'.2 m1
      rw [g2] at z
      exact m2 (by rw [e]; exact (Option.some.inj z).symm)
theorem noFin {A B : Tr} {S : List Ent} (h : okS A B S) {x : Nat} {u v : List Nat} (he : (x, u, v) ∈ S) (hf : finP A B x = true) (hn : ¬ (u = [] ∧ v = [])) : ¬ ∃ D, Cons A B D := by
  rintro ⟨D, hD⟩
  obtain ⟨i, hi⟩ := List.mem_iff_getElem?.mp he
  exact hn ((hD.2 x u v (h.1 i x u v hi).1 (h.2.2.2 D hD x u v he)).1 hf)
/-- all is followed: the entries are what was wanted -/
theorem allCons {A B : Tr} {S : List Ent} (h : okS A B S) (hf : finS A B S) (hc : ∀ x u v, (x, u, v) ∈ S → ∀ r t s, r ∈ A.2 → t ∈ B.2 → s < 100 → 12 * rF r + rF t = x → stpS A B S u v r t s) : ∃ D, Cons A B D := by
  refine ⟨fun g => (S.find? (fun e => e.1 == g)).map (fun e => e.2), ?_⟩
  have to : ∀ g w, (g, w) ∈ S → (S.find? (fun e => e.1 == g)).map (fun e => e.2) = some w := by
    intro g w hg
    cases c : S.find? (fun e => e.1 == g) with
    | none =>
      have := List.find?_eq_none.mp c (g, w) hg
      simp at this
    | some e =>
      have h1 := List.mem_of_find?_eq_some c
      have h2 := List.find?_some c
      have h3 : e.1 = g := by simpa using h2
      obtain ⟨e1, e2⟩ := e
      subst h3
      rw [key_un h.2.1 hg h1]
      rfl
  have fro : ∀ g w, (S.find? (fun e => e.1 == g)).map (fun e => e.2) = some w → (g, w) ∈ S := by
    intro g w hg
    cases c : S.find? (fun e => e.1 == g) with
    | none => rw [c] at hg; cases hg
    | some e =>
      rw [c] at hg
      have h1 := List.mem_of_find?_eq_some c
      have h2 := List.find?_some c
      have h3 : e.1 = g := by simpa using h2
      obtain ⟨e1, e2⟩ := e
      subst h3
      have h4 : e2 = w := Option.some.inj hg
      rw [← h4]; exact h1
  refine ⟨to 0 _ h.2.2.1, fun p u v hp hD => ?_⟩
  have m := fro p (u, v) hD
  refine ⟨hf p u v m, fun r t s hr ht hs hx e1 e2 hh => ?_⟩
  obtain ⟨w, g1, g2⟩ := hc p u v m r t s hr ht hs hx e1 e2 hh
  exact ⟨w, g1, to _ _ g2⟩
theorem okS_0 {A B : Tr} : okS A B [(0, [], [])] := by
  refine ⟨fun i x u v h => ?_, by unfold keys; simp, by simp, fun D hD x u v h => ?_⟩
  · cases i with
    | zero =>
      simp at h
      obtain ⟨rfl, rfl, rfl⟩ := h
      exact ⟨by omega, by simp, Or.inl rfl, fun c hc => by simp at hc, fun c hc => by simp at hc⟩
    | succ i => simp at h
  · simp at h
    obtain ⟨rfl, rfl, rfl⟩ := h
    exact hD.1
