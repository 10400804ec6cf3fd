/-! ===== what a method writes at most ===== -/
def fx_0 : List (List Nat × List Nat × Bool) := [([0, 2, 3, 4, 5], [128], true), ([1, 6, 600, 601, 604, 605, 606, 800, 801, 901, 902], [100], false), ([1, 6, 600, 601, 604, 605, 606, 800, 801, 901], [100], false), ([800, 801], [], false), ([800, 801], [], false), ([1, 6, 600, 601, 604, 605, 606, 800, 801, 901], [100], false), ([1, 6, 600, 601, 604, 605, 606, 800, 801, 901], [100], false), ([1], [100], false), ([100, 101, 102, 103, 105, 106, 107, 108, 111, 112, 113, 700], [], true), ([104], [100], false), ([104, 109, 701], [100, 101], false), ([109], [100, 101], false), ([109], [100, 101], false), ([104, 109, 110, 701], [100], false), ([109, 110], [100], false), ([109], [100], false)]
def fx_1 : List (List Nat × List Nat × Bool) := [([701, 1001], [100], false), ([], [], false), ([200, 201, 602, 603, 900], [126, 129], true), ([202, 203, 600, 601, 604, 605, 606, 800, 801, 901, 902], [100], false), ([202, 203, 600, 601, 604, 605, 606, 800, 801, 901, 902], [100], false), ([300, 301, 302, 303, 304, 305, 306, 1000], [130], true), ([], [101], false), ([], [101], false), ([307, 1001], [100], false), ([307, 1001], [100], false), ([], [], false), ([800, 801], [], false), ([800, 801], [], false), ([400, 401, 402, 404, 405, 406, 408, 409], [], true), ([403, 406, 407, 410, 411], [100, 102], true), ([], [102], false)]
def fx_2 : List (List Nat × List Nat × Bool) := [([], [], false), ([], [102], false), ([403, 406, 407, 410, 411], [100, 102], true), ([403, 406, 407, 410, 411], [100, 102], true), ([410, 411], [100], false), ([410, 411], [100], false), ([403, 406, 407], [100, 102], true), ([], [], false), ([403, 406, 407], [100, 102], true), ([500, 504, 602, 603], [], true), ([501], [104], false), ([501], [], false), ([502, 503, 505, 506, 600, 601, 604, 605, 606, 800, 801, 901, 902], [100], false), ([502, 503, 505, 902], [], false), ([502, 503, 505, 506, 600, 601, 604, 605, 606, 800, 801, 901], [100], false), ([505], [], false)]
def fx_3 : List (List Nat × List Nat × Bool) := [([506, 600, 601, 604, 605, 606, 800, 801, 901], [100], false), ([502, 503, 505, 800, 801], [], false), ([502, 503, 505, 800, 801], [], false), ([502, 503, 505, 604, 605, 606], [100], false), ([502, 503, 505, 604, 605, 606], [100], false), ([502, 503], [], false), ([502], [], false), ([], [], false), ([], [], false), ([502], [], false), ([602, 603], [], true), ([600, 601, 604, 605, 606, 800, 801], [], false), ([600, 601, 604, 605, 606, 800, 801], [100], false), ([604, 605, 606], [100], false), ([], [], false), ([], [], false)]
def fx_4 : List (List Nat × List Nat × Bool) := [([], [], false), ([], [], false), ([800, 801], [], false), ([700], [], true), ([701], [100], false), ([], [], false), ([], [], false), ([], [], false), ([], [], false), ([800, 801], [], false), ([800, 801], [], false), ([800, 801], [], false), ([800, 801], [], false), ([800, 801], [], false), ([800, 801], [], false), ([800, 801], [], false)]
def fx_5 : List (List Nat × List Nat × Bool) := [([800, 801], [], false), ([800, 801], [], false), ([800, 801], [], false), ([], [], false), ([], [], false), ([], [], false), ([], [], false), ([], [], false), ([], [], false), ([], [], false), ([], [], false), ([], [], false), ([], [], false), ([], [], false), ([602, 603, 900], [126], true), ([901, 902], [], false)]
def fx_6 : List (List Nat × List Nat × Bool) := [([600, 601, 604, 605, 606, 800, 801, 901, 902], [100], false), ([], [], false), ([600, 601, 604, 605, 606, 800, 801, 901], [], false), ([901], [126], false), ([], [], false), ([902], [], false), ([], [], false), ([], [], false), ([], [], false), ([800, 801, 901], [126], false), ([901], [126], false), ([], [], false), ([600, 601, 604, 605, 606, 800, 801, 901, 902], [100], false), ([1000], [], true), ([1001], [], false), ([1001], [100], false)]
def fx_7 : List (List Nat × List Nat × Bool) := [([1001], [100], false), ([1001], [100], false), ([1001], [100], false), ([], [], false), ([0, 2, 3, 4, 5, 100, 101, 102, 103, 105, 106, 107, 108, 111, 112, 113, 200, 201, 300, 301, 302, 303, 304, 305, 306, 400, 401, 402, 404, 405, 406, 408, 409, 500, 504, 602, 603, 700, 900, 1000, 1100, 1101, 1102, 1103, 1104, 1105, 1106, 1107, 1108, 1109], [126, 128, 129, 130], true), ([202, 203, 600, 601, 604, 605, 606, 800, 801, 901, 902], [100], true), ([202, 203, 600, 601, 604, 605, 606, 800, 801, 901, 902], [100], true), ([202, 203, 600, 601, 604, 605, 606, 800, 801, 901, 902], [100], true), ([202, 203, 600, 601, 604, 605, 606, 800, 801, 901, 902], [100], true), ([202, 203, 600, 601, 604, 605, 606, 800, 801, 901, 902], [100, 126], true), ([], [], true), ([], [], true), ([], [], true), ([], [], true), ([], [], true), ([], [], true)]
def fx_8 : List (List Nat × List Nat × Bool) := [([501], [104], true), ([202, 203, 501, 502, 503, 505, 506, 600, 601, 604, 605, 606, 800, 801, 901, 902], [100], true), ([1001], [100], true), ([1001], [], false), ([], [], true), ([], [101], true), ([307, 1001], [100], true), ([], [], true), ([1001], [100], true), ([104, 109, 701], [100, 101], true), ([104, 109, 701], [100, 101], true), ([701, 1001], [100], true), ([800, 801], [], true), ([], [], true), ([403, 406, 407, 410, 411], [100, 102], true), ([104, 109, 110, 403, 406, 407, 410, 411, 701], [100, 102], true)]
def fx_9 : List (List Nat × List Nat × Bool) := [([104, 109, 110, 701], [100], true), ([1, 6, 202, 203, 600, 601, 604, 605, 606, 800, 801, 901, 902], [100], true), ([202, 203, 600, 601, 604, 605, 606, 800, 801, 901, 902], [100], true), ([202, 203, 600, 601, 604, 605, 606, 800, 801, 901, 902], [100, 126], true), ([202, 203, 600, 601, 604, 605, 606, 800, 801, 901, 902], [100, 126], true), ([202, 203, 600, 601, 604, 605, 606, 800, 801, 901, 902], [100], true), ([202, 203, 600, 601, 604, 605, 606, 800, 801, 901, 902], [100], true), ([], [], true), ([], [], true), ([], [], true), ([], [], true), ([], [], true), ([], [], true), ([], [], true), ([202, 203, 600, 601, 604, 605, 606, 800, 801, 901, 902], [100], false), ([], [], false)]
def fx_10 : List (List Nat × List Nat × Bool) := [([], [], false), ([1201, 1202, 1203, 1204, 1205, 1206, 1207, 1208, 1209, 1210, 1212, 1217, 1219, 1221, 1222, 1223, 1224, 1225, 1226, 1227, 1228, 1229, 1230, 1231, 1232, 1233, 1235, 1236, 1237, 1238, 1239, 1242, 1243, 1244], [], true), ([], [], false), ([], [], false), ([], [], false), ([], [], false), ([], [], false), ([], [100, 101, 102], false), ([], [100, 101, 102], false), ([1211], [100, 101, 102], false), ([1200, 1211], [100, 101, 102], false), ([], [], false), ([], [101], false), ([], [], false), ([], [], false), ([], [], false)]
def fx_11 : List (List Nat × List Nat × Bool) := [([], [], false), ([], [], false), ([1200, 1211], [100, 101, 102], false), ([], [100, 101], false), ([], [], false), ([1200, 1211], [100, 101, 102], false), ([1200, 1211], [100, 101, 102], false), ([], [100, 102], false), ([1200, 1211], [100, 101, 102], false), ([], [100, 101, 102], false), ([1200, 1211], [100, 101, 102], false), ([1200], [], false), ([1200], [], false), ([1200], [], false), ([1200], [], false), ([1200], [], false)]
def fx_12 : List (List Nat × List Nat × Bool) := [([1200], [], false), ([1200, 1213], [100], false), ([], [], false), ([], [], false), ([1214, 1215], [], false), ([1214, 1215], [], false), ([1214, 1215, 1216], [], false), ([1214, 1215, 1216], [101], false), ([1214, 1215, 1216], [100, 102], false), ([1214, 1215, 1216], [100, 101, 102], false), ([1200, 1211, 1213, 1214, 1215, 1216], [100, 101, 102], false), ([1200, 1218], [100], false), ([1200, 1218], [], false), ([1200], [], false), ([1200], [101], false), ([], [], false)]
def fx_13 : List (List Nat × List Nat × Bool) := [([], [100], false), ([1200, 1220], [100], false), ([1200], [], false), ([1200, 1218], [100], false), ([], [100], false), ([], [], false), ([], [100, 101], false), ([1200], [100, 101], false), ([1200], [100, 101], false), ([1200, 1220], [100], false), ([], [], false), ([], [], false), ([], [], false), ([1200], [101], false), ([], [], false), ([1200], [], false)]
def fx_14 : List (List Nat × List Nat × Bool) := [([], [102], false), ([], [100], false), ([1234], [100, 102, 103], false), ([1234], [100, 102, 103], false), ([1234], [100, 102, 103], false), ([1200, 1234], [100, 102, 103], false), ([1234], [100, 102], false), ([1200, 1234], [100, 102], false), ([1200, 1234], [100, 102, 103], false), ([], [], false), ([], [102], false), ([1240, 1241], [100], false), ([1240, 1241], [100, 101, 102], false), ([1240, 1241], [100, 101, 102], false), ([1200, 1211, 1240, 1241], [100, 101, 102], false), ([1200, 1211], [100, 101, 102], false)]
def fx_15 : List (List Nat × List Nat × Bool) := [([1200, 1211], [100, 101, 102], false), ([1200, 1211], [100, 101, 102], false), ([1200, 1211], [100, 101, 102], false), ([], [], false), ([], [], false), ([], [], false), ([], [101], false), ([], [100], false), ([], [100], true), ([202, 203, 600, 601, 604, 605, 606, 800, 801, 901, 902], [100, 101], true), ([202, 203, 600, 601, 604, 605, 606, 800, 801, 901, 902], [100, 101], true), ([202, 203, 600, 601, 604, 605, 606, 800, 801, 901, 902], [100, 101], true), ([202, 203, 600, 601, 604, 605, 606, 800, 801, 901, 902], [100, 101], true), ([202, 203, 600, 601, 604, 605, 606, 800, 801, 901, 902], [100, 101, 126], true), ([], [101], true), ([], [101], true)]
def fx_16 : List (List Nat × List Nat × Bool) := [([], [101], true), ([], [101], true), ([], [101], true), ([], [101], true), ([501], [101, 104], true), ([202, 203, 501, 502, 503, 505, 506, 600, 601, 604, 605, 606, 800, 801, 901, 902], [100, 101], true), ([1001], [100, 101], true), ([], [101], true), ([], [101], true), ([307, 1001], [100, 101], true), ([], [101], true), ([1001], [100, 101], true), ([104, 109, 701], [100, 101], true), ([104, 109, 701], [100, 101, 105], true), ([701, 1001], [100, 101], true), ([800, 801], [101], true)]
def fx_17 : List (List Nat × List Nat × Bool) := [([], [101], true), ([403, 406, 407, 410, 411], [100, 101, 102], true), ([104, 109, 110, 403, 406, 407, 410, 411, 701], [100, 101, 102], true), ([104, 109, 110, 701], [100, 101], true), ([1, 6, 202, 203, 600, 601, 604, 605, 606, 800, 801, 901, 902], [100, 101], true), ([202, 203, 600, 601, 604, 605, 606, 800, 801, 901, 902], [100, 101], true), ([202, 203, 600, 601, 604, 605, 606, 800, 801, 901, 902], [100, 101, 126], true), ([202, 203, 600, 601, 604, 605, 606, 800, 801, 901, 902], [100, 101, 126], true), ([202, 203, 600, 601, 604, 605, 606, 800, 801, 901, 902], [100, 101], true), ([202, 203, 600, 601, 604, 605, 606, 800, 801, 901, 902], [100, 101], true), ([0, 1, 2, 3, 4, 5, 6, 100, 101, 102, 103, 104, 105, 106, 107, 108, 109, 110, 111, 112, 113, 200, 201, 202, 203, 300, 301, 302, 303, 304, 305, 306, 307, 400, 401, 402, 403, 404, 405, 406, 407, 408, 409, 410, 411, 500, 501, 502, 503, 504, 505, 506, 600, 601, 602, 603, 604, 605, 606, 700, 701, 800, 801, 900, 901, 902, 1000, 1001, 1100, 1101, 1102, 1103, 1104, 1105, 1106, 1107, 1108, 1109, 1200, 1201, 1202, 1203, 1204, 1205, 1206, 1207, 1208, 1209, 1210, 1211, 1212, 1213, 1214, 1215, 1216, 1217, 1218, 1219, 1220, 1221, 1222, 1223, 1224, 1225, 1226, 1227, 1228, 1229, 1230, 1231, 1232, 1233, 1234, 1235, 1236, 1237, 1238, 1239, 1240, 1241, 1242, 1243, 1244], [100, 101, 102, 103, 104, 105, 126, 128, 129, 130], true)]
def fx_L : List (List (List Nat × List Nat × Bool)) := [fx_0, fx_1, fx_2, fx_3, fx_4, fx_5, fx_6, fx_7, fx_8, fx_9, fx_10, fx_11, fx_12, fx_13, fx_14, fx_15, fx_16, fx_17]
def fx (m : Nat) : List Nat × List Nat × Bool := (((fx_L[m / 16]?).getD [])[m % 16]?).getD ([], [], false)
def fxI (m : Nat) (i : Instr) (x y : Nat) : Bool := match i with
  | .putfield _ => (fx m).1.contains y
  | .iastore => (fx m).2.1.contains x
  | .bastore => (fx m).2.1.contains x
  | .castore => (fx m).2.1.contains x
  | .lastore => (fx m).2.1.contains x
  | .dastore => (fx m).2.1.contains x
  | .aastore => (fx m).2.1.contains x
  | .nop => (fx m).2.1.contains x
  | .new _ => (fx m).2.2
  | .newarray _ => (fx m).2.2
  | .anewarray _ => (fx m).2.2
  | .athrow => (fx m).2.2
  | i => !pm_isc i || (decide (x < 283) && ((fx x).1.all (fun f => (fx m).1.contains f) && ((fx x).2.1.all (fun f => (fx m).2.1.contains f) && (!(fx x).2.2 || (fx m).2.2))))
def fxE (m : Nat) (e : pm_E) : Bool := fxI m e.2.1 e.2.2.2.2.1 e.2.2.2.2.2.1
def fxM (m : Nat) : Bool := (pm_prog m).2.2.all (fxE m)
theorem fx_all : (List.range 283).all fxM = true := by decide +kernel
theorem fx_at {m k : Nat} {e : pm_E} (hm : m < 283) (h : (pm_prog m).2.2[k]? = some e) : fxE m e = true :=
  List.all_eq_true.mp (List.all_eq_true.mp fx_all m (List.mem_range.mpr hm)) e (List.mem_of_getElem? h)
/-- what a run of a method leaves as it was -/
def fx_rel (m : Nat) (σ σ' : pm_H) : Prop :=
  (pm_n σ ≤ pm_n σ' ∧ pm_w σ ≤ pm_w σ' ∧ (∀ a, a < pm_n σ → σ'.2.1 a = σ.2.1 a) ∧
    (∀ f, f ∉ (fx m).1 → ∀ a, a < pm_n σ → pm_F σ' f a = pm_F σ f a) ∧
    (∀ a, a < pm_n σ → pm_t σ a ∉ (fx m).2.1 → ∀ j, pm_A σ' a j = pm_A σ a j)) ∧
  ((fx m).2.2 = false → σ'.1 = σ.1 ∧ σ'.2.1 = σ.2.1 ∧ (∀ f, f ∉ (fx m).1 → ∀ a, pm_F σ' f a = pm_F σ f a) ∧ ∀ a, pm_t σ a ∉ (fx m).2.1 → ∀ j, pm_A σ' a j = pm_A σ a j)
theorem fx_rel.rf {m : Nat} {σ : pm_H} : fx_rel m σ σ := ⟨⟨Nat.le_refl _, Nat.le_refl _, fun _ _ => rfl, fun _ _ _ _ => rfl, fun _ _ _ _ => rfl⟩, fun _ => ⟨rfl, rfl, fun _ _ _ => rfl, fun _ _ _ => rfl⟩⟩
theorem fx_rel.tr {m : Nat} {σ σ1 σ2 : pm_H} (h : fx_rel m σ σ1) (g : fx_rel m σ1 σ2) : fx_rel m σ σ2 := by
  obtain ⟨⟨a1, a2, a3, a4, a5⟩, a6⟩ := h
  obtain ⟨⟨b1, b2, b3, b4, b5⟩, b6⟩ := g
  refine ⟨⟨by omega, by omega, fun a h => (b3 a (by omega)).trans (a3 a h), fun f hf a h => (b4 f hf a (by omega)).trans (a4 f hf a h), fun a h ht j => ?_⟩, fun hal => ?_⟩
  · have e : pm_t σ1 a = pm_t σ a := by unfold pm_t; rw [a3 a h]
    exact (b5 a (by omega) (by rw [e]; exact ht) j).trans (a5 a h ht j)
  · obtain ⟨c1, c2, c3, c4⟩ := a6 hal
    obtain ⟨d1, d2, d3, d4⟩ := b6 hal
    refine ⟨d1.trans c1, d2.trans c2, fun f hf a => (d3 f hf a).trans (c3 f hf a), fun a ht j => ?_⟩
    have e : pm_t σ1 a = pm_t σ a := by unfold pm_t; rw [c2]
    exact (d4 a (by rw [e]; exact ht) j).trans (c4 a ht j)
theorem fx_rel.up {m x : Nat} {σ σ1 : pm_H} (h : fx_rel x σ σ1) (h1 : ∀ f, f ∈ (fx x).1 → f ∈ (fx m).1) (h2 : ∀ f, f ∈ (fx x).2.1 → f ∈ (fx m).2.1) (h3 : (fx m).2.2 = false → (fx x).2.2 = false) : fx_rel m σ σ1 := by
  obtain ⟨⟨a1, a2, a3, a4, a5⟩, a6⟩ := h
  refine ⟨⟨a1, a2, a3, fun f hf a h => a4 f (fun h => hf (h1 f h)) a h, fun a h ht j => a5 a h (fun h => ht (h2 _ h)) j⟩, fun hal => ?_⟩
  obtain ⟨c1, c2, c3, c4⟩ := a6 (h3 hal)
  exact ⟨c1, c2, fun f hf a => c3 f (fun h => hf (h1 f h)) a, fun a ht j => c4 a (fun h => ht (h2 _ h)) j⟩
theorem fx_sF {m y a : Nat} {v : Value} {σ : pm_H} (h : (fx m).1.contains y = true) : fx_rel m σ (pm_sF σ y a v) := by
  have h : y ∈ (fx m).1 := by simpa using h
  have e : ∀ f, f ∉ (fx m).1 → ∀ b, pm_F (pm_sF σ y a v) f b = pm_F σ f b := fun f hf b => by
    unfold pm_F pm_sF
    exact if_neg (fun q => hf (by rw [q.1]; exact h))
  exact ⟨⟨Nat.le_refl _, Nat.le_refl _, fun _ _ => rfl, fun f hf b _ => e f hf b, fun _ _ _ _ => rfl⟩, fun _ => ⟨rfl, rfl, e, fun _ _ _ => rfl⟩⟩
theorem fx_sA {m x a j : Nat} {v : Value} {σ : pm_H} (h : (fx m).2.1.contains x = true) (ht : pm_t σ a = x) : fx_rel m σ (pm_sA σ a j v) := by
  have h : x ∈ (fx m).2.1 := by simpa using h
  have e : ∀ b, pm_t σ b ∉ (fx m).2.1 → ∀ k, pm_A (pm_sA σ a j v) b k = pm_A σ b k := fun b hb k => by
    unfold pm_A pm_sA
    exact if_neg (fun q => hb (by rw [q.1, ht]; exact h))
  exact ⟨⟨Nat.le_refl _, Nat.le_refl _, fun _ _ => rfl, fun _ _ _ _ => rfl, fun b _ hb k => e b hb k⟩, fun _ => ⟨rfl, rfl, fun _ _ _ => rfl, e⟩⟩
theorem fx_cp {m x a0 sp a dp n : Nat} {σ : pm_H} (h : (fx m).2.1.contains x = true) (ht : pm_t σ a = x) : fx_rel m σ (pm_cp σ a0 sp a dp n) := by
  have h : x ∈ (fx m).2.1 := by simpa using h
  have e : ∀ b, pm_t σ b ∉ (fx m).2.1 → ∀ k, pm_A (pm_cp σ a0 sp a dp n) b k = pm_A σ b k := fun b hb k => by
    unfold pm_A pm_cp
    exact if_neg (fun q => hb (by rw [q.1, ht]; exact h))
  exact ⟨⟨Nat.le_refl _, Nat.le_refl _, fun _ _ => rfl, fun _ _ _ _ => rfl, fun b _ hb k => e b hb k⟩, fun _ => ⟨rfl, rfl, fun _ _ _ => rfl, e⟩⟩
theorem fx_new {m t len w : Nat} {σ : pm_H} (h : (fx m).2.2 = true) : fx_rel m σ (pm_new σ t len w) := by
  refine ⟨⟨Nat.le_succ _, Nat.le_add_right _ _, fun a ha => ?_, fun f _ a ha => ?_, fun a ha _ j => ?_⟩, fun hal => by rw [h] at hal; cases hal⟩
  · exact if_neg (Nat.ne_of_lt ha)
  · exact if_neg (Nat.ne_of_lt ha)
  · exact if_neg (Nat.ne_of_lt ha)
theorem fx_thr {m : Nat} {σ : pm_H} (h : (fx m).2.2 = true) : fx_rel m σ (pm_thr σ) :=
  ⟨⟨Nat.le_succ _, Nat.le_add_right _ _, fun _ _ => rfl, fun _ _ _ _ => rfl, fun _ _ _ _ => rfl⟩, fun hal => by rw [h] at hal; cases hal⟩
theorem fx_wr {m : Nat} {i : Instr} {v : Value} {x y : Nat} {S S' : List Value} {σ σ' : pm_H} {p : Option Prop} (h : pm_wr i v x y S σ = some (p, S', σ')) (hp : pm_op p) (hf : fxI m i x y = true) : fx_rel m σ σ' := by
  unfold pm_wr at h
  split at h <;> first
    | (cases h; exact fx_sF hf)
    | (cases h; exact fx_sA hf hp.1)
    | (cases h; exact fx_new hf)
    | (cases h; exact fx_cp hf hp.2.1)
    | cases h
theorem fx_call {m x y : Nat} {i : Instr} (hc : pm_isc i = true) (hf : fxI m i x y = true) : x < 283 ∧ (∀ f, f ∈ (fx x).1 → f ∈ (fx m).1) ∧ (∀ f, f ∈ (fx x).2.1 → f ∈ (fx m).2.1) ∧ ((fx m).2.2 = false → (fx x).2.2 = false) := by
  have h : (!pm_isc i || (decide (x < 283) && ((fx x).1.all (fun f => (fx m).1.contains f) && ((fx x).2.1.all (fun f => (fx m).2.1.contains f) && (!(fx x).2.2 || (fx m).2.2))))) = true := by
    cases i <;> first | exact hf | cases hc
  rw [hc] at h
  simp only [Bool.not_true, Bool.false_or, Bool.and_eq_true, decide_eq_true_eq, List.all_eq_true, Bool.or_eq_true, Bool.not_eq_true', List.contains_iff_mem] at h
  refine ⟨h.1, h.2.1, h.2.2.1, fun q => ?_⟩
  rcases h.2.2.2 with h | h
  · exact h
  · rw [q] at h; cases h
theorem fx_step {r : Nat → Nat → Nat → List Value → List Value → pm_H → Option (pm_O × pm_H)} (hr : ∀ d m k L S σ o σ', m < 283 → r d m k L S σ = some (o, σ') → fx_rel m σ σ') {d m k : Nat} {L S : List Value} {σ : pm_H} {z : pm_O × pm_H} (hm : m < 283) (h : pm_step r d m k L S σ = some z) : fx_rel m σ z.2 := by
  unfold pm_step at h
  cases hk : (pm_prog m).2.2[k]? with
  | none => rw [hk] at h; cases h
  | some e =>
    have hfe := fx_at hm hk
    obtain ⟨pc, i, len, v, x, y, nx, f1, f2, c1, c2, hs⟩ := e
    have hf : fxI m i x y = true := hfe
    rw [hk] at h
    dsimp only at h
    cases h1 : pm_sop i v L S with
    | some q => obtain ⟨L', S'⟩ := q; rw [h1] at h; dsimp only at h; exact hr _ _ _ _ _ _ _ _ hm h
    | none =>
      rw [h1] at h
      dsimp only at h
      cases h2 : pm_rd i v x y S σ with
      | some q =>
        obtain ⟨p, w, S'⟩ := q
        rw [h2] at h
        dsimp only at h
        by_cases hp : pm_op p
        · rw [pm_if_t hp] at h; exact hr _ _ _ _ _ _ _ _ hm h
        · rw [pm_if_f hp] at h; cases h
      | none =>
        rw [h2] at h
        dsimp only at h
        cases h2a : pm_wr i v x y S σ with
        | some q =>
          obtain ⟨p, S', σ'⟩ := q
          rw [h2a] at h
          dsimp only at h
          by_cases hp : pm_op p
          · rw [pm_if_t hp] at h; exact (fx_wr h2a hp hf).tr (hr _ _ _ _ _ _ _ _ hm h)
          · rw [pm_if_f hp] at h; cases h
        | none =>
        rw [h2a] at h
        dsimp only at h
        cases h2b : pm_cd i S with
        | some q =>
          obtain ⟨p, S'⟩ := q
          rw [h2b] at h
          dsimp only at h
          by_cases hp : pm_op p
          · rw [pm_if_t hp] at h; exact hr _ _ _ _ _ _ _ _ hm h
          · rw [pm_if_f hp] at h; cases h
        | none =>
        rw [h2b] at h
        dsimp only at h
        cases h3 : pm_bop i S with
        | some q =>
          obtain ⟨p, sw, S'⟩ := q
          rw [h3] at h
          dsimp only at h
          by_cases hp : p
          · rw [pm_if_t hp] at h
            cases sw
            · exact hr _ _ _ _ _ _ _ _ hm h
            · exact hr _ _ _ _ _ _ _ _ hm h
          · rw [pm_if_f hp] at h
            cases sw
            · exact hr _ _ _ _ _ _ _ _ hm h
            · exact hr _ _ _ _ _ _ _ _ hm h
        | none =>
          rw [h3] at h
          dsimp only at h
          cases h4 : pm_rop i x S with
          | some q =>
            obtain ⟨p, o⟩ := q
            rw [h4] at h
            dsimp only at h
            by_cases hp : pm_op p
            · rw [pm_if_t hp] at h; cases h; exact fx_rel.rf
            · rw [pm_if_f hp] at h; cases h
          | none =>
            rw [h4] at h
            dsimp only at h
            split at h
            · exact hr _ _ _ _ _ _ _ _ hm h
            · cases h; exact fx_thr hf
            · exact hr _ _ _ _ _ _ _ _ hm h
            · cases hc : pm_isc i with
              | false => rw [hc] at h; cases h
              | true =>
                rw [hc] at h
                simp only [if_true] at h
                obtain ⟨q1, q2, q3, q4⟩ := fx_call hc hf
                cases d with
                | zero => cases h
                | succ d' =>
                  dsimp only at h
                  by_cases hp : (pm_prog x).1 ≤ S.length ∧ pm_cat (S.drop (pm_prog x).1) ≤ 8 ∧ (pm_flat (S.take (pm_prog x).1).reverse).length ≤ (pm_prog x).2.1 ∧ pm_op (pm_rcv σ y (S.take (pm_prog x).1).reverse)
                  · rw [pm_if_t hp] at h
                    cases hcall : r d' x 0 (pm_ent (S.take (pm_prog x).1).reverse (pm_prog x).2.1) [] σ with
                    | none => rw [hcall] at h; cases h
                    | some q =>
                      obtain ⟨o, σ1⟩ := q
                      rw [hcall] at h
                      have hx := (hr _ _ _ _ _ _ _ _ q1 hcall).up q2 q3 q4
                      cases o with
                      | inl r9 =>
                        dsimp only at h
                        cases hpu : pm_push v r9 (S.drop (pm_prog x).1) with
                        | none => rw [hpu] at h; cases h
                        | some S2 => rw [hpu] at h; dsimp only at h; exact hx.tr (hr _ _ _ _ _ _ _ _ hm h)
                      | inr E =>
                        dsimp only at h
                        cases c2 with
                        | true => cases h
                        | false =>
                          simp only [Bool.false_eq_true, if_false] at h
                          cases hlk : hs.lookup E with
                          | none =>
                            rw [hlk] at h
                            dsimp only at h
                            split at h
                            · cases h; exact hx
                            · cases h
                          | some hh => rw [hlk] at h; dsimp only at h; exact hx.tr (hr _ _ _ _ _ _ _ _ hm h)
                  · rw [pm_if_f hp] at h; cases h
theorem fx_exec : ∀ (n d m k : Nat) (L S : List Value) (σ : pm_H) (o : pm_O) (σ' : pm_H), m < 283 → pm_exec n d m k L S σ = some (o, σ') → fx_rel m σ σ' := by
  intro n
  induction n with
  | zero => intro d m k L S σ o σ' _ h; cases h
  | succ n ih => intro d m k L S σ o σ' hm h; exact fx_step (z := (o, σ')) ih hm h
/-- every run may be said to leave what its method doesn't write -/
theorem fx_C {d m : Nat} {As : List Value} {σ : pm_H} {Q : pm_O → pm_H → Prop} (h : pm_C d m As σ Q) (hm : m < 283) : pm_C d m As σ (fun o σ' => Q o σ' ∧ fx_rel m σ σ') := by
  obtain ⟨n, o, σ', h1, h2⟩ := h
  exact ⟨n, o, σ', h1, h2, fx_exec _ _ _ _ _ _ _ _ _ hm h1⟩
theorem fx_pure {m : Nat} {σ σ' : pm_H} (h : fx_rel m σ σ') (hp : fx m = ([], [], false)) : σ' = σ := by
  obtain ⟨-, h⟩ := h
  rw [hp] at h
  obtain ⟨h1, h2, h3, h4⟩ := h rfl
  obtain ⟨s1, s2, s3, s4⟩ := σ
  obtain ⟨t1, t2, t3, t4⟩ := σ'
  dsimp only at h1 h2
  subst h1 h2
  have e3 : t3 = s3 := funext fun f => funext fun a => h3 f (List.not_mem_nil) a
  have e4 : t4 = s4 := funext fun a => funext fun j => h4 a (List.not_mem_nil) j
  subst e3 e4
  rfl
