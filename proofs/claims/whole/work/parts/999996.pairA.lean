/-! ===== pairs of two transducers ===== -/
/-- both final -/
def finP (A B : Tr) (p : Nat) : Bool := A.1.testBit (p / 12) && B.1.testBit (p % 12)
theorem s_Pa_isFinalPair {σ : pm_H} {ta tb p : Nat} {A B : Tr} {πa πb : Nat → Nat} (ha : isTr σ ta A πa) (hA : okTr A) (hb : isTr σ tb B πb) (hB : okTr B) (hp : p < 144) : cI 2 32 [.ref ta, .ref tb, .int (Int32.ofInt (p : Int))] σ (bI (finP A B p)) := by
  have pd := p_div p hp
  have pd2 := pd.2
  rw [pd.1] at pd2
  have q12 : p % 12 < 12 := Nat.mod_lt _ (by decide)
  refine w_Pa_isFinalPair_0 ⟨i12_0, ha.1.1, ?_⟩
  rw [pd.1]
  refine gI (s_Tr_hasFinal ha hA.1 (show p / 12 < 12 by omega)) (by omega) (fun x => ⟨rfl, ?_⟩) (fun x => ⟨i12_0, hb.1.1, ?_⟩)
  · unfold finP; rw [x]; exact ⟨rfl, rfl⟩
  rw [pd2]
  refine gI (s_Tr_hasFinal hb hB.1 q12) (by omega) (fun y => ⟨rfl, ?_⟩) (fun y => ⟨rfl, ?_⟩)
  · unfold finP; rw [x, y]; exact ⟨rfl, rfl⟩
  · unfold finP; rw [x, y]; exact ⟨rfl, rfl⟩
