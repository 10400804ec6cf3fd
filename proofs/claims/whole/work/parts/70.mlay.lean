/-! ===== the model: where its rows lie ===== -/
/-- field, place, kind, length of each row -/
def mTab : List (Nat × Nat × Nat × Nat) := [(1201, 1, 100, 13), (1202, 2, 100, 13), (1203, 3, 100, 520), (1204, 4, 100, 520), (1205, 5, 101, 520), (1206, 6, 101, 520), (1207, 7, 100, 520), (1208, 8, 100, 3120), (1209, 9, 102, 3120), (1210, 10, 100, 8), (1212, 11, 100, 120), (1217, 12, 100, 10), (1219, 13, 100, 60), (1221, 14, 101, 4096), (1222, 15, 101, 4096), (1223, 16, 100, 7920), (1224, 17, 100, 132), (1225, 18, 100, 60), (1226, 19, 100, 2400), (1227, 20, 100, 13), (1228, 21, 102, 1600), (1229, 22, 102, 144), (1230, 23, 102, 144), (1231, 24, 100, 144), (1232, 25, 103, 125280), (1233, 26, 100, 49152), (1235, 27, 100, 876), (1236, 28, 100, 876), (1237, 29, 102, 49152), (1238, 30, 100, 12), (1239, 31, 100, 12), (1242, 32, 100, 6), (1243, 33, 102, 700), (1244, 34, 102, 8400)]
def mS (σ : pm_H) (m : Nat) : Prop := pm_t σ m = 13 ∧ ∀ f k t l, (f, k, t, l) ∈ mTab → pm_F σ f m = .ref (m + k) ∧ pm_t σ (m + k) = t ∧ pm_l σ (m + k) = l
theorem mS.f1 {σ : pm_H} {m : Nat} (h : mS σ m) : pm_F σ 1201 m = .ref (m + 1) := (h.2 1201 1 100 13 (by decide)).1
theorem mS.t1 {σ : pm_H} {m : Nat} (h : mS σ m) : pm_t σ (m + 1) = 100 := (h.2 1201 1 100 13 (by decide)).2.1
theorem mS.l1 {σ : pm_H} {m : Nat} (h : mS σ m) : pm_l σ (m + 1) = 13 := (h.2 1201 1 100 13 (by decide)).2.2
theorem mS.f2 {σ : pm_H} {m : Nat} (h : mS σ m) : pm_F σ 1202 m = .ref (m + 2) := (h.2 1202 2 100 13 (by decide)).1
theorem mS.t2 {σ : pm_H} {m : Nat} (h : mS σ m) : pm_t σ (m + 2) = 100 := (h.2 1202 2 100 13 (by decide)).2.1
theorem mS.l2 {σ : pm_H} {m : Nat} (h : mS σ m) : pm_l σ (m + 2) = 13 := (h.2 1202 2 100 13 (by decide)).2.2
theorem mS.f3 {σ : pm_H} {m : Nat} (h : mS σ m) : pm_F σ 1203 m = .ref (m + 3) := (h.2 1203 3 100 520 (by decide)).1
theorem mS.t3 {σ : pm_H} {m : Nat} (h : mS σ m) : pm_t σ (m + 3) = 100 := (h.2 1203 3 100 520 (by decide)).2.1
theorem mS.l3 {σ : pm_H} {m : Nat} (h : mS σ m) : pm_l σ (m + 3) = 520 := (h.2 1203 3 100 520 (by decide)).2.2
theorem mS.f4 {σ : pm_H} {m : Nat} (h : mS σ m) : pm_F σ 1204 m = .ref (m + 4) := (h.2 1204 4 100 520 (by decide)).1
theorem mS.t4 {σ : pm_H} {m : Nat} (h : mS σ m) : pm_t σ (m + 4) = 100 := (h.2 1204 4 100 520 (by decide)).2.1
theorem mS.l4 {σ : pm_H} {m : Nat} (h : mS σ m) : pm_l σ (m + 4) = 520 := (h.2 1204 4 100 520 (by decide)).2.2
theorem mS.f5 {σ : pm_H} {m : Nat} (h : mS σ m) : pm_F σ 1205 m = .ref (m + 5) := (h.2 1205 5 101 520 (by decide)).1
theorem mS.t5 {σ : pm_H} {m : Nat} (h : mS σ m) : pm_t σ (m + 5) = 101 := (h.2 1205 5 101 520 (by decide)).2.1
theorem mS.l5 {σ : pm_H} {m : Nat} (h : mS σ m) : pm_l σ (m + 5) = 520 := (h.2 1205 5 101 520 (by decide)).2.2
theorem mS.f6 {σ : pm_H} {m : Nat} (h : mS σ m) : pm_F σ 1206 m = .ref (m + 6) := (h.2 1206 6 101 520 (by decide)).1
theorem mS.t6 {σ : pm_H} {m : Nat} (h : mS σ m) : pm_t σ (m + 6) = 101 := (h.2 1206 6 101 520 (by decide)).2.1
theorem mS.l6 {σ : pm_H} {m : Nat} (h : mS σ m) : pm_l σ (m + 6) = 520 := (h.2 1206 6 101 520 (by decide)).2.2
theorem mS.f7 {σ : pm_H} {m : Nat} (h : mS σ m) : pm_F σ 1207 m = .ref (m + 7) := (h.2 1207 7 100 520 (by decide)).1
theorem mS.t7 {σ : pm_H} {m : Nat} (h : mS σ m) : pm_t σ (m + 7) = 100 := (h.2 1207 7 100 520 (by decide)).2.1
theorem mS.l7 {σ : pm_H} {m : Nat} (h : mS σ m) : pm_l σ (m + 7) = 520 := (h.2 1207 7 100 520 (by decide)).2.2
theorem mS.f8 {σ : pm_H} {m : Nat} (h : mS σ m) : pm_F σ 1208 m = .ref (m + 8) := (h.2 1208 8 100 3120 (by decide)).1
theorem mS.t8 {σ : pm_H} {m : Nat} (h : mS σ m) : pm_t σ (m + 8) = 100 := (h.2 1208 8 100 3120 (by decide)).2.1
theorem mS.l8 {σ : pm_H} {m : Nat} (h : mS σ m) : pm_l σ (m + 8) = 3120 := (h.2 1208 8 100 3120 (by decide)).2.2
theorem mS.f9 {σ : pm_H} {m : Nat} (h : mS σ m) : pm_F σ 1209 m = .ref (m + 9) := (h.2 1209 9 102 3120 (by decide)).1
theorem mS.t9 {σ : pm_H} {m : Nat} (h : mS σ m) : pm_t σ (m + 9) = 102 := (h.2 1209 9 102 3120 (by decide)).2.1
theorem mS.l9 {σ : pm_H} {m : Nat} (h : mS σ m) : pm_l σ (m + 9) = 3120 := (h.2 1209 9 102 3120 (by decide)).2.2
theorem mS.f10 {σ : pm_H} {m : Nat} (h : mS σ m) : pm_F σ 1210 m = .ref (m + 10) := (h.2 1210 10 100 8 (by decide)).1
theorem mS.t10 {σ : pm_H} {m : Nat} (h : mS σ m) : pm_t σ (m + 10) = 100 := (h.2 1210 10 100 8 (by decide)).2.1
theorem mS.l10 {σ : pm_H} {m : Nat} (h : mS σ m) : pm_l σ (m + 10) = 8 := (h.2 1210 10 100 8 (by decide)).2.2
theorem mS.f11 {σ : pm_H} {m : Nat} (h : mS σ m) : pm_F σ 1212 m = .ref (m + 11) := (h.2 1212 11 100 120 (by decide)).1
theorem mS.t11 {σ : pm_H} {m : Nat} (h : mS σ m) : pm_t σ (m + 11) = 100 := (h.2 1212 11 100 120 (by decide)).2.1
theorem mS.l11 {σ : pm_H} {m : Nat} (h : mS σ m) : pm_l σ (m + 11) = 120 := (h.2 1212 11 100 120 (by decide)).2.2
theorem mS.f12 {σ : pm_H} {m : Nat} (h : mS σ m) : pm_F σ 1217 m = .ref (m + 12) := (h.2 1217 12 100 10 (by decide)).1
theorem mS.t12 {σ : pm_H} {m : Nat} (h : mS σ m) : pm_t σ (m + 12) = 100 := (h.2 1217 12 100 10 (by decide)).2.1
theorem mS.l12 {σ : pm_H} {m : Nat} (h : mS σ m) : pm_l σ (m + 12) = 10 := (h.2 1217 12 100 10 (by decide)).2.2
theorem mS.f13 {σ : pm_H} {m : Nat} (h : mS σ m) : pm_F σ 1219 m = .ref (m + 13) := (h.2 1219 13 100 60 (by decide)).1
theorem mS.t13 {σ : pm_H} {m : Nat} (h : mS σ m) : pm_t σ (m + 13) = 100 := (h.2 1219 13 100 60 (by decide)).2.1
theorem mS.l13 {σ : pm_H} {m : Nat} (h : mS σ m) : pm_l σ (m + 13) = 60 := (h.2 1219 13 100 60 (by decide)).2.2
theorem mS.f14 {σ : pm_H} {m : Nat} (h : mS σ m) : pm_F σ 1221 m = .ref (m + 14) := (h.2 1221 14 101 4096 (by decide)).1
theorem mS.t14 {σ : pm_H} {m : Nat} (h : mS σ m) : pm_t σ (m + 14) = 101 := (h.2 1221 14 101 4096 (by decide)).2.1
theorem mS.l14 {σ : pm_H} {m : Nat} (h : mS σ m) : pm_l σ (m + 14) = 4096 := (h.2 1221 14 101 4096 (by decide)).2.2
theorem mS.f15 {σ : pm_H} {m : Nat} (h : mS σ m) : pm_F σ 1222 m = .ref (m + 15) := (h.2 1222 15 101 4096 (by decide)).1
theorem mS.t15 {σ : pm_H} {m : Nat} (h : mS σ m) : pm_t σ (m + 15) = 101 := (h.2 1222 15 101 4096 (by decide)).2.1
theorem mS.l15 {σ : pm_H} {m : Nat} (h : mS σ m) : pm_l σ (m + 15) = 4096 := (h.2 1222 15 101 4096 (by decide)).2.2
theorem mS.f16 {σ : pm_H} {m : Nat} (h : mS σ m) : pm_F σ 1223 m = .ref (m + 16) := (h.2 1223 16 100 7920 (by decide)).1
theorem mS.t16 {σ : pm_H} {m : Nat} (h : mS σ m) : pm_t σ (m + 16) = 100 := (h.2 1223 16 100 7920 (by decide)).2.1
theorem mS.l16 {σ : pm_H} {m : Nat} (h : mS σ m) : pm_l σ (m + 16) = 7920 := (h.2 1223 16 100 7920 (by decide)).2.2
theorem mS.f17 {σ : pm_H} {m : Nat} (h : mS σ m) : pm_F σ 1224 m = .ref (m + 17) := (h.2 1224 17 100 132 (by decide)).1
theorem mS.t17 {σ : pm_H} {m : Nat} (h : mS σ m) : pm_t σ (m + 17) = 100 := (h.2 1224 17 100 132 (by decide)).2.1
theorem mS.l17 {σ : pm_H} {m : Nat} (h : mS σ m) : pm_l σ (m + 17) = 132 := (h.2 1224 17 100 132 (by decide)).2.2
theorem mS.f18 {σ : pm_H} {m : Nat} (h : mS σ m) : pm_F σ 1225 m = .ref (m + 18) := (h.2 1225 18 100 60 (by decide)).1
theorem mS.t18 {σ : pm_H} {m : Nat} (h : mS σ m) : pm_t σ (m + 18) = 100 := (h.2 1225 18 100 60 (by decide)).2.1
theorem mS.l18 {σ : pm_H} {m : Nat} (h : mS σ m) : pm_l σ (m + 18) = 60 := (h.2 1225 18 100 60 (by decide)).2.2
theorem mS.f19 {σ : pm_H} {m : Nat} (h : mS σ m) : pm_F σ 1226 m = .ref (m + 19) := (h.2 1226 19 100 2400 (by decide)).1
theorem mS.t19 {σ : pm_H} {m : Nat} (h : mS σ m) : pm_t σ (m + 19) = 100 := (h.2 1226 19 100 2400 (by decide)).2.1
theorem mS.l19 {σ : pm_H} {m : Nat} (h : mS σ m) : pm_l σ (m + 19) = 2400 := (h.2 1226 19 100 2400 (by decide)).2.2
theorem mS.f20 {σ : pm_H} {m : Nat} (h : mS σ m) : pm_F σ 1227 m = .ref (m + 20) := (h.2 1227 20 100 13 (by decide)).1
theorem mS.t20 {σ : pm_H} {m : Nat} (h : mS σ m) : pm_t σ (m + 20) = 100 := (h.2 1227 20 100 13 (by decide)).2.1
theorem mS.l20 {σ : pm_H} {m : Nat} (h : mS σ m) : pm_l σ (m + 20) = 13 := (h.2 1227 20 100 13 (by decide)).2.2
theorem mS.f21 {σ : pm_H} {m : Nat} (h : mS σ m) : pm_F σ 1228 m = .ref (m + 21) := (h.2 1228 21 102 1600 (by decide)).1
theorem mS.t21 {σ : pm_H} {m : Nat} (h : mS σ m) : pm_t σ (m + 21) = 102 := (h.2 1228 21 102 1600 (by decide)).2.1
theorem mS.l21 {σ : pm_H} {m : Nat} (h : mS σ m) : pm_l σ (m + 21) = 1600 := (h.2 1228 21 102 1600 (by decide)).2.2
theorem mS.f22 {σ : pm_H} {m : Nat} (h : mS σ m) : pm_F σ 1229 m = .ref (m + 22) := (h.2 1229 22 102 144 (by decide)).1
theorem mS.t22 {σ : pm_H} {m : Nat} (h : mS σ m) : pm_t σ (m + 22) = 102 := (h.2 1229 22 102 144 (by decide)).2.1
theorem mS.l22 {σ : pm_H} {m : Nat} (h : mS σ m) : pm_l σ (m + 22) = 144 := (h.2 1229 22 102 144 (by decide)).2.2
theorem mS.f23 {σ : pm_H} {m : Nat} (h : mS σ m) : pm_F σ 1230 m = .ref (m + 23) := (h.2 1230 23 102 144 (by decide)).1
theorem mS.t23 {σ : pm_H} {m : Nat} (h : mS σ m) : pm_t σ (m + 23) = 102 := (h.2 1230 23 102 144 (by decide)).2.1
theorem mS.l23 {σ : pm_H} {m : Nat} (h : mS σ m) : pm_l σ (m + 23) = 144 := (h.2 1230 23 102 144 (by decide)).2.2
theorem mS.f24 {σ : pm_H} {m : Nat} (h : mS σ m) : pm_F σ 1231 m = .ref (m + 24) := (h.2 1231 24 100 144 (by decide)).1
theorem mS.t24 {σ : pm_H} {m : Nat} (h : mS σ m) : pm_t σ (m + 24) = 100 := (h.2 1231 24 100 144 (by decide)).2.1
theorem mS.l24 {σ : pm_H} {m : Nat} (h : mS σ m) : pm_l σ (m + 24) = 144 := (h.2 1231 24 100 144 (by decide)).2.2
theorem mS.f25 {σ : pm_H} {m : Nat} (h : mS σ m) : pm_F σ 1232 m = .ref (m + 25) := (h.2 1232 25 103 125280 (by decide)).1
theorem mS.t25 {σ : pm_H} {m : Nat} (h : mS σ m) : pm_t σ (m + 25) = 103 := (h.2 1232 25 103 125280 (by decide)).2.1
theorem mS.l25 {σ : pm_H} {m : Nat} (h : mS σ m) : pm_l σ (m + 25) = 125280 := (h.2 1232 25 103 125280 (by decide)).2.2
theorem mS.f26 {σ : pm_H} {m : Nat} (h : mS σ m) : pm_F σ 1233 m = .ref (m + 26) := (h.2 1233 26 100 49152 (by decide)).1
theorem mS.t26 {σ : pm_H} {m : Nat} (h : mS σ m) : pm_t σ (m + 26) = 100 := (h.2 1233 26 100 49152 (by decide)).2.1
theorem mS.l26 {σ : pm_H} {m : Nat} (h : mS σ m) : pm_l σ (m + 26) = 49152 := (h.2 1233 26 100 49152 (by decide)).2.2
theorem mS.f27 {σ : pm_H} {m : Nat} (h : mS σ m) : pm_F σ 1235 m = .ref (m + 27) := (h.2 1235 27 100 876 (by decide)).1
theorem mS.t27 {σ : pm_H} {m : Nat} (h : mS σ m) : pm_t σ (m + 27) = 100 := (h.2 1235 27 100 876 (by decide)).2.1
theorem mS.l27 {σ : pm_H} {m : Nat} (h : mS σ m) : pm_l σ (m + 27) = 876 := (h.2 1235 27 100 876 (by decide)).2.2
theorem mS.f28 {σ : pm_H} {m : Nat} (h : mS σ m) : pm_F σ 1236 m = .ref (m + 28) := (h.2 1236 28 100 876 (by decide)).1
theorem mS.t28 {σ : pm_H} {m : Nat} (h : mS σ m) : pm_t σ (m + 28) = 100 := (h.2 1236 28 100 876 (by decide)).2.1
theorem mS.l28 {σ : pm_H} {m : Nat} (h : mS σ m) : pm_l σ (m + 28) = 876 := (h.2 1236 28 100 876 (by decide)).2.2
theorem mS.f29 {σ : pm_H} {m : Nat} (h : mS σ m) : pm_F σ 1237 m = .ref (m + 29) := (h.2 1237 29 102 49152 (by decide)).1
theorem mS.t29 {σ : pm_H} {m : Nat} (h : mS σ m) : pm_t σ (m + 29) = 102 := (h.2 1237 29 102 49152 (by decide)).2.1
theorem mS.l29 {σ : pm_H} {m : Nat} (h : mS σ m) : pm_l σ (m + 29) = 49152 := (h.2 1237 29 102 49152 (by decide)).2.2
theorem mS.f30 {σ : pm_H} {m : Nat} (h : mS σ m) : pm_F σ 1238 m = .ref (m + 30) := (h.2 1238 30 100 12 (by decide)).1
theorem mS.t30 {σ : pm_H} {m : Nat} (h : mS σ m) : pm_t σ (m + 30) = 100 := (h.2 1238 30 100 12 (by decide)).2.1
theorem mS.l30 {σ : pm_H} {m : Nat} (h : mS σ m) : pm_l σ (m + 30) = 12 := (h.2 1238 30 100 12 (by decide)).2.2
theorem mS.f31 {σ : pm_H} {m : Nat} (h : mS σ m) : pm_F σ 1239 m = .ref (m + 31) := (h.2 1239 31 100 12 (by decide)).1
theorem mS.t31 {σ : pm_H} {m : Nat} (h : mS σ m) : pm_t σ (m + 31) = 100 := (h.2 1239 31 100 12 (by decide)).2.1
theorem mS.l31 {σ : pm_H} {m : Nat} (h : mS σ m) : pm_l σ (m + 31) = 12 := (h.2 1239 31 100 12 (by decide)).2.2
theorem mS.f32 {σ : pm_H} {m : Nat} (h : mS σ m) : pm_F σ 1242 m = .ref (m + 32) := (h.2 1242 32 100 6 (by decide)).1
theorem mS.t32 {σ : pm_H} {m : Nat} (h : mS σ m) : pm_t σ (m + 32) = 100 := (h.2 1242 32 100 6 (by decide)).2.1
theorem mS.l32 {σ : pm_H} {m : Nat} (h : mS σ m) : pm_l σ (m + 32) = 6 := (h.2 1242 32 100 6 (by decide)).2.2
theorem mS.f33 {σ : pm_H} {m : Nat} (h : mS σ m) : pm_F σ 1243 m = .ref (m + 33) := (h.2 1243 33 102 700 (by decide)).1
theorem mS.t33 {σ : pm_H} {m : Nat} (h : mS σ m) : pm_t σ (m + 33) = 102 := (h.2 1243 33 102 700 (by decide)).2.1
theorem mS.l33 {σ : pm_H} {m : Nat} (h : mS σ m) : pm_l σ (m + 33) = 700 := (h.2 1243 33 102 700 (by decide)).2.2
theorem mS.f34 {σ : pm_H} {m : Nat} (h : mS σ m) : pm_F σ 1244 m = .ref (m + 34) := (h.2 1244 34 102 8400 (by decide)).1
theorem mS.t34 {σ : pm_H} {m : Nat} (h : mS σ m) : pm_t σ (m + 34) = 102 := (h.2 1244 34 102 8400 (by decide)).2.1
theorem mS.l34 {σ : pm_H} {m : Nat} (h : mS σ m) : pm_l σ (m + 34) = 8400 := (h.2 1244 34 102 8400 (by decide)).2.2
theorem mS_of {σ σ' : pm_H} {m : Nat} (h : mS σ m) (ht : σ'.2.1 = σ.2.1) (hF : ∀ e, e ∈ mTab → pm_F σ' e.1 m = pm_F σ e.1 m) : mS σ' m := by
  refine ⟨by unfold pm_t; rw [ht]; exact h.1, fun f k t l hm => ?_⟩
  obtain ⟨h1, h2, h3⟩ := h.2 f k t l hm
  refine ⟨?_, ?_, ?_⟩
  · rw [← h1]; exact hF _ hm
  · unfold pm_t at h2 ⊢; rw [ht]; exact h2
  · unfold pm_l at h3 ⊢; rw [ht]; exact h3
theorem mS_fr {P : Nat → Prop} {σ σ' : pm_H} {m : Nat} (h : mS σ m) (hf : fr P σ σ') (hp : ¬ P m) : mS σ' m := mS_of h hf.2.1 (fun _ _ => hf.F hp)
theorem mS_sA {σ : pm_H} {m a j : Nat} {v : Value} (h : mS σ m) : mS (pm_sA σ a j v) m := mS_of h rfl (fun _ _ => rfl)
theorem mS_sF {σ : pm_H} {m f a : Nat} {v : Value} (h : mS σ m) (hf : f ∉ mTab.map (fun e => e.1)) : mS (pm_sF σ f a v) m := mS_of h rfl (fun e he => by
  rw [F_sF, if_neg]
  rintro ⟨rfl, _⟩
  exact hf (List.mem_map.mpr ⟨e, he, rfl⟩))
