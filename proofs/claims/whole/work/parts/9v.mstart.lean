/-! the beginning: class and reference are made -/
section LW
variable {M M1 M3 : Mm} {x : Nat}
theorem cl_start (r : RR 0 31977 x M M1) (g : G0 M1 x) (hsx : sh M x = some (.inl 11)) (hxn : nxt M = x + 1) (hz : ∀ j, gI M x j = 0) (hn : nxt M3 = x + 1094) (hs : slo M1 ≤ slo M3) (h : ∀ b, b < x + 1064 → sh M3 b = sh M1 b ∧ (∀ j, gI M3 b j = gI M1 b j) ∧ (∀ j, gJ M3 b j = gJ M1 b j) ∧ ∀ j, gR M3 b j = gR M1 b j) : ClV M3 x (slo M3) sg0 := by
  have es : ∀ b, b < x + 1064 → sh M3 b = sh M1 b := fun b hb => (h b hb).1
  have ei : ∀ b j, b < x + 1064 → gI M3 b j = gI M1 b j := fun b j hb => (h b hb).2.1 j
  have er : ∀ b j, b < x + 1064 → gR M3 b j = gR M1 b j := fun b j hb => (h b hb).2.2.2 j
  have fx : FrX (fun _ => False) (fun _ => False) M1 M3 := ⟨by have := r.2.2.1; omega, hs, fun b hb => es b (by have := r.2.2.1; omega), fun b hb _ => ⟨fun j => ei b j (by have := r.2.2.1; omega), fun j => (h b (by have := r.2.2.1; omega)).2.2.1 j⟩, fun b hb _ j => er b j (by have := r.2.2.1; omega)⟩
  have n1 := r.2.2.1
  obtain ⟨a0, b0, a3, b3, a4, pr, a5, b5, a6, ru, ⟨z1, z2, z3⟩, a7, ⟨w1, w2, w3, w4⟩, w5, a8, mc, a9, rd, a10, cp, c0, a11, fn, f0, a12, ⟨e1, ⟨e2, e3, e4, e5, e6, e7⟩, e8, e9, e10, e11⟩, e0, a13, b13, a14, b14, a16, b16, a17, b17, a18, b18, a19, b19, l1, l2⟩ := g
  have hx0 : ∀ j, gI M3 x j = 0 := fun j => (ei x j (by omega)).trans (((r.1.2.2.2.1 x (by omega) (by omega)).1 j).trans (hz j))
  have hsh : sh M3 x = some (.inl 11) := (es x (by omega)).trans ((r.1.2.2.1 x (by omega)).trans hsx)
  have ws : ∀ w q, w + 1 < x + 1064 → WS M1 w q → WS M3 w q := fun w q hw h => ⟨(es _ (by omega)).trans h.1, (er _ _ (by omega)).trans h.2.1, (es _ (by omega)).trans h.2.2⟩
  have hMr : MrS M3 x := by
    refine ⟨⟨hsh, (er _ _ (by omega)).trans a0, (er _ _ (by omega)).trans a3, (er _ _ (by omega)).trans a4, (er _ _ (by omega)).trans a5, (er _ _ (by omega)).trans a6, (er _ _ (by omega)).trans a7, (er _ _ (by omega)).trans a8, (er _ _ (by omega)).trans a9, (er _ _ (by omega)).trans a10, (er _ _ (by omega)).trans a11, (er _ _ (by omega)).trans a12, (er _ _ (by omega)).trans a13, (er _ _ (by omega)).trans a14, (er _ _ (by omega)).trans a16, (er _ _ (by omega)).trans a17, (er _ _ (by omega)).trans a18, (er _ _ (by omega)).trans a19⟩, ⟨(es _ (by omega)).trans b3, (es _ (by omega)).trans b5, (es _ (by omega)).trans b13, (es _ (by omega)).trans b14, (es _ (by omega)).trans b19⟩, ⟨ws _ _ (by omega) b16, ws _ _ (by omega) b17, ws _ _ (by omega) b18⟩, fun i hi => ⟨(er _ _ (by omega)).trans (l2 i hi).1, ws _ _ (by omega) (l2 i hi).2.1⟩, ?_, by omega⟩
    obtain ⟨p1, ⟨p2, p3, p4⟩, p5, p6, p7⟩ := pr
    exact ⟨(es _ (by omega)).trans p1, ⟨(er _ _ (by omega)).trans p2, (er _ _ (by omega)).trans p3, (er _ _ (by omega)).trans p4⟩, (es _ (by omega)).trans p5, ws _ _ (by omega) p6, (es _ (by omega)).trans p7⟩
  have mc3 : MCS M3 (x + 1013) (x + 1014) (x + 1015) (x + 1016) (x + 1017) 64 := mc.frx fx (ei _ _ (by omega)) (fun q => q)
  have ru3 : RUS M3 (x + 9) := ru.frx fx (by omega) (fun _ _ q => q)
  have rd3 : RDS M3 (x + 1018) (x + 9) (x + 1013) := by
    obtain ⟨d1, ⟨d2, d3, d4, d5, d6, d7, d8⟩, d9, d10, d11, d12, d13⟩ := rd
    exact ⟨(es _ (by omega)).trans d1, ⟨(er _ _ (by omega)).trans d2, (er _ _ (by omega)).trans d3, (er _ _ (by omega)).trans d4, (er _ _ (by omega)).trans d5, (er _ _ (by omega)).trans d6, (er _ _ (by omega)).trans d7, (er _ _ (by omega)).trans d8⟩, (es _ (by omega)).trans d9, (es _ (by omega)).trans d10, (es _ (by omega)).trans d11, (es _ (by omega)).trans d12, (es _ (by omega)).trans d13⟩
  have cp3 : CPS M3 x := by
    obtain ⟨d1, ⟨d2, d3, d4, d5, d6⟩, d7, d8⟩ := cp
    exact ⟨(es _ (by omega)).trans d1, ⟨(er _ _ (by omega)).trans d2, (er _ _ (by omega)).trans d3, (er _ _ (by omega)).trans d4, (er _ _ (by omega)).trans d5, (er _ _ (by omega)).trans d6⟩, ws _ _ (by omega) d7, ws _ _ (by omega) d8⟩
  have fn3 : FNS M3 x := by
    obtain ⟨d1, ⟨d2, d3, d4, d5⟩, d7, d8⟩ := fn
    exact ⟨(es _ (by omega)).trans d1, ⟨(er _ _ (by omega)).trans d2, (er _ _ (by omega)).trans d3, (er _ _ (by omega)).trans d4, (er _ _ (by omega)).trans d5⟩, ws _ _ (by omega) d7, ws _ _ (by omega) d8⟩
  have el3 : ElS M3 x (x + 1035) (x + 1036) (x + 1037) (x + 1038) 0 0 := by
    refine ⟨(es _ (by omega)).trans e1, ⟨(er _ _ (by omega)).trans e2, (er _ _ (by omega)).trans e3, (er _ _ (by omega)).trans e4, (er _ _ (by omega)).trans e5, (er _ _ (by omega)).trans e6, (er _ _ (by omega)).trans e7⟩, ⟨(es _ (by omega)).trans e8, (es _ (by omega)).trans e9, (es _ (by omega)).trans e10, (es _ (by omega)).trans e11⟩, ⟨by omega, by omega⟩, ⟨⟨Or.inl ⟨by omega, by omega⟩, by omega⟩, ⟨Or.inl ⟨by omega, by omega⟩, by omega⟩, ⟨Or.inl ⟨by omega, by omega⟩, by omega⟩, ⟨Or.inl ⟨by omega, by omega⟩, by omega⟩⟩, fun j h1 hj => ?_, by omega, by omega, by omega⟩
    obtain ⟨q1, q2, q3, q4⟩ := mc3.2.1
    rcases (show j = 1 ∨ j = 2 ∨ j = 3 ∨ j = 4 by omega) with q | q | q | q <;> rw [q]
    · rw [q1]; simp
    · rw [q2]; simp
    · rw [q3]; simp
    · rw [q4]; simp
  have hring : ∀ j, gR M3 (x + 1011 + 1) j = none := fun j => (er _ _ (by omega)).trans (w4 j)
  have hB : Bas M3 x [] 0 (fun _ => none) (fun _ => []) [] := by
    refine ⟨hMr, ⟨(es _ (by omega)).trans b0, fun j hj => by simp at hj, fun c hc => by simp at hc, by simp⟩, ⟨hx0 1, hx0 2⟩, fun j hj => (ei _ _ (by omega)).trans (l1 j hj), fun i hi => ⟨⟨(ei _ _ (by omega)).trans (l2 i hi).2.2, fun j hj => by simp at hj, fun c hc => by simp at hc⟩, by simp⟩, hx0 15, by simp, fun j hj => by simp at hj⟩
  have hrg : rgN M3 (x + 1011) = 0 := by
    unfold rgN
    rw [List.countP_eq_zero]
    intro i _
    rw [hring]
    simp
  show Bas M3 x [] 0 (fun _ => none) (fun _ => []) [] ∧ Cor M3 x (slo M3) [] 0 [] 0 0 false none
  refine ⟨hB, 0, false, 0, false, ⟨⟨x + 1014, x + 1015, x + 1016, x + 1017, 64, mc3, ⟨Or.inl ⟨by omega, by omega⟩, Or.inl ⟨by omega, by omega⟩, Or.inl ⟨by omega, by omega⟩, Or.inl ⟨by omega, by omega⟩⟩, rd3, ru3, ⟨(ei _ _ (by omega)).trans z1, by simp, fun i hi => by simp at hi⟩, ⟨fun u hu => by simp at hu, by omega, by simp⟩, (ei _ _ (by omega)).trans z2, Or.inr ((ei _ _ (by omega)).trans z3), by omega, by omega, by omega, by omega⟩, ⟨(es _ (by omega)).trans w1, (er _ _ (by omega)).trans w2, (es _ (by omega)).trans w3, by omega, fun i p hi hp => ?_, fun i j p q hi hj hij hp hq => ?_⟩, ⟨(ei _ _ (by omega)).trans (w5 1), by omega, (ei _ _ (by omega)).trans (w5 2), by simp, fun k hk => by simp at hk⟩, cp3⟩, ⟨(ei _ _ (by omega)).trans (c0 5), (ei _ _ (by omega)).trans (c0 6), (ei _ _ (by omega)).trans (c0 7)⟩, ⟨fn3, ?_, (ei _ _ (by omega)).trans (f0 4), (fun q => by cases q)⟩, ⟨x + 1035, x + 1036, x + 1037, x + 1038, 0, 0, el3, (ei _ _ (by omega)).trans (e0 3), by omega, (ei _ _ (by omega)).trans (e0 4), (fun q => by rcases q with q | q; omega; cases q), (fun q => by omega), (fun q => by cases q)⟩, (fun q => by rcases q with q | q; omega; cases q), ?_⟩
  · rw [hring] at hp; cases hp
  · rw [hring] at hp; cases hp
  · exact ⟨(ei _ _ (by omega)).trans (f0 6), fun q hq => by cases hq⟩
  · refine ⟨?_, Nat.le_add_right _ _⟩
    have hc : capM M3 (x + 1013) = 64 := by unfold capM; rw [mc3.2.2.1]; exact cl_nI (by omega)
    rw [hc, hrg, hn]
    omega
end LW
