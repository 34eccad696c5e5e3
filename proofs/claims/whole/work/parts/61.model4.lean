/-! the model: its past -/
section MODEL4
variable {d : Nat} {h : AH} {s : Ms} {L : List Ms}
theorem ZF.cong {f f' : Int → Int} (a : ZF f s) (e : ∀ m, 0 ≤ m → m < 293 → f' m = f m) : ZF f' s := by
  obtain ⟨a0, a1, a2, a3, a4, a5, a6, a7⟩ := a
  have l20 := a5.1
  refine ⟨by rw [e 0 (by omega) (by omega)]; exact a0, by rw [e 1 (by omega) (by omega)]; exact a1, fun k h1 h2 => by rw [e k (by omega) (by omega)]; exact a2 k h1 h2, fun i c hc => ?_, fun i v hv => ?_, a5, a6, a7⟩
  · have hl := lt_len hc
    rw [e _ (by omega) (by omega), e _ (by omega) (by omega), e _ (by omega) (by omega), e _ (by omega) (by omega)]
    exact a3 i c hc
  · have hl := lt_len hv
    rw [e _ (by omega) (by omega)]
    exact a4 i v hv
def HZ (h : AH) (L : List Ms) : Prop := hi h 104 3 = L.length ∧ L.length ≤ 4 ∧ ∀ (k : Nat) (s : Ms), L[k]? = some s → ZF (fun m => hi h 107 (293 * (k : Int) + m)) s
end MODEL4
