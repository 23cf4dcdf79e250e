/-! ===== printed by program: each method as a function, and that its run does what the function says ===== -/
def qbind {α β : Type} (a : Option α) (f : α → Option β) : Option β := match a with
  | none => none
  | some x => f x
theorem qbind_some {α β : Type} {a : Option α} {f : α → Option β} {b : β} (h : qbind a f = some b) : ∃ x, a = some x ∧ f x = some b := by
  cases a with
  | none => cases h
  | some x => exact ⟨x, rfl, h⟩
theorem qinj2 {T0 T1 : Type} {a0 : T0} {a1 : T1} {b0 : T0} {b1 : T1} (h : some (a0, a1) = some (b0, b1)) : a0 = b0 ∧ a1 = b1 := by cases h; exact ⟨rfl, rfl⟩
theorem qinj3 {T0 T1 T2 : Type} {a0 : T0} {a1 : T1} {a2 : T2} {b0 : T0} {b1 : T1} {b2 : T2} (h : some (a0, a1, a2) = some (b0, b1, b2)) : a0 = b0 ∧ a1 = b1 ∧ a2 = b2 := by cases h; exact ⟨rfl, rfl, rfl⟩
theorem qinj4 {T0 T1 T2 T3 : Type} {a0 : T0} {a1 : T1} {a2 : T2} {a3 : T3} {b0 : T0} {b1 : T1} {b2 : T2} {b3 : T3} (h : some (a0, a1, a2, a3) = some (b0, b1, b2, b3)) : a0 = b0 ∧ a1 = b1 ∧ a2 = b2 ∧ a3 = b3 := by cases h; exact ⟨rfl, rfl, rfl, rfl⟩
theorem qinj5 {T0 T1 T2 T3 T4 : Type} {a0 : T0} {a1 : T1} {a2 : T2} {a3 : T3} {a4 : T4} {b0 : T0} {b1 : T1} {b2 : T2} {b3 : T3} {b4 : T4} (h : some (a0, a1, a2, a3, a4) = some (b0, b1, b2, b3, b4)) : a0 = b0 ∧ a1 = b1 ∧ a2 = b2 ∧ a3 = b3 ∧ a4 = b4 := by cases h; exact ⟨rfl, rfl, rfl, rfl, rfl⟩
theorem qinj6 {T0 T1 T2 T3 T4 T5 : Type} {a0 : T0} {a1 : T1} {a2 : T2} {a3 : T3} {a4 : T4} {a5 : T5} {b0 : T0} {b1 : T1} {b2 : T2} {b3 : T3} {b4 : T4} {b5 : T5} (h : some (a0, a1, a2, a3, a4, a5) = some (b0, b1, b2, b3, b4, b5)) : a0 = b0 ∧ a1 = b1 ∧ a2 = b2 ∧ a3 = b3 ∧ a4 = b4 ∧ a5 = b5 := by cases h; exact ⟨rfl, rfl, rfl, rfl, rfl, rfl⟩
theorem qinj7 {T0 T1 T2 T3 T4 T5 T6 : Type} {a0 : T0} {a1 : T1} {a2 : T2} {a3 : T3} {a4 : T4} {a5 : T5} {a6 : T6} {b0 : T0} {b1 : T1} {b2 : T2} {b3 : T3} {b4 : T4} {b5 : T5} {b6 : T6} (h : some (a0, a1, a2, a3, a4, a5, a6) = some (b0, b1, b2, b3, b4, b5, b6)) : a0 = b0 ∧ a1 = b1 ∧ a2 = b2 ∧ a3 = b3 ∧ a4 = b4 ∧ a5 = b5 ∧ a6 = b6 := by cases h; exact ⟨rfl, rfl, rfl, rfl, rfl, rfl, rfl⟩
theorem qite {α : Type} {c : Prop} {i : Decidable c} {a b : Option α} {r : α} (h : (@ite _ c i a b) = some r) : (c ∧ a = some r) ∨ (¬ c ∧ b = some r) := by
  by_cases hc : c
  · rw [if_pos hc] at h; exact Or.inl ⟨hc, h⟩
  · rw [if_neg hc] at h; exact Or.inr ⟨hc, h⟩
theorem qchk {α : Type} {c : Prop} {i : Decidable c} {a : Option α} {r : α} (h : (@ite _ c i none a) = some r) : ¬ c ∧ a = some r := by
  rcases qite h with ⟨_, h⟩ | h
  · cases h
  · exact h
theorem qreq {α : Type} {c : Prop} {i : Decidable c} {a : Option α} {r : α} (h : (@ite _ c i a none) = some r) : c ∧ a = some r := by
  rcases qite h with h | ⟨_, h⟩
  · exact h
  · cases h
section RRules2
variable {d : Nat} {cd : List (Nat × qOp)} {kk : Nat × Nat} {pc n : Nat} {ls st : List Value} {h h1 : qN} {v : Option Value}
theorem R_aldC {a N : Nat} {i : Int32} (j : Nat) (hl : cd.lookup pc = some (oALd n)) (hs : SH[a]? = some (.inr (.inl N))) (hi : ¬ (i < 0 ∨ N ≤ i.toNatClampNeg) ∧ i.toNatClampNeg = j) (kt : RR d cd kk n ls (.int (h a j) :: st) h v h1) : RR d cd kk pc ls (.int i :: .ref a :: st) h v h1 := by
  obtain ⟨hi, rfl⟩ := hi
  exact R_ald hl hs hi kt
theorem R_astC {a N : Nat} {i x : Int32} (j : Nat) (hl : cd.lookup pc = some (oASt n)) (hs : SH[a]? = some (.inr (.inl N))) (hi : ¬ (i < 0 ∨ N ≤ i.toNatClampNeg) ∧ i.toNatClampNeg = j) (kt : RR d cd kk n ls st (qup h a j x) v h1) : RR d cd kk pc ls (.int x :: .int i :: .ref a :: st) h v h1 := by
  obtain ⟨hi, rfl⟩ := hi
  exact R_ast hl hs hi kt
theorem R_copyN {a a0 n0 n1 : Nat} {z dp sp : Int32} (s' d' z' : Nat) (hl : cd.lookup pc = some (oCopy n)) (hs0 : SH[a0]? = some (.inr (.inl n0))) (hs1 : SH[a]? = some (.inr (.inl n1))) (e1 : sp.toNatClampNeg = s') (e2 : dp.toNatClampNeg = d') (e3 : z.toNatClampNeg = z') (hc : ¬ sp < 0 ∧ ¬ dp < 0 ∧ ¬ z < 0 ∧ s' + z' ≤ n0 ∧ d' + z' ≤ n1) (h8 : qcat st ≤ 8)
    (kt : RR d cd kk n ls st (qrow h a (va_cpy (h a0) (h a) s' d' z')) v h1) : RR d cd kk pc ls (.int z :: .int dp :: .ref a :: .int sp :: .ref a0 :: st) h v h1 := by
  subst e1; subst e2; subst e3
  exact R_copy hl hs0 hs1 hc h8 kt
theorem R_callSi {y na mc ms : Nat} {as rest : List Value} {w : Int32} {h2 : qN} (hl : cd.lookup pc = some (oCallS y na 0 0 mc ms n)) (h0 : decide (na ≤ st.length) = true) (h8 : decide (qcat (st.drop na) ≤ 8) = true) (hk : decide (kk.1 ≤ mc ∧ kk.2 ≤ ms) = true) (has : (st.take na).reverse = as) (hr : st.drop na = rest)
    (hE : EE d y as h (some (.int w)) h2) (kt : RR d cd kk n ls (.int w :: rest) h2 v h1) : RR d cd kk pc ls st h v h1 := R_callS hl h0 h8 hk has hr hE kt
theorem R_callSv {y na mc ms : Nat} {as rest : List Value} {h2 : qN} (hl : cd.lookup pc = some (oCallS y na 0 0 mc ms n)) (h0 : decide (na ≤ st.length) = true) (h8 : decide (qcat (st.drop na) ≤ 8) = true) (hk : decide (kk.1 ≤ mc ∧ kk.2 ≤ ms) = true) (has : (st.take na).reverse = as) (hr : st.drop na = rest)
    (hE : EE d y as h none h2) (kt : RR d cd kk n ls rest h2 v h1) : RR d cd kk pc ls st h v h1 := R_callS hl h0 h8 hk has hr hE kt
theorem R_callVi {y ci na mc ms o : Nat} {fs : List qF} {as rest : List Value} {w : Int32} {h2 : qN} (hl : cd.lookup pc = some (oCallV y ci na 0 0 mc ms n)) (ho : st[na]? = some (.ref o)) (hs : SH[o]? = some (.inl (ci, fs))) (h8 : decide (qcat (st.drop (na + 1)) ≤ 8) = true) (hk : decide (kk.1 ≤ mc ∧ kk.2 ≤ ms) = true) (has : .ref o :: (st.take na).reverse = as) (hr : st.drop (na + 1) = rest)
    (hE : EE d y as h (some (.int w)) h2) (kt : RR d cd kk n ls (.int w :: rest) h2 v h1) : RR d cd kk pc ls st h v h1 := R_callV hl ho hs h8 hk has hr hE kt
theorem R_callVv {y ci na mc ms o : Nat} {fs : List qF} {as rest : List Value} {h2 : qN} (hl : cd.lookup pc = some (oCallV y ci na 0 0 mc ms n)) (ho : st[na]? = some (.ref o)) (hs : SH[o]? = some (.inl (ci, fs))) (h8 : decide (qcat (st.drop (na + 1)) ≤ 8) = true) (hk : decide (kk.1 ≤ mc ∧ kk.2 ≤ ms) = true) (has : .ref o :: (st.take na).reverse = as) (hr : st.drop (na + 1) = rest)
    (hE : EE d y as h none h2) (kt : RR d cd kk n ls rest h2 v h1) : RR d cd kk pc ls st h v h1 := R_callV hl ho hs h8 hk has hr hE kt
end RRules2
