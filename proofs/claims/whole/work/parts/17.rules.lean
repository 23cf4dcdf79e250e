/-! ===== the heap behind the constructors; a rule for each op ===== -/
abbrev qN : Type := Nat → Nat → Int32
def SH : List qS := [
  .inl (5, [some (some 1), some (some 10), none, some (some 19), some (some 24), some (some 48), some (some 51)]),
  .inl (4, [some (some 2), some (some 7), some (some 8), some (some 9), none]),
  .inl (0, [some (some 3), some (some 4), some (some 5), some (some 6), none, none, none]),
  .inr (.inl 2),
  .inr (.inl 8),
  .inr (.inl 12),
  .inr (.inl 12),
  .inr (.inl 6),
  .inr (.inl 6),
  .inr (.inl 48),
  .inl (4, [some (some 11), some (some 16), some (some 17), some (some 18), none]),
  .inl (0, [some (some 12), some (some 13), some (some 14), some (some 15), none, none, none]),
  .inr (.inl 2),
  .inr (.inl 8),
  .inr (.inl 12),
  .inr (.inl 12),
  .inr (.inl 6),
  .inr (.inl 6),
  .inr (.inl 48),
  .inl (0, [some (some 20), some (some 21), some (some 22), some (some 23), none, none, none]),
  .inr (.inl 2),
  .inr (.inl 8),
  .inr (.inl 12),
  .inr (.inl 12),
  .inl (1, [some (some 25), some (some 26), some (some 27), none, none]),
  .inr (.inr (0, 4, [some 28, some 33, some 38, some 43])),
  .inr (.inl 3),
  .inr (.inl 3),
  .inl (0, [some (some 29), some (some 30), some (some 31), some (some 32), none, none, none]),
  .inr (.inl 2),
  .inr (.inl 8),
  .inr (.inl 12),
  .inr (.inl 12),
  .inl (0, [some (some 34), some (some 35), some (some 36), some (some 37), none, none, none]),
  .inr (.inl 2),
  .inr (.inl 8),
  .inr (.inl 12),
  .inr (.inl 12),
  .inl (0, [some (some 39), some (some 40), some (some 41), some (some 42), none, none, none]),
  .inr (.inl 2),
  .inr (.inl 8),
  .inr (.inl 12),
  .inr (.inl 12),
  .inl (0, [some (some 44), some (some 45), some (some 46), some (some 47), none, none, none]),
  .inr (.inl 2),
  .inr (.inl 8),
  .inr (.inl 12),
  .inr (.inl 12),
  .inl (3, [some (some 49), none, none, some (some 50)]),
  .inr (.inl 80),
  .inr (.inl 56),
  .inr (.inr (1, 4, [some 52, some 54, some 56, some 58])),
  .inl (2, [some (some 53), none, none, none]),
  .inr (.inl 24),
  .inl (2, [some (some 55), none, none, none]),
  .inr (.inl 24),
  .inl (2, [some (some 57), none, none, none]),
  .inr (.inl 24),
  .inl (2, [some (some 59), none, none, none]),
  .inr (.inl 24),
  .inl (6, [some (some 61), some (some 62), some (some 63), none, some (some 64), some (some 65), none, some (some 66), some (some 67), none, none, some (some 68), none, none, none, some (some 69), some (some 70), some (some 71), some (some 72), none, some (some 73), some (some 74), none, some (some 75), none, some (some 76), some (some 77), some (some 78), some (some 79)]),
  .inr (.inl 6),
  .inr (.inl 6),
  .inr (.inl 2),
  .inr (.inl 8),
  .inr (.inl 48),
  .inr (.inl 12),
  .inr (.inl 12),
  .inr (.inl 80),
  .inr (.inl 56),
  .inr (.inl 8),
  .inr (.inl 12),
  .inr (.inl 12),
  .inr (.inl 3),
  .inr (.inl 3),
  .inr (.inl 110),
  .inr (.inl 4),
  .inr (.inl 4),
  .inr (.inl 96),
  .inr (.inl 24)]
theorem sh_0 : SH[0]? = some (.inl (5, [some (some 1), some (some 10), none, some (some 19), some (some 24), some (some 48), some (some 51)])) := rfl
theorem sh_1 : SH[1]? = some (.inl (4, [some (some 2), some (some 7), some (some 8), some (some 9), none])) := rfl
theorem sh_2 : SH[2]? = some (.inl (0, [some (some 3), some (some 4), some (some 5), some (some 6), none, none, none])) := rfl
theorem sh_3 : SH[3]? = some (.inr (.inl 2)) := rfl
theorem sh_4 : SH[4]? = some (.inr (.inl 8)) := rfl
theorem sh_5 : SH[5]? = some (.inr (.inl 12)) := rfl
theorem sh_6 : SH[6]? = some (.inr (.inl 12)) := rfl
theorem sh_7 : SH[7]? = some (.inr (.inl 6)) := rfl
theorem sh_8 : SH[8]? = some (.inr (.inl 6)) := rfl
theorem sh_9 : SH[9]? = some (.inr (.inl 48)) := rfl
theorem sh_10 : SH[10]? = some (.inl (4, [some (some 11), some (some 16), some (some 17), some (some 18), none])) := rfl
theorem sh_11 : SH[11]? = some (.inl (0, [some (some 12), some (some 13), some (some 14), some (some 15), none, none, none])) := rfl
theorem sh_12 : SH[12]? = some (.inr (.inl 2)) := rfl
theorem sh_13 : SH[13]? = some (.inr (.inl 8)) := rfl
theorem sh_14 : SH[14]? = some (.inr (.inl 12)) := rfl
theorem sh_15 : SH[15]? = some (.inr (.inl 12)) := rfl
theorem sh_16 : SH[16]? = some (.inr (.inl 6)) := rfl
theorem sh_17 : SH[17]? = some (.inr (.inl 6)) := rfl
theorem sh_18 : SH[18]? = some (.inr (.inl 48)) := rfl
theorem sh_19 : SH[19]? = some (.inl (0, [some (some 20), some (some 21), some (some 22), some (some 23), none, none, none])) := rfl
theorem sh_20 : SH[20]? = some (.inr (.inl 2)) := rfl
theorem sh_21 : SH[21]? = some (.inr (.inl 8)) := rfl
theorem sh_22 : SH[22]? = some (.inr (.inl 12)) := rfl
theorem sh_23 : SH[23]? = some (.inr (.inl 12)) := rfl
theorem sh_24 : SH[24]? = some (.inl (1, [some (some 25), some (some 26), some (some 27), none, none])) := rfl
theorem sh_25 : SH[25]? = some (.inr (.inr (0, 4, [some 28, some 33, some 38, some 43]))) := rfl
theorem sh_26 : SH[26]? = some (.inr (.inl 3)) := rfl
theorem sh_27 : SH[27]? = some (.inr (.inl 3)) := rfl
theorem sh_28 : SH[28]? = some (.inl (0, [some (some 29), some (some 30), some (some 31), some (some 32), none, none, none])) := rfl
theorem sh_29 : SH[29]? = some (.inr (.inl 2)) := rfl
theorem sh_30 : SH[30]? = some (.inr (.inl 8)) := rfl
theorem sh_31 : SH[31]? = some (.inr (.inl 12)) := rfl
theorem sh_32 : SH[32]? = some (.inr (.inl 12)) := rfl
theorem sh_33 : SH[33]? = some (.inl (0, [some (some 34), some (some 35), some (some 36), some (some 37), none, none, none])) := rfl
theorem sh_34 : SH[34]? = some (.inr (.inl 2)) := rfl
theorem sh_35 : SH[35]? = some (.inr (.inl 8)) := rfl
theorem sh_36 : SH[36]? = some (.inr (.inl 12)) := rfl
theorem sh_37 : SH[37]? = some (.inr (.inl 12)) := rfl
theorem sh_38 : SH[38]? = some (.inl (0, [some (some 39), some (some 40), some (some 41), some (some 42), none, none, none])) := rfl
theorem sh_39 : SH[39]? = some (.inr (.inl 2)) := rfl
theorem sh_40 : SH[40]? = some (.inr (.inl 8)) := rfl
theorem sh_41 : SH[41]? = some (.inr (.inl 12)) := rfl
theorem sh_42 : SH[42]? = some (.inr (.inl 12)) := rfl
theorem sh_43 : SH[43]? = some (.inl (0, [some (some 44), some (some 45), some (some 46), some (some 47), none, none, none])) := rfl
theorem sh_44 : SH[44]? = some (.inr (.inl 2)) := rfl
theorem sh_45 : SH[45]? = some (.inr (.inl 8)) := rfl
theorem sh_46 : SH[46]? = some (.inr (.inl 12)) := rfl
theorem sh_47 : SH[47]? = some (.inr (.inl 12)) := rfl
theorem sh_48 : SH[48]? = some (.inl (3, [some (some 49), none, none, some (some 50)])) := rfl
theorem sh_49 : SH[49]? = some (.inr (.inl 80)) := rfl
theorem sh_50 : SH[50]? = some (.inr (.inl 56)) := rfl
theorem sh_51 : SH[51]? = some (.inr (.inr (1, 4, [some 52, some 54, some 56, some 58]))) := rfl
theorem sh_52 : SH[52]? = some (.inl (2, [some (some 53), none, none, none])) := rfl
theorem sh_53 : SH[53]? = some (.inr (.inl 24)) := rfl
theorem sh_54 : SH[54]? = some (.inl (2, [some (some 55), none, none, none])) := rfl
theorem sh_55 : SH[55]? = some (.inr (.inl 24)) := rfl
theorem sh_56 : SH[56]? = some (.inl (2, [some (some 57), none, none, none])) := rfl
theorem sh_57 : SH[57]? = some (.inr (.inl 24)) := rfl
theorem sh_58 : SH[58]? = some (.inl (2, [some (some 59), none, none, none])) := rfl
theorem sh_59 : SH[59]? = some (.inr (.inl 24)) := rfl
theorem sh_60 : SH[60]? = some (.inl (6, [some (some 61), some (some 62), some (some 63), none, some (some 64), some (some 65), none, some (some 66), some (some 67), none, none, some (some 68), none, none, none, some (some 69), some (some 70), some (some 71), some (some 72), none, some (some 73), some (some 74), none, some (some 75), none, some (some 76), some (some 77), some (some 78), some (some 79)])) := rfl
theorem sh_61 : SH[61]? = some (.inr (.inl 6)) := rfl
theorem sh_62 : SH[62]? = some (.inr (.inl 6)) := rfl
theorem sh_63 : SH[63]? = some (.inr (.inl 2)) := rfl
theorem sh_64 : SH[64]? = some (.inr (.inl 8)) := rfl
theorem sh_65 : SH[65]? = some (.inr (.inl 48)) := rfl
theorem sh_66 : SH[66]? = some (.inr (.inl 12)) := rfl
theorem sh_67 : SH[67]? = some (.inr (.inl 12)) := rfl
theorem sh_68 : SH[68]? = some (.inr (.inl 80)) := rfl
theorem sh_69 : SH[69]? = some (.inr (.inl 56)) := rfl
theorem sh_70 : SH[70]? = some (.inr (.inl 8)) := rfl
theorem sh_71 : SH[71]? = some (.inr (.inl 12)) := rfl
theorem sh_72 : SH[72]? = some (.inr (.inl 12)) := rfl
theorem sh_73 : SH[73]? = some (.inr (.inl 3)) := rfl
theorem sh_74 : SH[74]? = some (.inr (.inl 3)) := rfl
theorem sh_75 : SH[75]? = some (.inr (.inl 110)) := rfl
theorem sh_76 : SH[76]? = some (.inr (.inl 4)) := rfl
theorem sh_77 : SH[77]? = some (.inr (.inl 4)) := rfl
theorem sh_78 : SH[78]? = some (.inr (.inl 96)) := rfl
theorem sh_79 : SH[79]? = some (.inr (.inl 24)) := rfl
/-- a court, a village, a sheet at a place -/
def isC (o : Nat) : Prop := SH[o]? = some (.inl (0, [some (some (o + 1)), some (some (o + 2)), some (some (o + 3)), some (some (o + 4)), none, none, none])) ∧ SH[o + 1]? = some (.inr (.inl 2)) ∧ SH[o + 2]? = some (.inr (.inl 8)) ∧ SH[o + 3]? = some (.inr (.inl 12)) ∧ SH[o + 4]? = some (.inr (.inl 12))
def isV (o : Nat) : Prop := SH[o]? = some (.inl (4, [some (some (o + 1)), some (some (o + 6)), some (some (o + 7)), some (some (o + 8)), none])) ∧ isC (o + 1) ∧ SH[o + 6]? = some (.inr (.inl 6)) ∧ SH[o + 7]? = some (.inr (.inl 6)) ∧ SH[o + 8]? = some (.inr (.inl 48))
def isT (o : Nat) : Prop := SH[o]? = some (.inl (2, [some (some (o + 1)), none, none, none])) ∧ SH[o + 1]? = some (.inr (.inl 24))
def isA (a n : Nat) : Prop := SH[a]? = some (.inr (.inl n))
theorem isC_2 : isC 2 := ⟨rfl, rfl, rfl, rfl, rfl⟩
theorem isC_11 : isC 11 := ⟨rfl, rfl, rfl, rfl, rfl⟩
theorem isC_19 : isC 19 := ⟨rfl, rfl, rfl, rfl, rfl⟩
theorem isC_28 : isC 28 := ⟨rfl, rfl, rfl, rfl, rfl⟩
theorem isV_1 : isV 1 := ⟨rfl, isC_2, rfl, rfl, rfl⟩
theorem isV_10 : isV 10 := ⟨rfl, isC_11, rfl, rfl, rfl⟩
theorem isC_st {i : Int32} (h : ¬ (i < 0 ∨ 4 ≤ i.toNatClampNeg)) : isC (28 + 5 * i.toNatClampNeg) ∧ ([some 28, some 33, some 38, some 43] : List (Option Nat)).getD i.toNatClampNeg none = some (28 + 5 * i.toNatClampNeg) := by
  have h2 : i.toNatClampNeg < 4 := Nat.not_le.mp fun q => h (Or.inr q)
  generalize i.toNatClampNeg = j at h2
  match j, h2 with
  | 0, _ => exact ⟨⟨rfl, rfl, rfl, rfl, rfl⟩, rfl⟩
  | 1, _ => exact ⟨⟨rfl, rfl, rfl, rfl, rfl⟩, rfl⟩
  | 2, _ => exact ⟨⟨rfl, rfl, rfl, rfl, rfl⟩, rfl⟩
  | 3, _ => exact ⟨⟨rfl, rfl, rfl, rfl, rfl⟩, rfl⟩
  | k + 4, h => omega
theorem isT_sh {i : Int32} (h : ¬ (i < 0 ∨ 4 ≤ i.toNatClampNeg)) : isT (52 + 2 * i.toNatClampNeg) ∧ ([some 52, some 54, some 56, some 58] : List (Option Nat)).getD i.toNatClampNeg none = some (52 + 2 * i.toNatClampNeg) := by
  have h2 : i.toNatClampNeg < 4 := Nat.not_le.mp fun q => h (Or.inr q)
  generalize i.toNatClampNeg = j at h2
  match j, h2 with
  | 0, _ => exact ⟨⟨rfl, rfl⟩, rfl⟩
  | 1, _ => exact ⟨⟨rfl, rfl⟩, rfl⟩
  | 2, _ => exact ⟨⟨rfl, rfl⟩, rfl⟩
  | 3, _ => exact ⟨⟨rfl, rfl⟩, rfl⟩
  | k + 4, h => omega
/-- the rest of a run, over the whole heap: from a configuration to its answer -/
def RR (d : Nat) (cd : List (Nat × qOp)) (kk : Nat × Nat) (pc : Nat) (ls st : List Value) (h : qN) (v : Option Value) (h1 : qN) : Prop :=
  ∃ (n : Nat) (c : qC), Rn (Ex qMT qCD d) cd n (pc, ls, st, (SH, h), kk) (v, c) ∧ c.2.2.2 = ((SH, h1), kk)
def EE (d y : Nat) (as : List Value) (h : qN) (v : Option Value) (h1 : qN) : Prop := Ex qMT qCD d y as (SH, h) v (SH, h1)
theorem E_intro {d y : Nat} {as ls : List Value} {h h1 : qN} {v : Option Value} {t : qM} {k : List (Nat × qOp)} (ht : qMT[y]? = some t) (hk : qCD[y]? = some k) (hl : (qEnt as).length ≤ t.2.2.1) (hls : qEn t.2.2.1 as = ls) (h0 : t.2.2.2.2 = (0, 0)) (hr : RR d k (0, 0) 0 ls [] h v h1) : EE (d + 1) y as h v h1 := by
  obtain ⟨n, c, hn, hc⟩ := hr
  subst hls
  refine ⟨t, k, n, c, ht, hk, hl, hn, by rw [hc], by rw [h0]; rfl, by rw [hc, h0]; exact Nat.le_refl _, by rw [hc, h0]; exact Nat.le_refl _⟩
section RRules
variable {d : Nat} {cd : List (Nat × qOp)} {kk : Nat × Nat} {pc n : Nat} {ls st : List Value} {h h1 : qN} {v : Option Value}
theorem R_next {op : qOp} {pc' : Nat} {ls' st' : List Value} {h' : qN} (hl : cd.lookup pc = some op) (ho : op (pc, ls, st, (SH, h), kk) = some (.inl (pc', ls', st', (SH, h'), kk))) (k : RR d cd kk pc' ls' st' h' v h1) : RR d cd kk pc ls st h v h1 := by
  obtain ⟨n, c, hn, hc⟩ := k
  refine ⟨n + 1, c, Or.inr ?_, hc⟩
  dsimp only
  rw [hl]
  dsimp only
  rw [ho]
  exact hn
theorem R_drop (mask : List Bool) {ls' : List Value} (hls : qdrp mask ls = ls') (k : RR d cd kk pc ls' st h v h1) : RR d cd kk pc ls st h v h1 := by
  obtain ⟨n, c, hn, hc⟩ := k
  subst hls
  exact ⟨n + 1, c, Or.inl ⟨mask, hn⟩, hc⟩
theorem R_I {z : Int32} (hl : cd.lookup pc = some (oI z n)) (k : RR d cd kk n ls (.int z :: st) h v h1) : RR d cd kk pc ls st h v h1 := R_next hl rfl k
theorem R_L {z : Int64} (hl : cd.lookup pc = some (oL z n)) (k : RR d cd kk n ls (.long z :: st) h v h1) : RR d cd kk pc ls st h v h1 := R_next hl rfl k
theorem R_ldI {i : Nat} {x : Int32} (hl : cd.lookup pc = some (oLdI i n)) (hx : ls[i]? = some (.int x)) (k : RR d cd kk n ls (.int x :: st) h v h1) : RR d cd kk pc ls st h v h1 := R_next hl (by simp only [oLdI, hx]) k
theorem R_ldL {i : Nat} {x : Int64} (hl : cd.lookup pc = some (oLdL i n)) (hx : ls[i]? = some (.long x)) (k : RR d cd kk n ls (.long x :: st) h v h1) : RR d cd kk pc ls st h v h1 := R_next hl (by simp only [oLdL, hx]) k
theorem R_ldA {i : Nat} {x : Nat} (hl : cd.lookup pc = some (oLdA i n)) (hx : ls[i]? = some (.ref x)) (k : RR d cd kk n ls (.ref x :: st) h v h1) : RR d cd kk pc ls st h v h1 := R_next hl (by simp only [oLdA, hx]) k
theorem R_stI {i : Nat} {x : Int32} {ls' : List Value} (hl : cd.lookup pc = some (oStI i n)) (hp : qpre ls i = true) (hi : decide (i < ls.length) = true) (hs : ls.set i (.int x) = ls') (k : RR d cd kk n ls' st h v h1) : RR d cd kk pc ls (.int x :: st) h v h1 := R_next hl (by simp only [oStI, hp, hi, hs]) k
theorem R_stA {i : Nat} {x : Nat} {ls' : List Value} (hl : cd.lookup pc = some (oStA i n)) (hp : qpre ls i = true) (hi : decide (i < ls.length) = true) (hs : ls.set i (.ref x) = ls') (k : RR d cd kk n ls' st h v h1) : RR d cd kk pc ls (.ref x :: st) h v h1 := R_next hl (by simp only [oStA, hp, hi, hs]) k
theorem R_inc {i : Nat} {x z : Int32} {ls' : List Value} (hl : cd.lookup pc = some (oInc i z n)) (hx : ls[i]? = some (.int x)) (hp : qpre ls i = true) (hs : ls.set i (.int (x + z)) = ls') (k : RR d cd kk n ls' st h v h1) : RR d cd kk pc ls st h v h1 := R_next hl (by simp only [oInc, hx, hp, hs]) k
theorem R_bin {f : Int32 → Int32 → Int32} {x y : Int32} (hl : cd.lookup pc = some (oBin f n)) (k : RR d cd kk n ls (.int (f x y) :: st) h v h1) : RR d cd kk pc ls (.int y :: .int x :: st) h v h1 := R_next hl rfl k
theorem R_div {f : Int32 → Int32 → Int32} {x y : Int32} (hl : cd.lookup pc = some (oDiv f n)) (hy : ¬ y = 0) (k : RR d cd kk n ls (.int (f x y) :: st) h v h1) : RR d cd kk pc ls (.int y :: .int x :: st) h v h1 := R_next hl (by simp only [oDiv, if_neg hy]) k
theorem R_un {f : Int32 → Int32} {x : Int32} (hl : cd.lookup pc = some (oUn f n)) (k : RR d cd kk n ls (.int (f x) :: st) h v h1) : RR d cd kk pc ls (.int x :: st) h v h1 := R_next hl rfl k
theorem R_i2l {x : Int32} (hl : cd.lookup pc = some (oI2L n)) (k : RR d cd kk n ls (.long x.toInt64 :: st) h v h1) : RR d cd kk pc ls (.int x :: st) h v h1 := R_next hl rfl k
theorem R_l2i {x : Int64} (hl : cd.lookup pc = some (oL2I n)) (k : RR d cd kk n ls (.int x.toInt32 :: st) h v h1) : RR d cd kk pc ls (.long x :: st) h v h1 := R_next hl rfl k
theorem R_lbin {f : Int64 → Int64 → Int64} {x y : Int64} (hl : cd.lookup pc = some (oLBin f n)) (k : RR d cd kk n ls (.long (f x y) :: st) h v h1) : RR d cd kk pc ls (.long y :: .long x :: st) h v h1 := R_next hl rfl k
theorem R_lsh {f : Int64 → Int32 → Int64} {x : Int64} {y : Int32} (hl : cd.lookup pc = some (oLSh f n)) (k : RR d cd kk n ls (.long (f x y) :: st) h v h1) : RR d cd kk pc ls (.int y :: .long x :: st) h v h1 := R_next hl rfl k
theorem R_lcmp {x y : Int64} (hl : cd.lookup pc = some (oLcmp n)) (k : RR d cd kk n ls (.int (lg_cmp x y) :: st) h v h1) : RR d cd kk pc ls (.long y :: .long x :: st) h v h1 := R_next hl rfl k
theorem R_dup {x : Value} (hl : cd.lookup pc = some (oDup n)) (hx : qok x = true) (k : RR d cd kk n ls (x :: x :: st) h v h1) : RR d cd kk pc ls (x :: st) h v h1 := R_next hl (by simp only [oDup, hx]) k
theorem R_dup2 {x y : Value} (hl : cd.lookup pc = some (oDup2 n)) (hx : qok x = true) (hy : qok y = true) (k : RR d cd kk n ls (x :: y :: x :: y :: st) h v h1) : RR d cd kk pc ls (x :: y :: st) h v h1 := R_next hl (by simp only [oDup2, hx, hy]) k
theorem R_pop {x : Value} (hl : cd.lookup pc = some (oPop n)) (hx : qok x = true) (k : RR d cd kk n ls st h v h1) : RR d cd kk pc ls (x :: st) h v h1 := R_next hl (by simp only [oPop, hx]) k
theorem R_goto (hl : cd.lookup pc = some (oGoto n)) (k : RR d cd kk n ls st h v h1) : RR d cd kk pc ls st h v h1 := R_next hl rfl k
theorem R_IfEq_t {x : Int32} {t : Nat} (hl : cd.lookup pc = some (oIfEq t n)) (hc : x = 0) (k : RR d cd kk t ls st h v h1) : RR d cd kk pc ls (.int x :: st) h v h1 := R_next hl (by simp only [oIfEq, if_pos hc]) k
theorem R_IfEq_f {x : Int32} {t : Nat} (hl : cd.lookup pc = some (oIfEq t n)) (hc : ¬ (x = 0)) (k : RR d cd kk n ls st h v h1) : RR d cd kk pc ls (.int x :: st) h v h1 := R_next hl (by simp only [oIfEq, if_neg hc]) k
theorem R_IfNe_t {x : Int32} {t : Nat} (hl : cd.lookup pc = some (oIfNe t n)) (hc : ¬ x = 0) (k : RR d cd kk t ls st h v h1) : RR d cd kk pc ls (.int x :: st) h v h1 := R_next hl (by simp only [oIfNe, if_pos hc]) k
theorem R_IfNe_f {x : Int32} {t : Nat} (hl : cd.lookup pc = some (oIfNe t n)) (hc : x = 0) (k : RR d cd kk n ls st h v h1) : RR d cd kk pc ls (.int x :: st) h v h1 := R_next hl (by simp only [oIfNe, if_neg (fun z : ¬ x = 0 => z hc)]) k
theorem R_IfLt_t {x : Int32} {t : Nat} (hl : cd.lookup pc = some (oIfLt t n)) (hc : x < 0) (k : RR d cd kk t ls st h v h1) : RR d cd kk pc ls (.int x :: st) h v h1 := R_next hl (by simp only [oIfLt, if_pos hc]) k
theorem R_IfLt_f {x : Int32} {t : Nat} (hl : cd.lookup pc = some (oIfLt t n)) (hc : ¬ (x < 0)) (k : RR d cd kk n ls st h v h1) : RR d cd kk pc ls (.int x :: st) h v h1 := R_next hl (by simp only [oIfLt, if_neg hc]) k
theorem R_IfGe_t {x : Int32} {t : Nat} (hl : cd.lookup pc = some (oIfGe t n)) (hc : 0 ≤ x) (k : RR d cd kk t ls st h v h1) : RR d cd kk pc ls (.int x :: st) h v h1 := R_next hl (by simp only [oIfGe, if_pos hc]) k
theorem R_IfGe_f {x : Int32} {t : Nat} (hl : cd.lookup pc = some (oIfGe t n)) (hc : ¬ (0 ≤ x)) (k : RR d cd kk n ls st h v h1) : RR d cd kk pc ls (.int x :: st) h v h1 := R_next hl (by simp only [oIfGe, if_neg hc]) k
theorem R_IfGt_t {x : Int32} {t : Nat} (hl : cd.lookup pc = some (oIfGt t n)) (hc : 0 < x) (k : RR d cd kk t ls st h v h1) : RR d cd kk pc ls (.int x :: st) h v h1 := R_next hl (by simp only [oIfGt, if_pos hc]) k
theorem R_IfGt_f {x : Int32} {t : Nat} (hl : cd.lookup pc = some (oIfGt t n)) (hc : ¬ (0 < x)) (k : RR d cd kk n ls st h v h1) : RR d cd kk pc ls (.int x :: st) h v h1 := R_next hl (by simp only [oIfGt, if_neg hc]) k
theorem R_IfLe_t {x : Int32} {t : Nat} (hl : cd.lookup pc = some (oIfLe t n)) (hc : x ≤ 0) (k : RR d cd kk t ls st h v h1) : RR d cd kk pc ls (.int x :: st) h v h1 := R_next hl (by simp only [oIfLe, if_pos hc]) k
theorem R_IfLe_f {x : Int32} {t : Nat} (hl : cd.lookup pc = some (oIfLe t n)) (hc : ¬ (x ≤ 0)) (k : RR d cd kk n ls st h v h1) : RR d cd kk pc ls (.int x :: st) h v h1 := R_next hl (by simp only [oIfLe, if_neg hc]) k
theorem R_CmEq_t {x y : Int32} {t : Nat} (hl : cd.lookup pc = some (oCmEq t n)) (hc : x = y) (k : RR d cd kk t ls st h v h1) : RR d cd kk pc ls (.int y :: .int x :: st) h v h1 := R_next hl (by simp only [oCmEq, if_pos hc]) k
theorem R_CmEq_f {x y : Int32} {t : Nat} (hl : cd.lookup pc = some (oCmEq t n)) (hc : ¬ (x = y)) (k : RR d cd kk n ls st h v h1) : RR d cd kk pc ls (.int y :: .int x :: st) h v h1 := R_next hl (by simp only [oCmEq, if_neg hc]) k
theorem R_CmNe_t {x y : Int32} {t : Nat} (hl : cd.lookup pc = some (oCmNe t n)) (hc : ¬ x = y) (k : RR d cd kk t ls st h v h1) : RR d cd kk pc ls (.int y :: .int x :: st) h v h1 := R_next hl (by simp only [oCmNe, if_pos hc]) k
theorem R_CmNe_f {x y : Int32} {t : Nat} (hl : cd.lookup pc = some (oCmNe t n)) (hc : x = y) (k : RR d cd kk n ls st h v h1) : RR d cd kk pc ls (.int y :: .int x :: st) h v h1 := R_next hl (by simp only [oCmNe, if_neg (fun z : ¬ x = y => z hc)]) k
theorem R_CmLt_t {x y : Int32} {t : Nat} (hl : cd.lookup pc = some (oCmLt t n)) (hc : x < y) (k : RR d cd kk t ls st h v h1) : RR d cd kk pc ls (.int y :: .int x :: st) h v h1 := R_next hl (by simp only [oCmLt, if_pos hc]) k
theorem R_CmLt_f {x y : Int32} {t : Nat} (hl : cd.lookup pc = some (oCmLt t n)) (hc : ¬ (x < y)) (k : RR d cd kk n ls st h v h1) : RR d cd kk pc ls (.int y :: .int x :: st) h v h1 := R_next hl (by simp only [oCmLt, if_neg hc]) k
theorem R_CmGe_t {x y : Int32} {t : Nat} (hl : cd.lookup pc = some (oCmGe t n)) (hc : y ≤ x) (k : RR d cd kk t ls st h v h1) : RR d cd kk pc ls (.int y :: .int x :: st) h v h1 := R_next hl (by simp only [oCmGe, if_pos hc]) k
theorem R_CmGe_f {x y : Int32} {t : Nat} (hl : cd.lookup pc = some (oCmGe t n)) (hc : ¬ (y ≤ x)) (k : RR d cd kk n ls st h v h1) : RR d cd kk pc ls (.int y :: .int x :: st) h v h1 := R_next hl (by simp only [oCmGe, if_neg hc]) k
theorem R_CmGt_t {x y : Int32} {t : Nat} (hl : cd.lookup pc = some (oCmGt t n)) (hc : y < x) (k : RR d cd kk t ls st h v h1) : RR d cd kk pc ls (.int y :: .int x :: st) h v h1 := R_next hl (by simp only [oCmGt, if_pos hc]) k
theorem R_CmGt_f {x y : Int32} {t : Nat} (hl : cd.lookup pc = some (oCmGt t n)) (hc : ¬ (y < x)) (k : RR d cd kk n ls st h v h1) : RR d cd kk pc ls (.int y :: .int x :: st) h v h1 := R_next hl (by simp only [oCmGt, if_neg hc]) k
theorem R_CmLe_t {x y : Int32} {t : Nat} (hl : cd.lookup pc = some (oCmLe t n)) (hc : x ≤ y) (k : RR d cd kk t ls st h v h1) : RR d cd kk pc ls (.int y :: .int x :: st) h v h1 := R_next hl (by simp only [oCmLe, if_pos hc]) k
theorem R_CmLe_f {x y : Int32} {t : Nat} (hl : cd.lookup pc = some (oCmLe t n)) (hc : ¬ (x ≤ y)) (k : RR d cd kk n ls st h v h1) : RR d cd kk pc ls (.int y :: .int x :: st) h v h1 := R_next hl (by simp only [oCmLe, if_neg hc]) k
theorem R_sw {x : Int32} {lo : Int} {ts : List Nat} {t0 t : Nat} (hl : cd.lookup pc = some (oSw lo ts t0)) (hc : (if x.toInt < lo ∨ lo + (ts.length : Int) - 1 < x.toInt then t0 else ts.getD (x.toInt - lo).toNat t0) = t) (k : RR d cd kk t ls st h v h1) : RR d cd kk pc ls (.int x :: st) h v h1 := R_next hl (by simp only [oSw, hc]) k
theorem sw_def {x : Int32} {lo : Int} {ts : List Nat} {t0 : Nat} (h : ∀ j : Nat, j < ts.length → ¬ x = Int32.ofInt (lo + j)) : (if x.toInt < lo ∨ lo + (ts.length : Int) - 1 < x.toInt then t0 else ts.getD (x.toInt - lo).toNat t0) = t0 := by
  by_cases hc : x.toInt < lo ∨ lo + (ts.length : Int) - 1 < x.toInt
  · rw [if_pos hc]
  · have hj : (x.toInt - lo).toNat < ts.length := by omega
    refine absurd ?_ (h _ hj)
    have e : lo + ((x.toInt - lo).toNat : Int) = x.toInt := by omega
    rw [e, Int32.ofInt_toInt]
theorem R_get {ci k o : Nat} {fs : List qF} {f : qF} {w : Value} (hl : cd.lookup pc = some (oGet ci k n)) (hs : SH[o]? = some (.inl (ci, fs))) (hf : fs[k]? = some f) (hw : qfa h o k f = w) (kt : RR d cd kk n ls (w :: st) h v h1) : RR d cd kk pc ls (.ref o :: st) h v h1 := R_next hl (by simp [oGet, hs, hf, hw]) kt
theorem R_putI {ci k o : Nat} {fs : List qF} {x : Int32} (hl : cd.lookup pc = some (oPutI ci k n)) (hs : SH[o]? = some (.inl (ci, fs))) (hf : fs[k]? = some none) (kt : RR d cd kk n ls st (qup h o k x) v h1) : RR d cd kk pc ls (.int x :: .ref o :: st) h v h1 := R_next hl (by simp [oPutI, hs, hf]) kt
theorem R_putZ {ci k o : Nat} {fs : List qF} {x : Int32} (hl : cd.lookup pc = some (oPutZ ci k n)) (hs : SH[o]? = some (.inl (ci, fs))) (hf : fs[k]? = some none) (hx : x = 0 ∨ x = 1) (kt : RR d cd kk n ls st (qup h o k x) v h1) : RR d cd kk pc ls (.int x :: .ref o :: st) h v h1 := R_next hl (by simp [oPutZ, hs, hf, hx]) kt
theorem R_ald {a N : Nat} {i : Int32} (hl : cd.lookup pc = some (oALd n)) (hs : SH[a]? = some (.inr (.inl N))) (hi : ¬ (i < 0 ∨ N ≤ i.toNatClampNeg)) (kt : RR d cd kk n ls (.int (h a i.toNatClampNeg) :: st) h v h1) : RR d cd kk pc ls (.int i :: .ref a :: st) h v h1 := R_next hl (by simp only [oALd, hs, if_neg hi]) kt
theorem R_ast {a N : Nat} {i x : Int32} (hl : cd.lookup pc = some (oASt n)) (hs : SH[a]? = some (.inr (.inl N))) (hi : ¬ (i < 0 ∨ N ≤ i.toNatClampNeg)) (kt : RR d cd kk n ls st (qup h a i.toNatClampNeg x) v h1) : RR d cd kk pc ls (.int x :: .int i :: .ref a :: st) h v h1 := R_next hl (by simp only [oASt, hs, if_neg hi]) kt
theorem R_aald {a N t p : Nat} {rs : List (Option Nat)} {i : Int32} (hl : cd.lookup pc = some (oAALd n)) (hs : SH[a]? = some (.inr (.inr (t, N, rs)))) (hi : ¬ (i < 0 ∨ N ≤ i.toNatClampNeg)) (hp : rs.getD i.toNatClampNeg none = some p) (kt : RR d cd kk n ls (.ref p :: st) h v h1) : RR d cd kk pc ls (.int i :: .ref a :: st) h v h1 := R_next hl (by simp only [oAALd, hs, if_neg hi, hp, qrf]) kt
theorem R_len {a N : Nat} {z : Int32} (hl : cd.lookup pc = some (oLen n)) (hs : SH[a]? = some (.inr (.inl N))) (hz : Int32.ofNat N = z) (kt : RR d cd kk n ls (.int z :: st) h v h1) : RR d cd kk pc ls (.ref a :: st) h v h1 := R_next hl (by simp only [oLen, hs, hz]) kt
theorem R_lenR {a N t : Nat} {rs : List (Option Nat)} {z : Int32} (hl : cd.lookup pc = some (oLen n)) (hs : SH[a]? = some (.inr (.inr (t, N, rs)))) (hz : Int32.ofNat N = z) (kt : RR d cd kk n ls (.int z :: st) h v h1) : RR d cd kk pc ls (.ref a :: st) h v h1 := R_next hl (by simp only [oLen, hs, hz]) kt
theorem R_copy {a a0 n0 n1 : Nat} {z dp sp : Int32} (hl : cd.lookup pc = some (oCopy n)) (hs0 : SH[a0]? = some (.inr (.inl n0))) (hs1 : SH[a]? = some (.inr (.inl n1))) (hc : ¬ sp < 0 ∧ ¬ dp < 0 ∧ ¬ z < 0 ∧ sp.toNatClampNeg + z.toNatClampNeg ≤ n0 ∧ dp.toNatClampNeg + z.toNatClampNeg ≤ n1) (h8 : qcat st ≤ 8)
    (kt : RR d cd kk n ls st (qrow h a (va_cpy (h a0) (h a) sp.toNatClampNeg dp.toNatClampNeg z.toNatClampNeg)) v h1) : RR d cd kk pc ls (.int z :: .int dp :: .ref a :: .int sp :: .ref a0 :: st) h v h1 := R_next hl (by simp only [oCopy, hs0, hs1]; rw [if_pos ⟨hc.1, hc.2.1, hc.2.2.1, hc.2.2.2.1, hc.2.2.2.2, h8⟩]) kt
theorem R_min {mc ms : Nat} {x y : Int32} (hl : cd.lookup pc = some (oMin mc ms n)) (h8 : decide (qcat st ≤ 8) = true) (hk : decide (kk.1 ≤ mc ∧ kk.2 ≤ ms) = true) (kt : RR d cd kk n ls (.int (if y < x then y else x) :: st) h v h1) : RR d cd kk pc ls (.int y :: .int x :: st) h v h1 := R_next hl (by simp only [oMin, h8, hk]) kt
theorem R_max {mc ms : Nat} {x y : Int32} (hl : cd.lookup pc = some (oMax mc ms n)) (h8 : decide (qcat st ≤ 8) = true) (hk : decide (kk.1 ≤ mc ∧ kk.2 ≤ ms) = true) (kt : RR d cd kk n ls (.int (if x < y then y else x) :: st) h v h1) : RR d cd kk pc ls (.int y :: .int x :: st) h v h1 := R_next hl (by simp only [oMax, h8, hk]) kt
theorem R_sld {L : Nat} {xs : Nat → Int32} {i : Int32} (hl : cd.lookup pc = some (oSLd L xs n)) (hi : ¬ (i < 0 ∨ L ≤ i.toNatClampNeg)) (kt : RR d cd kk n ls (.int (xs i.toNatClampNeg) :: st) h v h1) : RR d cd kk pc ls (.int i :: .ref qSCR :: st) h v h1 := R_next hl (by simp only [oSLd]; rw [if_pos ⟨trivial, hi⟩]) kt
theorem R_slen {L : Nat} (hl : cd.lookup pc = some (oSLen L n)) (kt : RR d cd kk n ls (.int (Int32.ofNat L) :: st) h v h1) : RR d cd kk pc ls (.ref qSCR :: st) h v h1 := R_next hl (by simp only [oSLen, if_true]) kt
theorem R_call {op : qOp} {y : Nat} {as ls' rest : List Value} {w : Option Value} {h2 : qN} (hl : cd.lookup pc = some op) (ho : op (pc, ls, st, (SH, h), kk) = some (.inr (.inl (y, as, (n, ls', rest, (SH, h), kk))))) (hE : EE d y as h w h2) (kt : RR d cd kk n ls' (w.toList ++ rest) h2 v h1) : RR d cd kk pc ls st h v h1 := by
  obtain ⟨k, c, hn, hc⟩ := kt
  refine ⟨k + 1, c, Or.inr ?_, hc⟩
  dsimp only
  rw [hl]
  dsimp only
  rw [ho]
  exact ⟨w, (SH, h2), hE, hn⟩
theorem R_callS {y na mc ms : Nat} {as rest : List Value} {w : Option Value} {h2 : qN} (hl : cd.lookup pc = some (oCallS y na 0 0 mc ms n)) (h0 : decide (na ≤ st.length) = true) (h8 : decide (qcat (st.drop na) ≤ 8) = true) (hk : decide (kk.1 ≤ mc ∧ kk.2 ≤ ms) = true) (has : (st.take na).reverse = as) (hr : st.drop na = rest)
    (hE : EE d y as h w h2) (kt : RR d cd kk n ls (w.toList ++ rest) h2 v h1) : RR d cd kk pc ls st h v h1 := R_call hl (by cases kk; subst has; subst hr; dsimp only at hk; simp only [oCallS, h0, h8, hk, Nat.add_zero]) hE kt
theorem R_callV {y ci na mc ms o : Nat} {fs : List qF} {as rest : List Value} {w : Option Value} {h2 : qN} (hl : cd.lookup pc = some (oCallV y ci na 0 0 mc ms n)) (ho : st[na]? = some (.ref o)) (hs : SH[o]? = some (.inl (ci, fs))) (h8 : decide (qcat (st.drop (na + 1)) ≤ 8) = true) (hk : decide (kk.1 ≤ mc ∧ kk.2 ≤ ms) = true) (has : .ref o :: (st.take na).reverse = as) (hr : st.drop (na + 1) = rest)
    (hE : EE d y as h w h2) (kt : RR d cd kk n ls (w.toList ++ rest) h2 v h1) : RR d cd kk pc ls st h v h1 := R_call hl (by cases kk; subst has; subst hr; dsimp only at hk; simp only [oCallV, ho, hs, h8, hk, Nat.add_zero, decide_true]) hE kt
theorem R_ret {op : qOp} {w : Option Value} (hl : cd.lookup pc = some op) (ho : op (pc, ls, st, (SH, h), kk) = some (.inr (.inr (w, (pc, ls, st, (SH, h), kk))))) : RR d cd kk pc ls st h w h := by
  refine ⟨1, (pc, ls, st, (SH, h), kk), Or.inr ?_, rfl⟩
  dsimp only
  rw [hl]
  dsimp only
  rw [ho]
theorem R_retI {x : Int32} (hl : cd.lookup pc = some oRetI) : RR d cd kk pc ls [.int x] h (some (.int x)) h := R_ret hl rfl
theorem R_retZ {x : Int32} (hl : cd.lookup pc = some oRetZ) (hx : x = 0 ∨ x = 1) : RR d cd kk pc ls [.int x] h (some (.int x)) h := R_ret hl (by simp only [oRetZ, if_pos hx])
theorem R_retV (hl : cd.lookup pc = some oRetV) : RR d cd kk pc ls [] h none h := R_ret hl rfl
end RRules
theorem qc_0 : qCD[0]? = some cd_X0_init := rfl
theorem qc_1 : qCD[1]? = some cd_X0_become := rfl
theorem qc_2 : qCD[2]? = some cd_X0_isOver := rfl
theorem qc_3 : qCD[3]? = some cd_X0_standing := rfl
theorem qc_4 : qCD[4]? = some cd_X0_addSuit := rfl
theorem qc_5 : qCD[5]? = some cd_X0_settle := rfl
theorem qc_6 : qCD[6]? = some cd_X0_move := rfl
theorem qc_7 : qCD[7]? = some cd_X0_exchange := rfl
theorem qc_8 : qCD[8]? = some cd_X0_leaveSides := rfl
theorem qc_9 : qCD[9]? = some cd_X0_changeSides := rfl
theorem qc_10 : qCD[10]? = some cd_X0_marry := rfl
theorem qc_11 : qCD[11]? = some cd_X0_addThing := rfl
theorem qc_12 : qCD[12]? = some cd_X0_split := rfl
theorem qc_13 : qCD[13]? = some cd_X0_countStood := rfl
theorem qc_14 : qCD[14]? = some cd_X0_costOfAll := rfl
theorem qc_15 : qCD[15]? = some cd_X0_costTo := rfl
theorem qc_16 : qCD[16]? = some cd_X0_neverEnding := rfl
theorem qc_17 : qCD[17]? = some cd_X0_sidesOf := rfl
theorem qc_18 : qCD[18]? = some cd_X0_groupOf := rfl
theorem qc_19 : qCD[19]? = some cd_X0_widen := rfl
theorem qc_20 : qCD[20]? = some cd_X0_countGroups := rfl
theorem qc_21 : qCD[21]? = some cd_X1_init := rfl
theorem qc_22 : qCD[22]? = some cd_X1_seekFewest := rfl
theorem qc_23 : qCD[23]? = some cd_X1_endsAll := rfl
theorem qc_24 : qCD[24]? = some cd_X1_usefulThings := rfl
theorem qc_25 : qCD[25]? = some cd_X1_step := rfl
theorem qc_26 : qCD[26]? = some cd_X1_seekBest := rfl
theorem qc_27 : qCD[27]? = some cd_X1_weighRows := rfl
theorem qc_28 : qCD[28]? = some cd_X1_isSide := rfl
theorem qc_29 : qCD[29]? = some cd_X1_weigh := rfl
theorem qc_30 : qCD[30]? = some cd_X1_choose := rfl
theorem qc_31 : qCD[31]? = some cd_X2_init := rfl
theorem qc_32 : qCD[32]? = some cd_X2_begin := rfl
theorem qc_33 : qCD[33]? = some cd_X2_refuses := rfl
theorem qc_34 : qCD[34]? = some cd_X2_holds := rfl
theorem qc_35 : qCD[35]? = some cd_X2_lowestBits := rfl
theorem qc_36 : qCD[36]? = some cd_X3_init := rfl
theorem qc_37 : qCD[37]? = some cd_X3_byteOf := rfl
theorem qc_38 : qCD[38]? = some cd_X3_isPlain := rfl
theorem qc_39 : qCD[39]? = some cd_X3_add := rfl
theorem qc_40 : qCD[40]? = some cd_X3_nextSign := rfl
theorem qc_41 : qCD[41]? = some cd_X3_fault := rfl
theorem qc_42 : qCD[42]? = some cd_X3_readThings := rfl
theorem qc_43 : qCD[43]? = some cd_X3_readThing := rfl
theorem qc_44 : qCD[44]? = some cd_X3_readSuits := rfl
theorem qc_45 : qCD[45]? = some cd_X3_readSuit := rfl
theorem qc_46 : qCD[46]? = some cd_X3_sideOf := rfl
theorem qc_47 : qCD[47]? = some cd_X4_init := rfl
theorem qc_48 : qCD[48]? = some cd_X4_become := rfl
theorem qc_49 : qCD[49]? = some cd_X4_addThing := rfl
theorem qc_50 : qCD[50]? = some cd_X4_takeThings := rfl
theorem qc_51 : qCD[51]? = some cd_X4_sell := rfl
theorem qc_52 : qCD[52]? = some cd_X4_split := rfl
theorem qc_53 : qCD[53]? = some cd_X4_valueTo := rfl
theorem qc_54 : qCD[54]? = some cd_X5_init := rfl
theorem qc_55 : qCD[55]? = some cd_X5_person := rfl
theorem qc_56 : qCD[56]? = some cd_X5_rule := rfl
theorem qc_57 : qCD[57]? = some cd_X5_thing := rfl
theorem qc_58 : qCD[58]? = some cd_X5_worth := rfl
theorem qc_59 : qCD[59]? = some cd_X5_suit := rfl
theorem qc_60 : qCD[60]? = some cd_X5_told := rfl
theorem qc_61 : qCD[61]? = some cd_X5_hand := rfl
theorem qc_62 : qCD[62]? = some cd_X5_purse := rfl
theorem qc_63 : qCD[63]? = some cd_X5_value := rfl
theorem qc_64 : qCD[64]? = some cd_X5_type := rfl
theorem qc_65 : qCD[65]? = some cd_X5_village := rfl
theorem qc_66 : qCD[66]? = some cd_X5_suits := rfl
theorem qc_67 : qCD[67]? = some cd_X5_count := rfl
theorem qc_68 : qCD[68]? = some cd_X5_sale := rfl
theorem qc_69 : qCD[69]? = some cd_X5_swap := rfl
theorem qc_70 : qCD[70]? = some cd_X5_give := rfl
theorem qc_71 : qCD[71]? = some cd_X5_wed := rfl
theorem qc_72 : qCD[72]? = some cd_X5_part := rfl
theorem qc_73 : qCD[73]? = some cd_X5_gain := rfl
theorem qc_74 : qCD[74]? = some cd_X5_agreed := rfl
theorem qc_75 : qCD[75]? = some cd_X5_rest := rfl
theorem qc_76 : qCD[76]? = some cd_X5_group := rfl
theorem qc_77 : qCD[77]? = some cd_X5_never := rfl
theorem qc_78 : qCD[78]? = some cd_X5_fewest := rfl
theorem qc_79 : qCD[79]? = some cd_X5_best := rfl
theorem qc_80 : qCD[80]? = some cd_X5_saves := rfl
theorem qc_81 : qCD[81]? = some cd_X5_match := rfl
theorem qc_82 : qCD[82]? = some cd_X5_against := rfl
theorem qc_83 : qCD[83]? = some cd_X5_pays := rfl
theorem qc_84 : qCD[84]? = some cd_X5_image := rfl
theorem qc_85 : qCD[85]? = some cd_X5_restore := rfl
theorem qc_86 : qCD[86]? = some cd_X5_deal := rfl
theorem qc_87 : qCD[87]? = some cd_X5_sheet := rfl
theorem qc_88 : qCD[88]? = some cd_X5_drop := rfl
theorem qc_89 : qCD[89]? = some cd_X5_item := rfl
theorem qc_90 : qCD[90]? = some cd_X5_copy := rfl
theorem qc_91 : qCD[91]? = some cd_X5_isWithin := rfl
theorem qc_92 : qCD[92]? = some cd_X5_isPerson := rfl
theorem qc_93 : qCD[93]? = some cd_X5_isSheet := rfl
theorem qc_94 : qCD[94]? = some cd_X5_isLane := rfl
theorem qc_95 : qCD[95]? = some cd_X5_isThing := rfl
theorem qc_96 : qCD[96]? = some cd_X5_isSide := rfl
theorem qc_97 : qCD[97]? = some cd_X5_put := rfl
theorem qc_98 : qCD[98]? = some cd_X5_trySale := rfl
theorem qc_99 : qCD[99]? = some cd_X5_gainOf := rfl
theorem qc_100 : qCD[100]? = some cd_X5_makeFirstAgreed := rfl
theorem qc_101 : qCD[101]? = some cd_X5_dealOne := rfl
theorem qc_102 : qCD[102]? = some cd_X6_in := rfl
theorem qc_103 : qCD[103]? = some cd_X6_init := rfl
theorem qc_104 : qCD[104]? = some cd_X6_isPerson := rfl
theorem qc_105 : qCD[105]? = some cd_X6_isThing := rfl
theorem qc_106 : qCD[106]? = some cd_X6_isSide := rfl
theorem qc_107 : qCD[107]? = some cd_X6_stands := rfl
theorem qc_108 : qCD[108]? = some cd_X6_isOver := rfl
theorem qc_109 : qCD[109]? = some cd_X6_ends := rfl
theorem qc_110 : qCD[110]? = some cd_X6_person := rfl
theorem qc_111 : qCD[111]? = some cd_X6_rule := rfl
theorem qc_112 : qCD[112]? = some cd_X6_thing := rfl
theorem qc_113 : qCD[113]? = some cd_X6_worth := rfl
theorem qc_114 : qCD[114]? = some cd_X6_comes := rfl
theorem qc_115 : qCD[115]? = some cd_X6_suit := rfl
theorem qc_116 : qCD[116]? = some cd_X6_told := rfl
theorem qc_117 : qCD[117]? = some cd_X6_hand := rfl
theorem qc_118 : qCD[118]? = some cd_X6_purse := rfl
theorem qc_119 : qCD[119]? = some cd_X6_standsIn := rfl
theorem qc_120 : qCD[120]? = some cd_X6_valueOf := rfl
theorem qc_121 : qCD[121]? = some cd_X6_value := rfl
theorem qc_122 : qCD[122]? = some cd_X6_size := rfl
theorem qc_123 : qCD[123]? = some cd_X6_costAll := rfl
theorem qc_124 : qCD[124]? = some cd_X6_count := rfl
theorem qc_125 : qCD[125]? = some cd_X6_type := rfl
theorem qc_126 : qCD[126]? = some cd_X6_here := rfl
theorem qc_127 : qCD[127]? = some cd_X6_has := rfl
theorem qc_128 : qCD[128]? = some cd_X6_digit := rfl
theorem qc_129 : qCD[129]? = some cd_X6_thingClause := rfl
theorem qc_130 : qCD[130]? = some cd_X6_side := rfl
theorem qc_131 : qCD[131]? = some cd_X6_readAll := rfl
theorem qc_132 : qCD[132]? = some cd_X6_village := rfl
theorem qc_133 : qCD[133]? = some cd_X6_suits := rfl
theorem qc_134 : qCD[134]? = some cd_X6_stay := rfl
theorem qc_135 : qCD[135]? = some cd_X6_sells := rfl
theorem qc_136 : qCD[136]? = some cd_X6_comesTo := rfl
theorem qc_137 : qCD[137]? = some cd_X6_sale := rfl
theorem qc_138 : qCD[138]? = some cd_X6_swap := rfl
theorem qc_139 : qCD[139]? = some cd_X6_give := rfl
theorem qc_140 : qCD[140]? = some cd_X6_weds := rfl
theorem qc_141 : qCD[141]? = some cd_X6_wed := rfl
theorem qc_142 : qCD[142]? = some cd_X6_part := rfl
theorem qc_143 : qCD[143]? = some cd_X6_keeps := rfl
theorem qc_144 : qCD[144]? = some cd_X6_back := rfl
theorem qc_145 : qCD[145]? = some cd_X6_gainOf := rfl
theorem qc_146 : qCD[146]? = some cd_X6_gain := rfl
theorem qc_147 : qCD[147]? = some cd_X6_priceOf := rfl
theorem qc_148 : qCD[148]? = some cd_X6_agreed := rfl
theorem qc_149 : qCD[149]? = some cd_X6_deals := rfl
theorem qc_150 : qCD[150]? = some cd_X6_rest := rfl
theorem qc_151 : qCD[151]? = some cd_X6_groupOf := rfl
theorem qc_152 : qCD[152]? = some cd_X6_group := rfl
theorem qc_153 : qCD[153]? = some cd_X6_neverOf := rfl
theorem qc_154 : qCD[154]? = some cd_X6_never := rfl
theorem qc_155 : qCD[155]? = some cd_X6_done := rfl
theorem qc_156 : qCD[156]? = some cd_X6_notes := rfl
theorem qc_157 : qCD[157]? = some cd_X6_fewestOf := rfl
theorem qc_158 : qCD[158]? = some cd_X6_fewest := rfl
theorem qc_159 : qCD[159]? = some cd_X6_bestOf := rfl
theorem qc_160 : qCD[160]? = some cd_X6_best := rfl
theorem qc_161 : qCD[161]? = some cd_X6_savesOf := rfl
theorem qc_162 : qCD[162]? = some cd_X6_saves := rfl
theorem qc_163 : qCD[163]? = some cd_X6_match := rfl
theorem qc_164 : qCD[164]? = some cd_X6_against := rfl
theorem qc_165 : qCD[165]? = some cd_X6_pays := rfl
theorem qc_166 : qCD[166]? = some cd_X6_lay := rfl
theorem qc_167 : qCD[167]? = some cd_X6_gives := rfl
theorem qc_168 : qCD[168]? = some cd_X6_image := rfl
theorem qc_169 : qCD[169]? = some cd_X6_restore := rfl
theorem qc_170 : qCD[170]? = some cd_X6_isSheet := rfl
theorem qc_171 : qCD[171]? = some cd_X6_isLane := rfl
theorem qc_172 : qCD[172]? = some cd_X6_finds := rfl
theorem qc_173 : qCD[173]? = some cd_X6_deal := rfl
theorem qc_174 : qCD[174]? = some cd_X6_sheet := rfl
theorem qc_175 : qCD[175]? = some cd_X6_drop := rfl
theorem qc_176 : qCD[176]? = some cd_X6_item := rfl
theorem qc_177 : qCD[177]? = some cd_X6_copy := rfl
theorem qc_178 : qCD[178]? = some cd_J6_bitCount_0f7a4 := rfl
