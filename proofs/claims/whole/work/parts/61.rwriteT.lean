/-- the class's write, what it needs of the rule alone left open -/
theorem rl_writeT {a b p : Nat} {v : Int} {M : ax_M} {r : fo_R} {ev : fo_R → Int} (hab : b + 11 < a) (hp : p < 24) (hv : 0 ≤ v ∧ v < 100) (hr : fo_cr b M = r) (hI : fo_I r) (hclk : r 270 < 2147483647) (hlim : M b 12 = 1073741824 ∨ (0 ≤ M b 12 ∧ M b 12 ≤ 99)) (hw : fo_Wv a b ev M) :
    fo_WD b a ev p v r M (f_X0_write b (p : Int) v (a : Int) M) :=
  rl_write hab hp hv hr hI hclk hlim hw (fun N hN i hi => by
    have hW := (fo_wr2_ok (v := v) hp hI).1
    rw [fc_things (B := r 270 + 1) (by rw [hN]; exact hW) i hi, hN])
