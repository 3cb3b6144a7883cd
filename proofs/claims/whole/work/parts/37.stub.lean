theorem ck_218 : K218.all (jck code 4 (some .boolean) 10 213) = true := sorry
theorem wo_218 : ∀ q ∈ K218, jwo "OneNoteLaw" q := sorry
theorem jfa_all {j : Nat} (h : j < 218) : jfa j := sorry
