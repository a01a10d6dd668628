/-! ALL PAIRS, at one depth of calls -/
theorem all_ok (L : Nat) (xs : Nat → Int32) : allOK (yY L xs) (Sim gD) 200 :=
  ⟨fun w => pr_write (D := 198) w, fun a => pr_side (d := 26) a, pr_fault (D := 200), pr_swap (D := 198) gD_sdB, fun a b => pr_keep (D := 198) gD_sdB a b,
    fun a b c e => pr_make (d := 26) a b c e, fun a b => pr_shape (d := 190) a b, fun a b c => pr_term (d := 190) a b c, fun a b => pr_like (d := 190) a b, fun a => pr_has (d := 190) a,
    fun a b => pr_words (d := 180) a b, fun a b c => pr_word (d := 179) a b c, pr_prove (d := 190), fun a => pr_apart (D := 199) a, fun a => pr_count (D := 198) a,
    fun a b => pr_line (D := 198) a b, fun a b c => pr_alter (D := 198) gD_sdB a b c, pr_cut (D := 197) gD_sdB, pr_check (d := 189), fun a => pr_why (d := 189) a,
    pr_same (d := 189), fun a b => pr_between (d := 25) a b, fun a => pr_image (D := 196) gD_sdB a, fun a => pr_again (D := 196) gD_sdB a⟩
