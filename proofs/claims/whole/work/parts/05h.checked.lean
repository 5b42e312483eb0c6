theorem jx_len191 : (jx_nth jx_cd 191 []).length = 1152 := by decide +kernel
theorem jx_ck191 : (List.range (jx_nth jx_cd 191 []).length).all (jx_okR 191) = true := by
  refine List.all_eq_true.mpr (fun i hi => ?_)
  have hi := List.mem_range.mp hi
  rw [jx_len191] at hi
  rcases Nat.lt_or_ge i 48 with h | h
  · exact List.all_eq_true.mp jx_ck191_0 i (List.mem_range'_1.mpr ⟨by omega, by omega⟩)
  rcases Nat.lt_or_ge i 96 with h | h
  · exact List.all_eq_true.mp jx_ck191_48 i (List.mem_range'_1.mpr ⟨by omega, by omega⟩)
  rcases Nat.lt_or_ge i 144 with h | h
  · exact List.all_eq_true.mp jx_ck191_96 i (List.mem_range'_1.mpr ⟨by omega, by omega⟩)
  rcases Nat.lt_or_ge i 192 with h | h
  · exact List.all_eq_true.mp jx_ck191_144 i (List.mem_range'_1.mpr ⟨by omega, by omega⟩)
  rcases Nat.lt_or_ge i 240 with h | h
  · exact List.all_eq_true.mp jx_ck191_192 i (List.mem_range'_1.mpr ⟨by omega, by omega⟩)
  rcases Nat.lt_or_ge i 288 with h | h
  · exact List.all_eq_true.mp jx_ck191_240 i (List.mem_range'_1.mpr ⟨by omega, by omega⟩)
  rcases Nat.lt_or_ge i 336 with h | h
  · exact List.all_eq_true.mp jx_ck191_288 i (List.mem_range'_1.mpr ⟨by omega, by omega⟩)
  rcases Nat.lt_or_ge i 384 with h | h
  · exact List.all_eq_true.mp jx_ck191_336 i (List.mem_range'_1.mpr ⟨by omega, by omega⟩)
  rcases Nat.lt_or_ge i 432 with h | h
  · exact List.all_eq_true.mp jx_ck191_384 i (List.mem_range'_1.mpr ⟨by omega, by omega⟩)
  rcases Nat.lt_or_ge i 480 with h | h
  · exact List.all_eq_true.mp jx_ck191_432 i (List.mem_range'_1.mpr ⟨by omega, by omega⟩)
  rcases Nat.lt_or_ge i 528 with h | h
  · exact List.all_eq_true.mp jx_ck191_480 i (List.mem_range'_1.mpr ⟨by omega, by omega⟩)
  rcases Nat.lt_or_ge i 576 with h | h
  · exact List.all_eq_true.mp jx_ck191_528 i (List.mem_range'_1.mpr ⟨by omega, by omega⟩)
  rcases Nat.lt_or_ge i 624 with h | h
  · exact List.all_eq_true.mp jx_ck191_576 i (List.mem_range'_1.mpr ⟨by omega, by omega⟩)
  rcases Nat.lt_or_ge i 672 with h | h
  · exact List.all_eq_true.mp jx_ck191_624 i (List.mem_range'_1.mpr ⟨by omega, by omega⟩)
  rcases Nat.lt_or_ge i 720 with h | h
  · exact List.all_eq_true.mp jx_ck191_672 i (List.mem_range'_1.mpr ⟨by omega, by omega⟩)
  rcases Nat.lt_or_ge i 768 with h | h
  · exact List.all_eq_true.mp jx_ck191_720 i (List.mem_range'_1.mpr ⟨by omega, by omega⟩)
  rcases Nat.lt_or_ge i 816 with h | h
  · exact List.all_eq_true.mp jx_ck191_768 i (List.mem_range'_1.mpr ⟨by omega, by omega⟩)
  rcases Nat.lt_or_ge i 864 with h | h
  · exact List.all_eq_true.mp jx_ck191_816 i (List.mem_range'_1.mpr ⟨by omega, by omega⟩)
  rcases Nat.lt_or_ge i 912 with h | h
  · exact List.all_eq_true.mp jx_ck191_864 i (List.mem_range'_1.mpr ⟨by omega, by omega⟩)
  rcases Nat.lt_or_ge i 960 with h | h
  · exact List.all_eq_true.mp jx_ck191_912 i (List.mem_range'_1.mpr ⟨by omega, by omega⟩)
  rcases Nat.lt_or_ge i 1008 with h | h
  · exact List.all_eq_true.mp jx_ck191_960 i (List.mem_range'_1.mpr ⟨by omega, by omega⟩)
  rcases Nat.lt_or_ge i 1056 with h | h
  · exact List.all_eq_true.mp jx_ck191_1008 i (List.mem_range'_1.mpr ⟨by omega, by omega⟩)
  rcases Nat.lt_or_ge i 1104 with h | h
  · exact List.all_eq_true.mp jx_ck191_1056 i (List.mem_range'_1.mpr ⟨by omega, by omega⟩)
  exact List.all_eq_true.mp jx_ck191_1104 i (List.mem_range'_1.mpr ⟨by omega, by omega⟩)
theorem jx_ck (x : Nat) (hx : x < 192) (i : Nat) (hi : i < (jx_nth jx_cd x []).length) : jx_okR x i = true := by
  · rcases Nat.lt_or_ge x 96 with h96 | h96
    · rcases Nat.lt_or_ge x 48 with h48 | h48
      · rcases Nat.lt_or_ge x 24 with h24 | h24
        · rcases Nat.lt_or_ge x 12 with h12 | h12
          · rcases Nat.lt_or_ge x 6 with h6 | h6
            · rcases Nat.lt_or_ge x 3 with h3 | h3
              · rcases Nat.lt_or_ge x 1 with h1 | h1
                · obtain rfl : x = 0 := by omega
                  exact List.all_eq_true.mp jx_ck0 i (List.mem_range.mpr hi)
                · rcases Nat.lt_or_ge x 2 with h2 | h2
                  · obtain rfl : x = 1 := by omega
                    exact List.all_eq_true.mp jx_ck1 i (List.mem_range.mpr hi)
                  · obtain rfl : x = 2 := by omega
                    exact List.all_eq_true.mp jx_ck2 i (List.mem_range.mpr hi)
              · rcases Nat.lt_or_ge x 4 with h4 | h4
                · obtain rfl : x = 3 := by omega
                  exact List.all_eq_true.mp jx_ck3 i (List.mem_range.mpr hi)
                · rcases Nat.lt_or_ge x 5 with h5 | h5
                  · obtain rfl : x = 4 := by omega
                    exact List.all_eq_true.mp jx_ck4 i (List.mem_range.mpr hi)
                  · obtain rfl : x = 5 := by omega
                    exact List.all_eq_true.mp jx_ck5 i (List.mem_range.mpr hi)
            · rcases Nat.lt_or_ge x 9 with h9 | h9
              · rcases Nat.lt_or_ge x 7 with h7 | h7
                · obtain rfl : x = 6 := by omega
                  exact List.all_eq_true.mp jx_ck6 i (List.mem_range.mpr hi)
                · rcases Nat.lt_or_ge x 8 with h8 | h8
                  · obtain rfl : x = 7 := by omega
                    exact List.all_eq_true.mp jx_ck7 i (List.mem_range.mpr hi)
                  · obtain rfl : x = 8 := by omega
                    exact List.all_eq_true.mp jx_ck8 i (List.mem_range.mpr hi)
              · rcases Nat.lt_or_ge x 10 with h10 | h10
                · obtain rfl : x = 9 := by omega
                  exact List.all_eq_true.mp jx_ck9 i (List.mem_range.mpr hi)
                · rcases Nat.lt_or_ge x 11 with h11 | h11
                  · obtain rfl : x = 10 := by omega
                    exact List.all_eq_true.mp jx_ck10 i (List.mem_range.mpr hi)
                  · obtain rfl : x = 11 := by omega
                    exact List.all_eq_true.mp jx_ck11 i (List.mem_range.mpr hi)
          · rcases Nat.lt_or_ge x 18 with h18 | h18
            · rcases Nat.lt_or_ge x 15 with h15 | h15
              · rcases Nat.lt_or_ge x 13 with h13 | h13
                · obtain rfl : x = 12 := by omega
                  exact List.all_eq_true.mp jx_ck12 i (List.mem_range.mpr hi)
                · rcases Nat.lt_or_ge x 14 with h14 | h14
                  · obtain rfl : x = 13 := by omega
                    exact List.all_eq_true.mp jx_ck13 i (List.mem_range.mpr hi)
                  · obtain rfl : x = 14 := by omega
                    exact List.all_eq_true.mp jx_ck14 i (List.mem_range.mpr hi)
              · rcases Nat.lt_or_ge x 16 with h16 | h16
                · obtain rfl : x = 15 := by omega
                  exact List.all_eq_true.mp jx_ck15 i (List.mem_range.mpr hi)
                · rcases Nat.lt_or_ge x 17 with h17 | h17
                  · obtain rfl : x = 16 := by omega
                    exact List.all_eq_true.mp jx_ck16 i (List.mem_range.mpr hi)
                  · obtain rfl : x = 17 := by omega
                    exact List.all_eq_true.mp jx_ck17 i (List.mem_range.mpr hi)
            · rcases Nat.lt_or_ge x 21 with h21 | h21
              · rcases Nat.lt_or_ge x 19 with h19 | h19
                · obtain rfl : x = 18 := by omega
                  exact List.all_eq_true.mp jx_ck18 i (List.mem_range.mpr hi)
                · rcases Nat.lt_or_ge x 20 with h20 | h20
                  · obtain rfl : x = 19 := by omega
                    exact List.all_eq_true.mp jx_ck19 i (List.mem_range.mpr hi)
                  · obtain rfl : x = 20 := by omega
                    exact List.all_eq_true.mp jx_ck20 i (List.mem_range.mpr hi)
              · rcases Nat.lt_or_ge x 22 with h22 | h22
                · obtain rfl : x = 21 := by omega
                  exact List.all_eq_true.mp jx_ck21 i (List.mem_range.mpr hi)
                · rcases Nat.lt_or_ge x 23 with h23 | h23
                  · obtain rfl : x = 22 := by omega
                    exact List.all_eq_true.mp jx_ck22 i (List.mem_range.mpr hi)
                  · obtain rfl : x = 23 := by omega
                    exact List.all_eq_true.mp jx_ck23 i (List.mem_range.mpr hi)
        · rcases Nat.lt_or_ge x 36 with h36 | h36
          · rcases Nat.lt_or_ge x 30 with h30 | h30
            · rcases Nat.lt_or_ge x 27 with h27 | h27
              · rcases Nat.lt_or_ge x 25 with h25 | h25
                · obtain rfl : x = 24 := by omega
                  exact List.all_eq_true.mp jx_ck24 i (List.mem_range.mpr hi)
                · rcases Nat.lt_or_ge x 26 with h26 | h26
                  · obtain rfl : x = 25 := by omega
                    exact List.all_eq_true.mp jx_ck25 i (List.mem_range.mpr hi)
                  · obtain rfl : x = 26 := by omega
                    exact List.all_eq_true.mp jx_ck26 i (List.mem_range.mpr hi)
              · rcases Nat.lt_or_ge x 28 with h28 | h28
                · obtain rfl : x = 27 := by omega
                  exact List.all_eq_true.mp jx_ck27 i (List.mem_range.mpr hi)
                · rcases Nat.lt_or_ge x 29 with h29 | h29
                  · obtain rfl : x = 28 := by omega
                    exact List.all_eq_true.mp jx_ck28 i (List.mem_range.mpr hi)
                  · obtain rfl : x = 29 := by omega
                    exact List.all_eq_true.mp jx_ck29 i (List.mem_range.mpr hi)
            · rcases Nat.lt_or_ge x 33 with h33 | h33
              · rcases Nat.lt_or_ge x 31 with h31 | h31
                · obtain rfl : x = 30 := by omega
                  exact List.all_eq_true.mp jx_ck30 i (List.mem_range.mpr hi)
                · rcases Nat.lt_or_ge x 32 with h32 | h32
                  · obtain rfl : x = 31 := by omega
                    exact List.all_eq_true.mp jx_ck31 i (List.mem_range.mpr hi)
                  · obtain rfl : x = 32 := by omega
                    exact List.all_eq_true.mp jx_ck32 i (List.mem_range.mpr hi)
              · rcases Nat.lt_or_ge x 34 with h34 | h34
                · obtain rfl : x = 33 := by omega
                  exact List.all_eq_true.mp jx_ck33 i (List.mem_range.mpr hi)
                · rcases Nat.lt_or_ge x 35 with h35 | h35
                  · obtain rfl : x = 34 := by omega
                    exact List.all_eq_true.mp jx_ck34 i (List.mem_range.mpr hi)
                  · obtain rfl : x = 35 := by omega
                    exact List.all_eq_true.mp jx_ck35 i (List.mem_range.mpr hi)
          · rcases Nat.lt_or_ge x 42 with h42 | h42
            · rcases Nat.lt_or_ge x 39 with h39 | h39
              · rcases Nat.lt_or_ge x 37 with h37 | h37
                · obtain rfl : x = 36 := by omega
                  exact List.all_eq_true.mp jx_ck36 i (List.mem_range.mpr hi)
                · rcases Nat.lt_or_ge x 38 with h38 | h38
                  · obtain rfl : x = 37 := by omega
                    exact List.all_eq_true.mp jx_ck37 i (List.mem_range.mpr hi)
                  · obtain rfl : x = 38 := by omega
                    exact List.all_eq_true.mp jx_ck38 i (List.mem_range.mpr hi)
              · rcases Nat.lt_or_ge x 40 with h40 | h40
                · obtain rfl : x = 39 := by omega
                  exact List.all_eq_true.mp jx_ck39 i (List.mem_range.mpr hi)
                · rcases Nat.lt_or_ge x 41 with h41 | h41
                  · obtain rfl : x = 40 := by omega
                    exact List.all_eq_true.mp jx_ck40 i (List.mem_range.mpr hi)
                  · obtain rfl : x = 41 := by omega
                    exact List.all_eq_true.mp jx_ck41 i (List.mem_range.mpr hi)
            · rcases Nat.lt_or_ge x 45 with h45 | h45
              · rcases Nat.lt_or_ge x 43 with h43 | h43
                · obtain rfl : x = 42 := by omega
                  exact List.all_eq_true.mp jx_ck42 i (List.mem_range.mpr hi)
                · rcases Nat.lt_or_ge x 44 with h44 | h44
                  · obtain rfl : x = 43 := by omega
                    exact List.all_eq_true.mp jx_ck43 i (List.mem_range.mpr hi)
                  · obtain rfl : x = 44 := by omega
                    exact List.all_eq_true.mp jx_ck44 i (List.mem_range.mpr hi)
              · rcases Nat.lt_or_ge x 46 with h46 | h46
                · obtain rfl : x = 45 := by omega
                  exact List.all_eq_true.mp jx_ck45 i (List.mem_range.mpr hi)
                · rcases Nat.lt_or_ge x 47 with h47 | h47
                  · obtain rfl : x = 46 := by omega
                    exact List.all_eq_true.mp jx_ck46 i (List.mem_range.mpr hi)
                  · obtain rfl : x = 47 := by omega
                    exact List.all_eq_true.mp jx_ck47 i (List.mem_range.mpr hi)
      · rcases Nat.lt_or_ge x 72 with h72 | h72
        · rcases Nat.lt_or_ge x 60 with h60 | h60
          · rcases Nat.lt_or_ge x 54 with h54 | h54
            · rcases Nat.lt_or_ge x 51 with h51 | h51
              · rcases Nat.lt_or_ge x 49 with h49 | h49
                · obtain rfl : x = 48 := by omega
                  exact List.all_eq_true.mp jx_ck48 i (List.mem_range.mpr hi)
                · rcases Nat.lt_or_ge x 50 with h50 | h50
                  · obtain rfl : x = 49 := by omega
                    exact List.all_eq_true.mp jx_ck49 i (List.mem_range.mpr hi)
                  · obtain rfl : x = 50 := by omega
                    exact List.all_eq_true.mp jx_ck50 i (List.mem_range.mpr hi)
              · rcases Nat.lt_or_ge x 52 with h52 | h52
                · obtain rfl : x = 51 := by omega
                  exact List.all_eq_true.mp jx_ck51 i (List.mem_range.mpr hi)
                · rcases Nat.lt_or_ge x 53 with h53 | h53
                  · obtain rfl : x = 52 := by omega
                    exact List.all_eq_true.mp jx_ck52 i (List.mem_range.mpr hi)
                  · obtain rfl : x = 53 := by omega
                    exact List.all_eq_true.mp jx_ck53 i (List.mem_range.mpr hi)
            · rcases Nat.lt_or_ge x 57 with h57 | h57
              · rcases Nat.lt_or_ge x 55 with h55 | h55
                · obtain rfl : x = 54 := by omega
                  exact List.all_eq_true.mp jx_ck54 i (List.mem_range.mpr hi)
                · rcases Nat.lt_or_ge x 56 with h56 | h56
                  · obtain rfl : x = 55 := by omega
                    exact List.all_eq_true.mp jx_ck55 i (List.mem_range.mpr hi)
                  · obtain rfl : x = 56 := by omega
                    exact List.all_eq_true.mp jx_ck56 i (List.mem_range.mpr hi)
              · rcases Nat.lt_or_ge x 58 with h58 | h58
                · obtain rfl : x = 57 := by omega
                  exact List.all_eq_true.mp jx_ck57 i (List.mem_range.mpr hi)
                · rcases Nat.lt_or_ge x 59 with h59 | h59
                  · obtain rfl : x = 58 := by omega
                    exact List.all_eq_true.mp jx_ck58 i (List.mem_range.mpr hi)
                  · obtain rfl : x = 59 := by omega
                    exact List.all_eq_true.mp jx_ck59 i (List.mem_range.mpr hi)
          · rcases Nat.lt_or_ge x 66 with h66 | h66
            · rcases Nat.lt_or_ge x 63 with h63 | h63
              · rcases Nat.lt_or_ge x 61 with h61 | h61
                · obtain rfl : x = 60 := by omega
                  exact List.all_eq_true.mp jx_ck60 i (List.mem_range.mpr hi)
                · rcases Nat.lt_or_ge x 62 with h62 | h62
                  · obtain rfl : x = 61 := by omega
                    exact List.all_eq_true.mp jx_ck61 i (List.mem_range.mpr hi)
                  · obtain rfl : x = 62 := by omega
                    exact List.all_eq_true.mp jx_ck62 i (List.mem_range.mpr hi)
              · rcases Nat.lt_or_ge x 64 with h64 | h64
                · obtain rfl : x = 63 := by omega
                  exact List.all_eq_true.mp jx_ck63 i (List.mem_range.mpr hi)
                · rcases Nat.lt_or_ge x 65 with h65 | h65
                  · obtain rfl : x = 64 := by omega
                    exact List.all_eq_true.mp jx_ck64 i (List.mem_range.mpr hi)
                  · obtain rfl : x = 65 := by omega
                    exact List.all_eq_true.mp jx_ck65 i (List.mem_range.mpr hi)
            · rcases Nat.lt_or_ge x 69 with h69 | h69
              · rcases Nat.lt_or_ge x 67 with h67 | h67
                · obtain rfl : x = 66 := by omega
                  exact List.all_eq_true.mp jx_ck66 i (List.mem_range.mpr hi)
                · rcases Nat.lt_or_ge x 68 with h68 | h68
                  · obtain rfl : x = 67 := by omega
                    exact List.all_eq_true.mp jx_ck67 i (List.mem_range.mpr hi)
                  · obtain rfl : x = 68 := by omega
                    exact List.all_eq_true.mp jx_ck68 i (List.mem_range.mpr hi)
              · rcases Nat.lt_or_ge x 70 with h70 | h70
                · obtain rfl : x = 69 := by omega
                  exact List.all_eq_true.mp jx_ck69 i (List.mem_range.mpr hi)
                · rcases Nat.lt_or_ge x 71 with h71 | h71
                  · obtain rfl : x = 70 := by omega
                    exact List.all_eq_true.mp jx_ck70 i (List.mem_range.mpr hi)
                  · obtain rfl : x = 71 := by omega
                    exact List.all_eq_true.mp jx_ck71 i (List.mem_range.mpr hi)
        · rcases Nat.lt_or_ge x 84 with h84 | h84
          · rcases Nat.lt_or_ge x 78 with h78 | h78
            · rcases Nat.lt_or_ge x 75 with h75 | h75
              · rcases Nat.lt_or_ge x 73 with h73 | h73
                · obtain rfl : x = 72 := by omega
                  exact List.all_eq_true.mp jx_ck72 i (List.mem_range.mpr hi)
                · rcases Nat.lt_or_ge x 74 with h74 | h74
                  · obtain rfl : x = 73 := by omega
                    exact List.all_eq_true.mp jx_ck73 i (List.mem_range.mpr hi)
                  · obtain rfl : x = 74 := by omega
                    exact List.all_eq_true.mp jx_ck74 i (List.mem_range.mpr hi)
              · rcases Nat.lt_or_ge x 76 with h76 | h76
                · obtain rfl : x = 75 := by omega
                  exact List.all_eq_true.mp jx_ck75 i (List.mem_range.mpr hi)
                · rcases Nat.lt_or_ge x 77 with h77 | h77
                  · obtain rfl : x = 76 := by omega
                    exact List.all_eq_true.mp jx_ck76 i (List.mem_range.mpr hi)
                  · obtain rfl : x = 77 := by omega
                    exact List.all_eq_true.mp jx_ck77 i (List.mem_range.mpr hi)
            · rcases Nat.lt_or_ge x 81 with h81 | h81
              · rcases Nat.lt_or_ge x 79 with h79 | h79
                · obtain rfl : x = 78 := by omega
                  exact List.all_eq_true.mp jx_ck78 i (List.mem_range.mpr hi)
                · rcases Nat.lt_or_ge x 80 with h80 | h80
                  · obtain rfl : x = 79 := by omega
                    exact List.all_eq_true.mp jx_ck79 i (List.mem_range.mpr hi)
                  · obtain rfl : x = 80 := by omega
                    exact List.all_eq_true.mp jx_ck80 i (List.mem_range.mpr hi)
              · rcases Nat.lt_or_ge x 82 with h82 | h82
                · obtain rfl : x = 81 := by omega
                  exact List.all_eq_true.mp jx_ck81 i (List.mem_range.mpr hi)
                · rcases Nat.lt_or_ge x 83 with h83 | h83
                  · obtain rfl : x = 82 := by omega
                    exact List.all_eq_true.mp jx_ck82 i (List.mem_range.mpr hi)
                  · obtain rfl : x = 83 := by omega
                    exact List.all_eq_true.mp jx_ck83 i (List.mem_range.mpr hi)
          · rcases Nat.lt_or_ge x 90 with h90 | h90
            · rcases Nat.lt_or_ge x 87 with h87 | h87
              · rcases Nat.lt_or_ge x 85 with h85 | h85
                · obtain rfl : x = 84 := by omega
                  exact List.all_eq_true.mp jx_ck84 i (List.mem_range.mpr hi)
                · rcases Nat.lt_or_ge x 86 with h86 | h86
                  · obtain rfl : x = 85 := by omega
                    exact List.all_eq_true.mp jx_ck85 i (List.mem_range.mpr hi)
                  · obtain rfl : x = 86 := by omega
                    exact List.all_eq_true.mp jx_ck86 i (List.mem_range.mpr hi)
              · rcases Nat.lt_or_ge x 88 with h88 | h88
                · obtain rfl : x = 87 := by omega
                  exact List.all_eq_true.mp jx_ck87 i (List.mem_range.mpr hi)
                · rcases Nat.lt_or_ge x 89 with h89 | h89
                  · obtain rfl : x = 88 := by omega
                    exact List.all_eq_true.mp jx_ck88 i (List.mem_range.mpr hi)
                  · obtain rfl : x = 89 := by omega
                    exact List.all_eq_true.mp jx_ck89 i (List.mem_range.mpr hi)
            · rcases Nat.lt_or_ge x 93 with h93 | h93
              · rcases Nat.lt_or_ge x 91 with h91 | h91
                · obtain rfl : x = 90 := by omega
                  exact List.all_eq_true.mp jx_ck90 i (List.mem_range.mpr hi)
                · rcases Nat.lt_or_ge x 92 with h92 | h92
                  · obtain rfl : x = 91 := by omega
                    exact List.all_eq_true.mp jx_ck91 i (List.mem_range.mpr hi)
                  · obtain rfl : x = 92 := by omega
                    exact List.all_eq_true.mp jx_ck92 i (List.mem_range.mpr hi)
              · rcases Nat.lt_or_ge x 94 with h94 | h94
                · obtain rfl : x = 93 := by omega
                  exact List.all_eq_true.mp jx_ck93 i (List.mem_range.mpr hi)
                · rcases Nat.lt_or_ge x 95 with h95 | h95
                  · obtain rfl : x = 94 := by omega
                    exact List.all_eq_true.mp jx_ck94 i (List.mem_range.mpr hi)
                  · obtain rfl : x = 95 := by omega
                    exact List.all_eq_true.mp jx_ck95 i (List.mem_range.mpr hi)
    · rcases Nat.lt_or_ge x 144 with h144 | h144
      · rcases Nat.lt_or_ge x 120 with h120 | h120
        · rcases Nat.lt_or_ge x 108 with h108 | h108
          · rcases Nat.lt_or_ge x 102 with h102 | h102
            · rcases Nat.lt_or_ge x 99 with h99 | h99
              · rcases Nat.lt_or_ge x 97 with h97 | h97
                · obtain rfl : x = 96 := by omega
                  exact List.all_eq_true.mp jx_ck96 i (List.mem_range.mpr hi)
                · rcases Nat.lt_or_ge x 98 with h98 | h98
                  · obtain rfl : x = 97 := by omega
                    exact List.all_eq_true.mp jx_ck97 i (List.mem_range.mpr hi)
                  · obtain rfl : x = 98 := by omega
                    exact List.all_eq_true.mp jx_ck98 i (List.mem_range.mpr hi)
              · rcases Nat.lt_or_ge x 100 with h100 | h100
                · obtain rfl : x = 99 := by omega
                  exact List.all_eq_true.mp jx_ck99 i (List.mem_range.mpr hi)
                · rcases Nat.lt_or_ge x 101 with h101 | h101
                  · obtain rfl : x = 100 := by omega
                    exact List.all_eq_true.mp jx_ck100 i (List.mem_range.mpr hi)
                  · obtain rfl : x = 101 := by omega
                    exact List.all_eq_true.mp jx_ck101 i (List.mem_range.mpr hi)
            · rcases Nat.lt_or_ge x 105 with h105 | h105
              · rcases Nat.lt_or_ge x 103 with h103 | h103
                · obtain rfl : x = 102 := by omega
                  exact List.all_eq_true.mp jx_ck102 i (List.mem_range.mpr hi)
                · rcases Nat.lt_or_ge x 104 with h104 | h104
                  · obtain rfl : x = 103 := by omega
                    exact List.all_eq_true.mp jx_ck103 i (List.mem_range.mpr hi)
                  · obtain rfl : x = 104 := by omega
                    exact List.all_eq_true.mp jx_ck104 i (List.mem_range.mpr hi)
              · rcases Nat.lt_or_ge x 106 with h106 | h106
                · obtain rfl : x = 105 := by omega
                  exact List.all_eq_true.mp jx_ck105 i (List.mem_range.mpr hi)
                · rcases Nat.lt_or_ge x 107 with h107 | h107
                  · obtain rfl : x = 106 := by omega
                    exact List.all_eq_true.mp jx_ck106 i (List.mem_range.mpr hi)
                  · obtain rfl : x = 107 := by omega
                    exact List.all_eq_true.mp jx_ck107 i (List.mem_range.mpr hi)
          · rcases Nat.lt_or_ge x 114 with h114 | h114
            · rcases Nat.lt_or_ge x 111 with h111 | h111
              · rcases Nat.lt_or_ge x 109 with h109 | h109
                · obtain rfl : x = 108 := by omega
                  exact List.all_eq_true.mp jx_ck108 i (List.mem_range.mpr hi)
                · rcases Nat.lt_or_ge x 110 with h110 | h110
                  · obtain rfl : x = 109 := by omega
                    exact List.all_eq_true.mp jx_ck109 i (List.mem_range.mpr hi)
                  · obtain rfl : x = 110 := by omega
                    exact List.all_eq_true.mp jx_ck110 i (List.mem_range.mpr hi)
              · rcases Nat.lt_or_ge x 112 with h112 | h112
                · obtain rfl : x = 111 := by omega
                  exact List.all_eq_true.mp jx_ck111 i (List.mem_range.mpr hi)
                · rcases Nat.lt_or_ge x 113 with h113 | h113
                  · obtain rfl : x = 112 := by omega
                    exact List.all_eq_true.mp jx_ck112 i (List.mem_range.mpr hi)
                  · obtain rfl : x = 113 := by omega
                    exact List.all_eq_true.mp jx_ck113 i (List.mem_range.mpr hi)
            · rcases Nat.lt_or_ge x 117 with h117 | h117
              · rcases Nat.lt_or_ge x 115 with h115 | h115
                · obtain rfl : x = 114 := by omega
                  exact List.all_eq_true.mp jx_ck114 i (List.mem_range.mpr hi)
                · rcases Nat.lt_or_ge x 116 with h116 | h116
                  · obtain rfl : x = 115 := by omega
                    exact List.all_eq_true.mp jx_ck115 i (List.mem_range.mpr hi)
                  · obtain rfl : x = 116 := by omega
                    exact List.all_eq_true.mp jx_ck116 i (List.mem_range.mpr hi)
              · rcases Nat.lt_or_ge x 118 with h118 | h118
                · obtain rfl : x = 117 := by omega
                  exact List.all_eq_true.mp jx_ck117 i (List.mem_range.mpr hi)
                · rcases Nat.lt_or_ge x 119 with h119 | h119
                  · obtain rfl : x = 118 := by omega
                    exact List.all_eq_true.mp jx_ck118 i (List.mem_range.mpr hi)
                  · obtain rfl : x = 119 := by omega
                    exact List.all_eq_true.mp jx_ck119 i (List.mem_range.mpr hi)
        · rcases Nat.lt_or_ge x 132 with h132 | h132
          · rcases Nat.lt_or_ge x 126 with h126 | h126
            · rcases Nat.lt_or_ge x 123 with h123 | h123
              · rcases Nat.lt_or_ge x 121 with h121 | h121
                · obtain rfl : x = 120 := by omega
                  exact List.all_eq_true.mp jx_ck120 i (List.mem_range.mpr hi)
                · rcases Nat.lt_or_ge x 122 with h122 | h122
                  · obtain rfl : x = 121 := by omega
                    exact List.all_eq_true.mp jx_ck121 i (List.mem_range.mpr hi)
                  · obtain rfl : x = 122 := by omega
                    exact List.all_eq_true.mp jx_ck122 i (List.mem_range.mpr hi)
              · rcases Nat.lt_or_ge x 124 with h124 | h124
                · obtain rfl : x = 123 := by omega
                  exact List.all_eq_true.mp jx_ck123 i (List.mem_range.mpr hi)
                · rcases Nat.lt_or_ge x 125 with h125 | h125
                  · obtain rfl : x = 124 := by omega
                    exact List.all_eq_true.mp jx_ck124 i (List.mem_range.mpr hi)
                  · obtain rfl : x = 125 := by omega
                    exact List.all_eq_true.mp jx_ck125 i (List.mem_range.mpr hi)
            · rcases Nat.lt_or_ge x 129 with h129 | h129
              · rcases Nat.lt_or_ge x 127 with h127 | h127
                · obtain rfl : x = 126 := by omega
                  exact List.all_eq_true.mp jx_ck126 i (List.mem_range.mpr hi)
                · rcases Nat.lt_or_ge x 128 with h128 | h128
                  · obtain rfl : x = 127 := by omega
                    exact List.all_eq_true.mp jx_ck127 i (List.mem_range.mpr hi)
                  · obtain rfl : x = 128 := by omega
                    exact List.all_eq_true.mp jx_ck128 i (List.mem_range.mpr hi)
              · rcases Nat.lt_or_ge x 130 with h130 | h130
                · obtain rfl : x = 129 := by omega
                  exact List.all_eq_true.mp jx_ck129 i (List.mem_range.mpr hi)
                · rcases Nat.lt_or_ge x 131 with h131 | h131
                  · obtain rfl : x = 130 := by omega
                    exact List.all_eq_true.mp jx_ck130 i (List.mem_range.mpr hi)
                  · obtain rfl : x = 131 := by omega
                    exact List.all_eq_true.mp jx_ck131 i (List.mem_range.mpr hi)
          · rcases Nat.lt_or_ge x 138 with h138 | h138
            · rcases Nat.lt_or_ge x 135 with h135 | h135
              · rcases Nat.lt_or_ge x 133 with h133 | h133
                · obtain rfl : x = 132 := by omega
                  exact List.all_eq_true.mp jx_ck132 i (List.mem_range.mpr hi)
                · rcases Nat.lt_or_ge x 134 with h134 | h134
                  · obtain rfl : x = 133 := by omega
                    exact List.all_eq_true.mp jx_ck133 i (List.mem_range.mpr hi)
                  · obtain rfl : x = 134 := by omega
                    exact List.all_eq_true.mp jx_ck134 i (List.mem_range.mpr hi)
              · rcases Nat.lt_or_ge x 136 with h136 | h136
                · obtain rfl : x = 135 := by omega
                  exact List.all_eq_true.mp jx_ck135 i (List.mem_range.mpr hi)
                · rcases Nat.lt_or_ge x 137 with h137 | h137
                  · obtain rfl : x = 136 := by omega
                    exact List.all_eq_true.mp jx_ck136 i (List.mem_range.mpr hi)
                  · obtain rfl : x = 137 := by omega
                    exact List.all_eq_true.mp jx_ck137 i (List.mem_range.mpr hi)
            · rcases Nat.lt_or_ge x 141 with h141 | h141
              · rcases Nat.lt_or_ge x 139 with h139 | h139
                · obtain rfl : x = 138 := by omega
                  exact List.all_eq_true.mp jx_ck138 i (List.mem_range.mpr hi)
                · rcases Nat.lt_or_ge x 140 with h140 | h140
                  · obtain rfl : x = 139 := by omega
                    exact List.all_eq_true.mp jx_ck139 i (List.mem_range.mpr hi)
                  · obtain rfl : x = 140 := by omega
                    exact List.all_eq_true.mp jx_ck140 i (List.mem_range.mpr hi)
              · rcases Nat.lt_or_ge x 142 with h142 | h142
                · obtain rfl : x = 141 := by omega
                  exact List.all_eq_true.mp jx_ck141 i (List.mem_range.mpr hi)
                · rcases Nat.lt_or_ge x 143 with h143 | h143
                  · obtain rfl : x = 142 := by omega
                    exact List.all_eq_true.mp jx_ck142 i (List.mem_range.mpr hi)
                  · obtain rfl : x = 143 := by omega
                    exact List.all_eq_true.mp jx_ck143 i (List.mem_range.mpr hi)
      · rcases Nat.lt_or_ge x 168 with h168 | h168
        · rcases Nat.lt_or_ge x 156 with h156 | h156
          · rcases Nat.lt_or_ge x 150 with h150 | h150
            · rcases Nat.lt_or_ge x 147 with h147 | h147
              · rcases Nat.lt_or_ge x 145 with h145 | h145
                · obtain rfl : x = 144 := by omega
                  exact List.all_eq_true.mp jx_ck144 i (List.mem_range.mpr hi)
                · rcases Nat.lt_or_ge x 146 with h146 | h146
                  · obtain rfl : x = 145 := by omega
                    exact List.all_eq_true.mp jx_ck145 i (List.mem_range.mpr hi)
                  · obtain rfl : x = 146 := by omega
                    exact List.all_eq_true.mp jx_ck146 i (List.mem_range.mpr hi)
              · rcases Nat.lt_or_ge x 148 with h148 | h148
                · obtain rfl : x = 147 := by omega
                  exact List.all_eq_true.mp jx_ck147 i (List.mem_range.mpr hi)
                · rcases Nat.lt_or_ge x 149 with h149 | h149
                  · obtain rfl : x = 148 := by omega
                    exact List.all_eq_true.mp jx_ck148 i (List.mem_range.mpr hi)
                  · obtain rfl : x = 149 := by omega
                    exact List.all_eq_true.mp jx_ck149 i (List.mem_range.mpr hi)
            · rcases Nat.lt_or_ge x 153 with h153 | h153
              · rcases Nat.lt_or_ge x 151 with h151 | h151
                · obtain rfl : x = 150 := by omega
                  exact List.all_eq_true.mp jx_ck150 i (List.mem_range.mpr hi)
                · rcases Nat.lt_or_ge x 152 with h152 | h152
                  · obtain rfl : x = 151 := by omega
                    exact List.all_eq_true.mp jx_ck151 i (List.mem_range.mpr hi)
                  · obtain rfl : x = 152 := by omega
                    exact List.all_eq_true.mp jx_ck152 i (List.mem_range.mpr hi)
              · rcases Nat.lt_or_ge x 154 with h154 | h154
                · obtain rfl : x = 153 := by omega
                  exact List.all_eq_true.mp jx_ck153 i (List.mem_range.mpr hi)
                · rcases Nat.lt_or_ge x 155 with h155 | h155
                  · obtain rfl : x = 154 := by omega
                    exact List.all_eq_true.mp jx_ck154 i (List.mem_range.mpr hi)
                  · obtain rfl : x = 155 := by omega
                    exact List.all_eq_true.mp jx_ck155 i (List.mem_range.mpr hi)
          · rcases Nat.lt_or_ge x 162 with h162 | h162
            · rcases Nat.lt_or_ge x 159 with h159 | h159
              · rcases Nat.lt_or_ge x 157 with h157 | h157
                · obtain rfl : x = 156 := by omega
                  exact List.all_eq_true.mp jx_ck156 i (List.mem_range.mpr hi)
                · rcases Nat.lt_or_ge x 158 with h158 | h158
                  · obtain rfl : x = 157 := by omega
                    exact List.all_eq_true.mp jx_ck157 i (List.mem_range.mpr hi)
                  · obtain rfl : x = 158 := by omega
                    exact List.all_eq_true.mp jx_ck158 i (List.mem_range.mpr hi)
              · rcases Nat.lt_or_ge x 160 with h160 | h160
                · obtain rfl : x = 159 := by omega
                  exact List.all_eq_true.mp jx_ck159 i (List.mem_range.mpr hi)
                · rcases Nat.lt_or_ge x 161 with h161 | h161
                  · obtain rfl : x = 160 := by omega
                    exact List.all_eq_true.mp jx_ck160 i (List.mem_range.mpr hi)
                  · obtain rfl : x = 161 := by omega
                    exact List.all_eq_true.mp jx_ck161 i (List.mem_range.mpr hi)
            · rcases Nat.lt_or_ge x 165 with h165 | h165
              · rcases Nat.lt_or_ge x 163 with h163 | h163
                · obtain rfl : x = 162 := by omega
                  exact List.all_eq_true.mp jx_ck162 i (List.mem_range.mpr hi)
                · rcases Nat.lt_or_ge x 164 with h164 | h164
                  · obtain rfl : x = 163 := by omega
                    exact List.all_eq_true.mp jx_ck163 i (List.mem_range.mpr hi)
                  · obtain rfl : x = 164 := by omega
                    exact List.all_eq_true.mp jx_ck164 i (List.mem_range.mpr hi)
              · rcases Nat.lt_or_ge x 166 with h166 | h166
                · obtain rfl : x = 165 := by omega
                  exact List.all_eq_true.mp jx_ck165 i (List.mem_range.mpr hi)
                · rcases Nat.lt_or_ge x 167 with h167 | h167
                  · obtain rfl : x = 166 := by omega
                    exact List.all_eq_true.mp jx_ck166 i (List.mem_range.mpr hi)
                  · obtain rfl : x = 167 := by omega
                    exact List.all_eq_true.mp jx_ck167 i (List.mem_range.mpr hi)
        · rcases Nat.lt_or_ge x 180 with h180 | h180
          · rcases Nat.lt_or_ge x 174 with h174 | h174
            · rcases Nat.lt_or_ge x 171 with h171 | h171
              · rcases Nat.lt_or_ge x 169 with h169 | h169
                · obtain rfl : x = 168 := by omega
                  exact List.all_eq_true.mp jx_ck168 i (List.mem_range.mpr hi)
                · rcases Nat.lt_or_ge x 170 with h170 | h170
                  · obtain rfl : x = 169 := by omega
                    exact List.all_eq_true.mp jx_ck169 i (List.mem_range.mpr hi)
                  · obtain rfl : x = 170 := by omega
                    exact List.all_eq_true.mp jx_ck170 i (List.mem_range.mpr hi)
              · rcases Nat.lt_or_ge x 172 with h172 | h172
                · obtain rfl : x = 171 := by omega
                  exact List.all_eq_true.mp jx_ck171 i (List.mem_range.mpr hi)
                · rcases Nat.lt_or_ge x 173 with h173 | h173
                  · obtain rfl : x = 172 := by omega
                    exact List.all_eq_true.mp jx_ck172 i (List.mem_range.mpr hi)
                  · obtain rfl : x = 173 := by omega
                    exact List.all_eq_true.mp jx_ck173 i (List.mem_range.mpr hi)
            · rcases Nat.lt_or_ge x 177 with h177 | h177
              · rcases Nat.lt_or_ge x 175 with h175 | h175
                · obtain rfl : x = 174 := by omega
                  exact List.all_eq_true.mp jx_ck174 i (List.mem_range.mpr hi)
                · rcases Nat.lt_or_ge x 176 with h176 | h176
                  · obtain rfl : x = 175 := by omega
                    exact List.all_eq_true.mp jx_ck175 i (List.mem_range.mpr hi)
                  · obtain rfl : x = 176 := by omega
                    exact List.all_eq_true.mp jx_ck176 i (List.mem_range.mpr hi)
              · rcases Nat.lt_or_ge x 178 with h178 | h178
                · obtain rfl : x = 177 := by omega
                  exact List.all_eq_true.mp jx_ck177 i (List.mem_range.mpr hi)
                · rcases Nat.lt_or_ge x 179 with h179 | h179
                  · obtain rfl : x = 178 := by omega
                    exact List.all_eq_true.mp jx_ck178 i (List.mem_range.mpr hi)
                  · obtain rfl : x = 179 := by omega
                    exact List.all_eq_true.mp jx_ck179 i (List.mem_range.mpr hi)
          · rcases Nat.lt_or_ge x 186 with h186 | h186
            · rcases Nat.lt_or_ge x 183 with h183 | h183
              · rcases Nat.lt_or_ge x 181 with h181 | h181
                · obtain rfl : x = 180 := by omega
                  exact List.all_eq_true.mp jx_ck180 i (List.mem_range.mpr hi)
                · rcases Nat.lt_or_ge x 182 with h182 | h182
                  · obtain rfl : x = 181 := by omega
                    exact List.all_eq_true.mp jx_ck181 i (List.mem_range.mpr hi)
                  · obtain rfl : x = 182 := by omega
                    exact List.all_eq_true.mp jx_ck182 i (List.mem_range.mpr hi)
              · rcases Nat.lt_or_ge x 184 with h184 | h184
                · obtain rfl : x = 183 := by omega
                  exact List.all_eq_true.mp jx_ck183 i (List.mem_range.mpr hi)
                · rcases Nat.lt_or_ge x 185 with h185 | h185
                  · obtain rfl : x = 184 := by omega
                    exact List.all_eq_true.mp jx_ck184 i (List.mem_range.mpr hi)
                  · obtain rfl : x = 185 := by omega
                    exact List.all_eq_true.mp jx_ck185 i (List.mem_range.mpr hi)
            · rcases Nat.lt_or_ge x 189 with h189 | h189
              · rcases Nat.lt_or_ge x 187 with h187 | h187
                · obtain rfl : x = 186 := by omega
                  exact List.all_eq_true.mp jx_ck186 i (List.mem_range.mpr hi)
                · rcases Nat.lt_or_ge x 188 with h188 | h188
                  · obtain rfl : x = 187 := by omega
                    exact List.all_eq_true.mp jx_ck187 i (List.mem_range.mpr hi)
                  · obtain rfl : x = 188 := by omega
                    exact List.all_eq_true.mp jx_ck188 i (List.mem_range.mpr hi)
              · rcases Nat.lt_or_ge x 190 with h190 | h190
                · obtain rfl : x = 189 := by omega
                  exact List.all_eq_true.mp jx_ck189 i (List.mem_range.mpr hi)
                · rcases Nat.lt_or_ge x 191 with h191 | h191
                  · obtain rfl : x = 190 := by omega
                    exact List.all_eq_true.mp jx_ck190 i (List.mem_range.mpr hi)
                  · obtain rfl : x = 191 := by omega
                    exact List.all_eq_true.mp jx_ck191 i (List.mem_range.mpr hi)

