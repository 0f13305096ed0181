/-! every method, checked by evaluation: all -/
theorem ck_s {P : Nat → Prop} {n : Nat} (h : ∀ m, m < n → P m) (k : P n) : ∀ m, m < n + 1 → P m := fun m hm => (Nat.lt_succ_iff_lt_or_eq.mp hm).elim (h m) (fun e => e ▸ k)
theorem hw_all : ∀ m, m < hwLw → okC m = true ∧ okD m = true := by
  have h0 : ∀ m, m < 0 → okC m = true ∧ okD m = true := fun m h => absurd h (Nat.not_lt_zero m)
  have h1 : ∀ m, m < 1 → okC m = true ∧ okD m = true := ck_s h0 ck_X0_work
  have h2 : ∀ m, m < 2 → okC m = true ∧ okD m = true := ck_s h1 ck_X0_lots
  have h3 : ∀ m, m < 3 → okC m = true ∧ okD m = true := ck_s h2 ck_X0_pick
  have h4 : ∀ m, m < 4 → okC m = true ∧ okD m = true := ck_s h3 ck_X1_settle
  have h5 : ∀ m, m < 5 → okC m = true ∧ okD m = true := ck_s h4 ck_X1_all
  have h6 : ∀ m, m < 6 → okC m = true ∧ okD m = true := ck_s h5 ck_X1_has
  have h7 : ∀ m, m < 7 → okC m = true ∧ okD m = true := ck_s h6 ck_X1_walk
  have h8 : ∀ m, m < 8 → okC m = true ∧ okD m = true := ck_s h7 ck_X1_wellOf
  have h9 : ∀ m, m < 9 → okC m = true ∧ okD m = true := ck_s h8 ck_X1_leaving
  have h10 : ∀ m, m < 10 → okC m = true ∧ okD m = true := ck_s h9 ck_X1_given
  have h11 : ∀ m, m < 11 → okC m = true ∧ okD m = true := ck_s h10 ck_X2_lay
  have h12 : ∀ m, m < 12 → okC m = true ∧ okD m = true := ck_s h11 ck_X2_deepest
  have h13 : ∀ m, m < 13 → okC m = true ∧ okD m = true := ck_s h12 ck_X2_worth
  have h14 : ∀ m, m < 14 → okC m = true ∧ okD m = true := ck_s h13 ck_X2_goodOf
  have h15 : ∀ m, m < 15 → okC m = true ∧ okD m = true := ck_s h14 ck_X2_reweigh
  have h16 : ∀ m, m < 16 → okC m = true ∧ okD m = true := ck_s h15 ck_X3_keep
  have h17 : ∀ m, m < 17 → okC m = true ∧ okD m = true := ck_s h16 ck_X3_restore
  have h18 : ∀ m, m < 18 → okC m = true ∧ okD m = true := ck_s h17 ck_X3_carry
  have h19 : ∀ m, m < 19 → okC m = true ∧ okD m = true := ck_s h18 ck_X4_readTape
  have h20 : ∀ m, m < 20 → okC m = true ∧ okD m = true := ck_s h19 ck_X4_weigh
  have h21 : ∀ m, m < 21 → okC m = true ∧ okD m = true := ck_s h20 ck_X4_weighLayers
  have h22 : ∀ m, m < 22 → okC m = true ∧ okD m = true := ck_s h21 ck_X4_part
  have h23 : ∀ m, m < 23 → okC m = true ∧ okD m = true := ck_s h22 ck_X4_worked
  have h24 : ∀ m, m < 24 → okC m = true ∧ okD m = true := ck_s h23 ck_X4_valueOf
  have h25 : ∀ m, m < 25 → okC m = true ∧ okD m = true := ck_s h24 ck_X4_turned
  have h26 : ∀ m, m < 26 → okC m = true ∧ okD m = true := ck_s h25 ck_X4_joined
  have h27 : ∀ m, m < 27 → okC m = true ∧ okD m = true := ck_s h26 ck_X4_truth
  have h28 : ∀ m, m < 28 → okC m = true ∧ okD m = true := ck_s h27 ck_X4_costsOf
  have h29 : ∀ m, m < 29 → okC m = true ∧ okD m = true := ck_s h28 ck_X4_fallen
  have h30 : ∀ m, m < 30 → okC m = true ∧ okD m = true := ck_s h29 ck_X4_bestLining
  have h31 : ∀ m, m < 31 → okC m = true ∧ okD m = true := ck_s h30 ck_X5_reckon
  have h32 : ∀ m, m < 32 → okC m = true ∧ okD m = true := ck_s h31 ck_X5_descend
  have h33 : ∀ m, m < 33 → okC m = true ∧ okD m = true := ck_s h32 ck_X5_find
  have h34 : ∀ m, m < 34 → okC m = true ∧ okD m = true := ck_s h33 ck_X6_begin
  have h35 : ∀ m, m < 35 → okC m = true ∧ okD m = true := ck_s h34 ck_X6_nextYard
  have h36 : ∀ m, m < 36 → okC m = true ∧ okD m = true := ck_s h35 ck_X6_openYard
  have h37 : ∀ m, m < 37 → okC m = true ∧ okD m = true := ck_s h36 ck_X6_pass
  have h38 : ∀ m, m < 38 → okC m = true ∧ okD m = true := ck_s h37 ck_X6_dryWith
  have h39 : ∀ m, m < 39 → okC m = true ∧ okD m = true := ck_s h38 ck_X6_sink
  have h40 : ∀ m, m < 40 → okC m = true ∧ okD m = true := ck_s h39 ck_X6_wetOf
  have h41 : ∀ m, m < 41 → okC m = true ∧ okD m = true := ck_s h40 ck_X6_wet
  have h42 : ∀ m, m < 42 → okC m = true ∧ okD m = true := ck_s h41 ck_X6_gain
  have h43 : ∀ m, m < 43 → okC m = true ∧ okD m = true := ck_s h42 ck_X6_goingOn
  have h44 : ∀ m, m < 44 → okC m = true ∧ okD m = true := ck_s h43 ck_X6_worthOf
  have h45 : ∀ m, m < 45 → okC m = true ∧ okD m = true := ck_s h44 ck_X6_leastWorth
  have h46 : ∀ m, m < 46 → okC m = true ∧ okD m = true := ck_s h45 ck_X6_firstWrong
  have h47 : ∀ m, m < 47 → okC m = true ∧ okD m = true := ck_s h46 ck_X6_chanceOf
  have h48 : ∀ m, m < 48 → okC m = true ∧ okD m = true := ck_s h47 ck_X6_toldBy
  have h49 : ∀ m, m < 49 → okC m = true ∧ okD m = true := ck_s h48 ck_X6_boreWorth
  have h50 : ∀ m, m < 50 → okC m = true ∧ okD m = true := ck_s h49 ck_X6_bestBore
  have h51 : ∀ m, m < 51 → okC m = true ∧ okD m = true := ck_s h50 ck_X6_wordWorth
  have h52 : ∀ m, m < 52 → okC m = true ∧ okD m = true := ck_s h51 ck_X6_leastRight
  have h53 : ∀ m, m < 53 → okC m = true ∧ okD m = true := ck_s h52 ck_X6_spoken
  have h54 : ∀ m, m < 54 → okC m = true ∧ okD m = true := ck_s h53 ck_X6_heeded
  have h55 : ∀ m, m < 55 → okC m = true ∧ okD m = true := ck_s h54 ck_X6_learning
  have h56 : ∀ m, m < 56 → okC m = true ∧ okD m = true := ck_s h55 ck_X6_teaches
  have h57 : ∀ m, m < 57 → okC m = true ∧ okD m = true := ck_s h56 ck_X6_mix
  have h58 : ∀ m, m < 58 → okC m = true ∧ okD m = true := ck_s h57 ck_X7_found
  have h59 : ∀ m, m < 59 → okC m = true ∧ okD m = true := ck_s h58 ck_X7_deepen
  have h60 : ∀ m, m < 60 → okC m = true ∧ okD m = true := ck_s h59 ck_X7_signOf
  have h61 : ∀ m, m < 61 → okC m = true ∧ okD m = true := ck_s h60 ck_X7_allFirst
  have h62 : ∀ m, m < 62 → okC m = true ∧ okD m = true := ck_s h61 ck_X8_record
  have h63 : ∀ m, m < 63 → okC m = true ∧ okD m = true := ck_s h62 ck_X8_readsText
  have h64 : ∀ m, m < 64 → okC m = true ∧ okD m = true := ck_s h63 ck_X8_step
  have h65 : ∀ m, m < 65 → okC m = true ∧ okD m = true := ck_s h64 ck_X8_isLetter
  have h66 : ∀ m, m < 66 → okC m = true ∧ okD m = true := ck_s h65 ck_X8_isDigit
  have h67 : ∀ m, m < 67 → okC m = true ∧ okD m = true := ck_s h66 ck_X8_readNumber
  have h68 : ∀ m, m < 68 → okC m = true ∧ okD m = true := ck_s h67 ck_X8_readWord
  have h69 : ∀ m, m < 69 → okC m = true ∧ okD m = true := ck_s h68 ck_X8_isWord
  have h70 : ∀ m, m < 70 → okC m = true ∧ okD m = true := ck_s h69 ck_X8_reads
  have h71 : ∀ m, m < 71 → okC m = true ∧ okD m = true := ck_s h70 ck_X8_readsPart
  have h72 : ∀ m, m < 72 → okC m = true ∧ okD m = true := ck_s h71 ck_X8_joins
  have h73 : ∀ m, m < 73 → okC m = true ∧ okD m = true := ck_s h72 ck_X8_readsNot
  have h74 : ∀ m, m < 74 → okC m = true ∧ okD m = true := ck_s h73 ck_X8_readsOne
  have h75 : ∀ m, m < 75 → okC m = true ∧ okD m = true := ck_s h74 ck_X8_emit
  have h76 : ∀ m, m < 76 → okC m = true ∧ okD m = true := ck_s h75 ck_X9_make
  have h77 : ∀ m, m < 77 → okC m = true ∧ okD m = true := ck_s h76 ck_X9_isOne
  have h78 : ∀ m, m < 78 → okC m = true ∧ okD m = true := ck_s h77 ck_X9_goesOn
  have h79 : ∀ m, m < 79 → okC m = true ∧ okD m = true := ck_s h78 ck_X10_isMissing
  have h80 : ∀ m, m < 80 → okC m = true ∧ okD m = true := ck_s h79 ck_X10_lay
  have h81 : ∀ m, m < 81 → okC m = true ∧ okD m = true := ck_s h80 ck_X10_has
  have h82 : ∀ m, m < 82 → okC m = true ∧ okD m = true := ck_s h81 ck_X10_holds
  have h83 : ∀ m, m < 83 → okC m = true ∧ okD m = true := ck_s h82 ck_X10_write
  have h84 : ∀ m, m < 84 → okC m = true ∧ okD m = true := ck_s h83 ck_X10_allWithin
  have h85 : ∀ m, m < 85 → okC m = true ∧ okD m = true := ck_s h84 ck_X11_within
  have h86 : ∀ m, m < 86 → okC m = true ∧ okD m = true := ck_s h85 ck_X11_isSheet
  have h87 : ∀ m, m < 87 → okC m = true ∧ okD m = true := ck_s h86 ck_X11_isLayer
  have h88 : ∀ m, m < 88 → okC m = true ∧ okD m = true := ck_s h87 ck_X11_isPlace
  have h89 : ∀ m, m < 89 → okC m = true ∧ okD m = true := ck_s h88 ck_X11_isRule
  have h90 : ∀ m, m < 90 → okC m = true ∧ okD m = true := ck_s h89 ck_X11_layer
  have h91 : ∀ m, m < 91 → okC m = true ∧ okD m = true := ck_s h90 ck_X11_newLayer
  have h92 : ∀ m, m < 92 → okC m = true ∧ okD m = true := ck_s h91 ck_X11_follow
  have h93 : ∀ m, m < 93 → okC m = true ∧ okD m = true := ck_s h92 ck_X11_set
  have h94 : ∀ m, m < 94 → okC m = true ∧ okD m = true := ck_s h93 ck_X11_count
  have h95 : ∀ m, m < 95 → okC m = true ∧ okD m = true := ck_s h94 ck_X11_feed
  have h96 : ∀ m, m < 96 → okC m = true ∧ okD m = true := ck_s h95 ck_X11_text
  have h97 : ∀ m, m < 97 → okC m = true ∧ okD m = true := ck_s h96 ck_X11_force
  have h98 : ∀ m, m < 98 → okC m = true ∧ okD m = true := ck_s h97 ck_X11_asks
  have h99 : ∀ m, m < 99 → okC m = true ∧ okD m = true := ck_s h98 ck_X11_place
  have h100 : ∀ m, m < 100 → okC m = true ∧ okD m = true := ck_s h99 ck_X11_ties
  have h101 : ∀ m, m < 101 → okC m = true ∧ okD m = true := ck_s h100 ck_X11_dig
  have h102 : ∀ m, m < 102 → okC m = true ∧ okD m = true := ck_s h101 ck_X11_fill
  have h103 : ∀ m, m < 103 → okC m = true ∧ okD m = true := ck_s h102 ck_X11_told
  have h104 : ∀ m, m < 104 → okC m = true ∧ okD m = true := ck_s h103 ck_X11_think
  have h105 : ∀ m, m < 105 → okC m = true ∧ okD m = true := ck_s h104 ck_X11_likely
  have h106 : ∀ m, m < 106 → okC m = true ∧ okD m = true := ck_s h105 ck_X11_judge
  have h107 : ∀ m, m < 107 → okC m = true ∧ okD m = true := ck_s h106 ck_X11_row
  have h108 : ∀ m, m < 108 → okC m = true ∧ okD m = true := ck_s h107 ck_X11_best
  have h109 : ∀ m, m < 109 → okC m = true ∧ okD m = true := ck_s h108 ck_X11_back
  have h110 : ∀ m, m < 110 → okC m = true ∧ okD m = true := ck_s h109 ck_X11_index
  have h111 : ∀ m, m < 111 → okC m = true ∧ okD m = true := ck_s h110 ck_X11_next
  have h112 : ∀ m, m < 112 → okC m = true ∧ okD m = true := ck_s h111 ck_X11_rule
  have h113 : ∀ m, m < 113 → okC m = true ∧ okD m = true := ck_s h112 ck_X11_ruleTold
  have h114 : ∀ m, m < 114 → okC m = true ∧ okD m = true := ck_s h113 ck_X11_mean
  have h115 : ∀ m, m < 115 → okC m = true ∧ okD m = true := ck_s h114 ck_X11_right
  have h116 : ∀ m, m < 116 → okC m = true ∧ okD m = true := ck_s h115 ck_X11_goesBy
  have h117 : ∀ m, m < 117 → okC m = true ∧ okD m = true := ck_s h116 ck_X11_bore
  have h118 : ∀ m, m < 118 → okC m = true ∧ okD m = true := ck_s h117 ck_X11_far
  have h119 : ∀ m, m < 119 → okC m = true ∧ okD m = true := ck_s h118 ck_X11_diviner
  have h120 : ∀ m, m < 120 → okC m = true ∧ okD m = true := ck_s h119 ck_X11_believe
  have h121 : ∀ m, m < 121 → okC m = true ∧ okD m = true := ck_s h120 ck_X11_fall
  have h122 : ∀ m, m < 122 → okC m = true ∧ okD m = true := ck_s h121 ck_X11_line
  have h123 : ∀ m, m < 123 → okC m = true ∧ okD m = true := ck_s h122 ck_X11_farm
  have h124 : ∀ m, m < 124 → okC m = true ∧ okD m = true := ck_s h123 ck_X11_share
  have h125 : ∀ m, m < 125 → okC m = true ∧ okD m = true := ck_s h124 ck_X11_join
  have h126 : ∀ m, m < 126 → okC m = true ∧ okD m = true := ck_s h125 ck_X11_learn
  have h127 : ∀ m, m < 127 → okC m = true ∧ okD m = true := ck_s h126 ck_X11_first
  have h128 : ∀ m, m < 128 → okC m = true ∧ okD m = true := ck_s h127 ck_X11_drawn
  have h129 : ∀ m, m < 129 → okC m = true ∧ okD m = true := ck_s h128 ck_X11_image
  have h130 : ∀ m, m < 130 → okC m = true ∧ okD m = true := ck_s h129 ck_X11_undo
  have h131 : ∀ m, m < 131 → okC m = true ∧ okD m = true := ck_s h130 ck_X11_sheet
  have h132 : ∀ m, m < 132 → okC m = true ∧ okD m = true := ck_s h131 ck_X11_cell
  have h133 : ∀ m, m < 133 → okC m = true ∧ okD m = true := ck_s h132 ck_X11_copy
  have h134 : ∀ m, m < 134 → okC m = true ∧ okD m = true := ck_s h133 ck_X11_layersBy
  have h135 : ∀ m, m < 135 → okC m = true ∧ okD m = true := ck_s h134 ck_X11_taken
  have h136 : ∀ m, m < 136 → okC m = true ∧ okD m = true := ck_s h135 ck_X12_first
  have h137 : ∀ m, m < 137 → okC m = true ∧ okD m = true := ck_s h136 ck_X12_in
  have h138 : ∀ m, m < 138 → okC m = true ∧ okD m = true := ck_s h137 ck_X12_isLayer
  have h139 : ∀ m, m < 139 → okC m = true ∧ okD m = true := ck_s h138 ck_X12_isPlace
  have h140 : ∀ m, m < 140 → okC m = true ∧ okD m = true := ck_s h139 ck_X12_isRule
  have h141 : ∀ m, m < 141 → okC m = true ∧ okD m = true := ck_s h140 ck_X12_layer
  have h142 : ∀ m, m < 142 → okC m = true ∧ okD m = true := ck_s h141 ck_X12_follow
  have h143 : ∀ m, m < 143 → okC m = true ∧ okD m = true := ck_s h142 ck_X12_set
  have h144 : ∀ m, m < 144 → okC m = true ∧ okD m = true := ck_s h143 ck_X12_holds
  have h145 : ∀ m, m < 145 → okC m = true ∧ okD m = true := ck_s h144 ck_X12_count
  have h146 : ∀ m, m < 146 → okC m = true ∧ okD m = true := ck_s h145 ck_X12_feed
  have h147 : ∀ m, m < 147 → okC m = true ∧ okD m = true := ck_s h146 ck_X12_letters
  have h148 : ∀ m, m < 148 → okC m = true ∧ okD m = true := ck_s h147 ck_X12_nextToken
  have h149 : ∀ m, m < 149 → okC m = true ∧ okD m = true := ck_s h148 ck_X12_rank
  have h150 : ∀ m, m < 150 → okC m = true ∧ okD m = true := ck_s h149 ck_X12_puts
  have h151 : ∀ m, m < 151 → okC m = true ∧ okD m = true := ck_s h150 ck_X12_unwinds
  have h152 : ∀ m, m < 152 → okC m = true ∧ okD m = true := ck_s h151 ck_X12_holds_
  have h153 : ∀ m, m < 153 → okC m = true ∧ okD m = true := ck_s h152 ck_X12_opensOne
  have h154 : ∀ m, m < 154 → okC m = true ∧ okD m = true := ck_s h153 ck_X12_between
  have h155 : ∀ m, m < 155 → okC m = true ∧ okD m = true := ck_s h154 ck_X12_signOf
  have h156 : ∀ m, m < 156 → okC m = true ∧ okD m = true := ck_s h155 ck_X12_eRead
  have h157 : ∀ m, m < 157 → okC m = true ∧ okD m = true := ck_s h156 ck_X12_text
  have h158 : ∀ m, m < 158 → okC m = true ∧ okD m = true := ck_s h157 ck_X12_two
  have h159 : ∀ m, m < 159 → okC m = true ∧ okD m = true := ck_s h158 ck_X12_worth
  have h160 : ∀ m, m < 160 → okC m = true ∧ okD m = true := ck_s h159 ck_X12_force
  have h161 : ∀ m, m < 161 → okC m = true ∧ okD m = true := ck_s h160 ck_X12_names
  have h162 : ∀ m, m < 162 → okC m = true ∧ okD m = true := ck_s h161 ck_X12_costOf
  have h163 : ∀ m, m < 163 → okC m = true ∧ okD m = true := ck_s h162 ck_X12_waterOf
  have h164 : ∀ m, m < 164 → okC m = true ∧ okD m = true := ck_s h163 ck_X12_fallOf
  have h165 : ∀ m, m < 165 → okC m = true ∧ okD m = true := ck_s h164 ck_X12_asks
  have h166 : ∀ m, m < 166 → okC m = true ∧ okD m = true := ck_s h165 ck_X12_place
  have h167 : ∀ m, m < 167 → okC m = true ∧ okD m = true := ck_s h166 ck_X12_ties
  have h168 : ∀ m, m < 168 → okC m = true ∧ okD m = true := ck_s h167 ck_X12_dig
  have h169 : ∀ m, m < 169 → okC m = true ∧ okD m = true := ck_s h168 ck_X12_fill
  have h170 : ∀ m, m < 170 → okC m = true ∧ okD m = true := ck_s h169 ck_X12_told
  have h171 : ∀ m, m < 171 → okC m = true ∧ okD m = true := ck_s h170 ck_X12_begins
  have h172 : ∀ m, m < 172 → okC m = true ∧ okD m = true := ck_s h171 ck_X12_dries
  have h173 : ∀ m, m < 173 → okC m = true ∧ okD m = true := ck_s h172 ck_X12_allBelow
  have h174 : ∀ m, m < 174 → okC m = true ∧ okD m = true := ck_s h173 ck_X12_below
  have h175 : ∀ m, m < 175 → okC m = true ∧ okD m = true := ck_s h174 ck_X12_thinks
  have h176 : ∀ m, m < 176 → okC m = true ∧ okD m = true := ck_s h175 ck_X12_wetOf
  have h177 : ∀ m, m < 177 → okC m = true ∧ okD m = true := ck_s h176 ck_X12_worthOf
  have h178 : ∀ m, m < 178 → okC m = true ∧ okD m = true := ck_s h177 ck_X12_think
  have h179 : ∀ m, m < 179 → okC m = true ∧ okD m = true := ck_s h178 ck_X12_likely
  have h180 : ∀ m, m < 180 → okC m = true ∧ okD m = true := ck_s h179 ck_X12_judge
  have h181 : ∀ m, m < 181 → okC m = true ∧ okD m = true := ck_s h180 ck_X12_row
  have h182 : ∀ m, m < 182 → okC m = true ∧ okD m = true := ck_s h181 ck_X12_goesOn
  have h183 : ∀ m, m < 183 → okC m = true ∧ okD m = true := ck_s h182 ck_X12_valueOf
  have h184 : ∀ m, m < 184 → okC m = true ∧ okD m = true := ck_s h183 ck_X12_goesHere
  have h185 : ∀ m, m < 185 → okC m = true ∧ okD m = true := ck_s h184 ck_X12_best
  have h186 : ∀ m, m < 186 → okC m = true ∧ okD m = true := ck_s h185 ck_X12_back
  have h187 : ∀ m, m < 187 → okC m = true ∧ okD m = true := ck_s h186 ck_X12_indexOf
  have h188 : ∀ m, m < 188 → okC m = true ∧ okD m = true := ck_s h187 ck_X12_index
  have h189 : ∀ m, m < 189 → okC m = true ∧ okD m = true := ck_s h188 ck_X12_next
  have h190 : ∀ m, m < 190 → okC m = true ∧ okD m = true := ck_s h189 ck_X12_rule
  have h191 : ∀ m, m < 191 → okC m = true ∧ okD m = true := ck_s h190 ck_X12_ruleTold
  have h192 : ∀ m, m < 192 → okC m = true ∧ okD m = true := ck_s h191 ck_X12_doesDig
  have h193 : ∀ m, m < 193 → okC m = true ∧ okD m = true := ck_s h192 ck_X12_digs
  have h194 : ∀ m, m < 194 → okC m = true ∧ okD m = true := ck_s h193 ck_X12_means
  have h195 : ∀ m, m < 195 → okC m = true ∧ okD m = true := ck_s h194 ck_X12_mean
  have h196 : ∀ m, m < 196 → okC m = true ∧ okD m = true := ck_s h195 ck_X12_right
  have h197 : ∀ m, m < 197 → okC m = true ∧ okD m = true := ck_s h196 ck_X12_goesBy
  have h198 : ∀ m, m < 198 → okC m = true ∧ okD m = true := ck_s h197 ck_X12_tells
  have h199 : ∀ m, m < 199 → okC m = true ∧ okD m = true := ck_s h198 ck_X12_boreOf
  have h200 : ∀ m, m < 200 → okC m = true ∧ okD m = true := ck_s h199 ck_X12_bore
  have h201 : ∀ m, m < 201 → okC m = true ∧ okD m = true := ck_s h200 ck_X12_far
  have h202 : ∀ m, m < 202 → okC m = true ∧ okD m = true := ck_s h201 ck_X12_divines
  have h203 : ∀ m, m < 203 → okC m = true ∧ okD m = true := ck_s h202 ck_X12_diviner
  have h204 : ∀ m, m < 204 → okC m = true ∧ okD m = true := ck_s h203 ck_X12_believe
  have h205 : ∀ m, m < 205 → okC m = true ∧ okD m = true := ck_s h204 ck_X12_fallen
  have h206 : ∀ m, m < 206 → okC m = true ∧ okD m = true := ck_s h205 ck_X12_fall
  have h207 : ∀ m, m < 207 → okC m = true ∧ okD m = true := ck_s h206 ck_X12_costsTo
  have h208 : ∀ m, m < 208 → okC m = true ∧ okD m = true := ck_s h207 ck_X12_line
  have h209 : ∀ m, m < 209 → okC m = true ∧ okD m = true := ck_s h208 ck_X12_farm
  have h210 : ∀ m, m < 210 → okC m = true ∧ okD m = true := ck_s h209 ck_X12_findsWell
  have h211 : ∀ m, m < 211 → okC m = true ∧ okD m = true := ck_s h210 ck_X12_share
  have h212 : ∀ m, m < 212 → okC m = true ∧ okD m = true := ck_s h211 ck_X12_partsOf
  have h213 : ∀ m, m < 213 → okC m = true ∧ okD m = true := ck_s h212 ck_X12_join
  have h214 : ∀ m, m < 214 → okC m = true ∧ okD m = true := ck_s h213 ck_X12_learns
  have h215 : ∀ m, m < 215 → okC m = true ∧ okD m = true := ck_s h214 ck_X12_learn
  have h216 : ∀ m, m < 216 → okC m = true ∧ okD m = true := ck_s h215 ck_X12_first_
  have h217 : ∀ m, m < 217 → okC m = true ∧ okD m = true := ck_s h216 ck_X12_draws
  have h218 : ∀ m, m < 218 → okC m = true ∧ okD m = true := ck_s h217 ck_X12_drawsLayer
  have h219 : ∀ m, m < 219 → okC m = true ∧ okD m = true := ck_s h218 ck_X12_drawn
  have h220 : ∀ m, m < 220 → okC m = true ∧ okD m = true := ck_s h219 ck_X12_image
  have h221 : ∀ m, m < 221 → okC m = true ∧ okD m = true := ck_s h220 ck_X12_undo
  have h222 : ∀ m, m < 222 → okC m = true ∧ okD m = true := ck_s h221 ck_X12_sheet
  have h223 : ∀ m, m < 223 → okC m = true ∧ okD m = true := ck_s h222 ck_X12_cell
  have h224 : ∀ m, m < 224 → okC m = true ∧ okD m = true := ck_s h223 ck_X12_copy
  have h225 : ∀ m, m < 225 → okC m = true ∧ okD m = true := ck_s h224 ck_X12_layersBy
  have h226 : ∀ m, m < 226 → okC m = true ∧ okD m = true := ck_s h225 ck_X12_isUnder
  have h227 : ∀ m, m < 227 → okC m = true ∧ okD m = true := ck_s h226 ck_X12_taken
  exact h227
theorem ck_lawB : ∀ i, i < 102 → okB i = true := by
  have h0 : ∀ i, i < 0 → okB i = true := fun m h => absurd h (Nat.not_lt_zero m)
  have h1 : ∀ i, i < 1 → okB i = true := ck_s h0 cl_0
  have h2 : ∀ i, i < 2 → okB i = true := ck_s h1 cl_1
  have h3 : ∀ i, i < 3 → okB i = true := ck_s h2 cl_2
  have h4 : ∀ i, i < 4 → okB i = true := ck_s h3 cl_3
  have h5 : ∀ i, i < 5 → okB i = true := ck_s h4 cl_4
  have h6 : ∀ i, i < 6 → okB i = true := ck_s h5 cl_5
  have h7 : ∀ i, i < 7 → okB i = true := ck_s h6 cl_6
  have h8 : ∀ i, i < 8 → okB i = true := ck_s h7 cl_7
  have h9 : ∀ i, i < 9 → okB i = true := ck_s h8 cl_8
  have h10 : ∀ i, i < 10 → okB i = true := ck_s h9 cl_9
  have h11 : ∀ i, i < 11 → okB i = true := ck_s h10 cl_10
  have h12 : ∀ i, i < 12 → okB i = true := ck_s h11 cl_11
  have h13 : ∀ i, i < 13 → okB i = true := ck_s h12 cl_12
  have h14 : ∀ i, i < 14 → okB i = true := ck_s h13 cl_13
  have h15 : ∀ i, i < 15 → okB i = true := ck_s h14 cl_14
  have h16 : ∀ i, i < 16 → okB i = true := ck_s h15 cl_15
  have h17 : ∀ i, i < 17 → okB i = true := ck_s h16 cl_16
  have h18 : ∀ i, i < 18 → okB i = true := ck_s h17 cl_17
  have h19 : ∀ i, i < 19 → okB i = true := ck_s h18 cl_18
  have h20 : ∀ i, i < 20 → okB i = true := ck_s h19 cl_19
  have h21 : ∀ i, i < 21 → okB i = true := ck_s h20 cl_20
  have h22 : ∀ i, i < 22 → okB i = true := ck_s h21 cl_21
  have h23 : ∀ i, i < 23 → okB i = true := ck_s h22 cl_22
  have h24 : ∀ i, i < 24 → okB i = true := ck_s h23 cl_23
  have h25 : ∀ i, i < 25 → okB i = true := ck_s h24 cl_24
  have h26 : ∀ i, i < 26 → okB i = true := ck_s h25 cl_25
  have h27 : ∀ i, i < 27 → okB i = true := ck_s h26 cl_26
  have h28 : ∀ i, i < 28 → okB i = true := ck_s h27 cl_27
  have h29 : ∀ i, i < 29 → okB i = true := ck_s h28 cl_28
  have h30 : ∀ i, i < 30 → okB i = true := ck_s h29 cl_29
  have h31 : ∀ i, i < 31 → okB i = true := ck_s h30 cl_30
  have h32 : ∀ i, i < 32 → okB i = true := ck_s h31 cl_31
  have h33 : ∀ i, i < 33 → okB i = true := ck_s h32 cl_32
  have h34 : ∀ i, i < 34 → okB i = true := ck_s h33 cl_33
  have h35 : ∀ i, i < 35 → okB i = true := ck_s h34 cl_34
  have h36 : ∀ i, i < 36 → okB i = true := ck_s h35 cl_35
  have h37 : ∀ i, i < 37 → okB i = true := ck_s h36 cl_36
  have h38 : ∀ i, i < 38 → okB i = true := ck_s h37 cl_37
  have h39 : ∀ i, i < 39 → okB i = true := ck_s h38 cl_38
  have h40 : ∀ i, i < 40 → okB i = true := ck_s h39 cl_39
  have h41 : ∀ i, i < 41 → okB i = true := ck_s h40 cl_40
  have h42 : ∀ i, i < 42 → okB i = true := ck_s h41 cl_41
  have h43 : ∀ i, i < 43 → okB i = true := ck_s h42 cl_42
  have h44 : ∀ i, i < 44 → okB i = true := ck_s h43 cl_43
  have h45 : ∀ i, i < 45 → okB i = true := ck_s h44 cl_44
  have h46 : ∀ i, i < 46 → okB i = true := ck_s h45 cl_45
  have h47 : ∀ i, i < 47 → okB i = true := ck_s h46 cl_46
  have h48 : ∀ i, i < 48 → okB i = true := ck_s h47 cl_47
  have h49 : ∀ i, i < 49 → okB i = true := ck_s h48 cl_48
  have h50 : ∀ i, i < 50 → okB i = true := ck_s h49 cl_49
  have h51 : ∀ i, i < 51 → okB i = true := ck_s h50 cl_50
  have h52 : ∀ i, i < 52 → okB i = true := ck_s h51 cl_51
  have h53 : ∀ i, i < 53 → okB i = true := ck_s h52 cl_52
  have h54 : ∀ i, i < 54 → okB i = true := ck_s h53 cl_53
  have h55 : ∀ i, i < 55 → okB i = true := ck_s h54 cl_54
  have h56 : ∀ i, i < 56 → okB i = true := ck_s h55 cl_55
  have h57 : ∀ i, i < 57 → okB i = true := ck_s h56 cl_56
  have h58 : ∀ i, i < 58 → okB i = true := ck_s h57 cl_57
  have h59 : ∀ i, i < 59 → okB i = true := ck_s h58 cl_58
  have h60 : ∀ i, i < 60 → okB i = true := ck_s h59 cl_59
  have h61 : ∀ i, i < 61 → okB i = true := ck_s h60 cl_60
  have h62 : ∀ i, i < 62 → okB i = true := ck_s h61 cl_61
  have h63 : ∀ i, i < 63 → okB i = true := ck_s h62 cl_62
  have h64 : ∀ i, i < 64 → okB i = true := ck_s h63 cl_63
  have h65 : ∀ i, i < 65 → okB i = true := ck_s h64 cl_64
  have h66 : ∀ i, i < 66 → okB i = true := ck_s h65 cl_65
  have h67 : ∀ i, i < 67 → okB i = true := ck_s h66 cl_66
  have h68 : ∀ i, i < 68 → okB i = true := ck_s h67 cl_67
  have h69 : ∀ i, i < 69 → okB i = true := ck_s h68 cl_68
  have h70 : ∀ i, i < 70 → okB i = true := ck_s h69 cl_69
  have h71 : ∀ i, i < 71 → okB i = true := ck_s h70 cl_70
  have h72 : ∀ i, i < 72 → okB i = true := ck_s h71 cl_71
  have h73 : ∀ i, i < 73 → okB i = true := ck_s h72 cl_72
  have h74 : ∀ i, i < 74 → okB i = true := ck_s h73 cl_73
  have h75 : ∀ i, i < 75 → okB i = true := ck_s h74 cl_74
  have h76 : ∀ i, i < 76 → okB i = true := ck_s h75 cl_75
  have h77 : ∀ i, i < 77 → okB i = true := ck_s h76 cl_76
  have h78 : ∀ i, i < 78 → okB i = true := ck_s h77 cl_77
  have h79 : ∀ i, i < 79 → okB i = true := ck_s h78 cl_78
  have h80 : ∀ i, i < 80 → okB i = true := ck_s h79 cl_79
  have h81 : ∀ i, i < 81 → okB i = true := ck_s h80 cl_80
  have h82 : ∀ i, i < 82 → okB i = true := ck_s h81 cl_81
  have h83 : ∀ i, i < 83 → okB i = true := ck_s h82 cl_82
  have h84 : ∀ i, i < 84 → okB i = true := ck_s h83 cl_83
  have h85 : ∀ i, i < 85 → okB i = true := ck_s h84 cl_84
  have h86 : ∀ i, i < 86 → okB i = true := ck_s h85 cl_85
  have h87 : ∀ i, i < 87 → okB i = true := ck_s h86 cl_86
  have h88 : ∀ i, i < 88 → okB i = true := ck_s h87 cl_87
  have h89 : ∀ i, i < 89 → okB i = true := ck_s h88 cl_88
  have h90 : ∀ i, i < 90 → okB i = true := ck_s h89 cl_89
  have h91 : ∀ i, i < 91 → okB i = true := ck_s h90 cl_90
  have h92 : ∀ i, i < 92 → okB i = true := ck_s h91 cl_91
  have h93 : ∀ i, i < 93 → okB i = true := ck_s h92 cl_92
  have h94 : ∀ i, i < 94 → okB i = true := ck_s h93 cl_93
  have h95 : ∀ i, i < 95 → okB i = true := ck_s h94 cl_94
  have h96 : ∀ i, i < 96 → okB i = true := ck_s h95 cl_95
  have h97 : ∀ i, i < 97 → okB i = true := ck_s h96 cl_96
  have h98 : ∀ i, i < 98 → okB i = true := ck_s h97 cl_97
  have h99 : ∀ i, i < 99 → okB i = true := ck_s h98 cl_98
  have h100 : ∀ i, i < 100 → okB i = true := ck_s h99 cl_99
  have h101 : ∀ i, i < 101 → okB i = true := ck_s h100 cl_100
  have h102 : ∀ i, i < 102 → okB i = true := ck_s h101 cl_101
  exact h102
theorem ck_lawN : (hwCd mL_law).length = 102 := by decide +kernel
theorem ck_L_law : okD mL_law = true := by
  refine List.all_eq_true.mpr (fun b hb => ?_)
  obtain ⟨i, hi, e⟩ := List.getElem_of_mem hb
  have h := ck_lawB i (by rw [← ck_lawN]; exact hi)
  unfold okB at h
  rw [List.getElem?_eq_getElem hi, e] at h
  exact h
