section
/-! THE PROGRAM, printed by tools/prog.py out of the claim's own names: an instruction with what its pool entry means, place by place -/
abbrev mV : Type := Int ⊕ Int ⊕ Nat ⊕ Nat
abbrev mE : Type := Instr × Nat × Nat × Int
def mNth {α : Type} : List α → Nat → Option α
  | [], _ => none
  | a :: _, 0 => some a
  | _ :: l, n + 1 => mNth l n
abbrev M_Math_max : Nat := 0
abbrev M_Math_min : Nat := 1
abbrev M_Arr_fillL : Nat := 2
abbrev M_Arr_fillI : Nat := 3
abbrev M_Table_get : Nat := 4
abbrev M_Table_bothWays : Nat := 5
abbrev M_Table_put : Nat := 6
abbrev M_Table_sumOfRow : Nat := 7
abbrev M_Table_sum : Nat := 8
abbrev M_Table_howMany : Nat := 9
abbrev M_Table_holds : Nat := 10
abbrev M_Order_hasPlace : Nat := 11
abbrev M_Order_length : Nat := 12
abbrev M_Order_taskAt : Nat := 13
abbrev M_Order_placeOf : Nat := 14
abbrev M_Order_clear : Nat := 15
abbrev M_Order_add : Nat := 16
abbrev M_Order_restart : Nat := 17
abbrev M_Order_become : Nat := 18
abbrev M_Order_exchange : Nat := 19
abbrev M_Order_guessOf : Nat := 20
abbrev M_Beside_endAt : Nat := 21
abbrev M_Beside_latest : Nat := 22
abbrev M_Beside_reckon : Nat := 23
abbrev M_Spread_forceAt : Nat := 24
abbrev M_Spread_howMany : Nat := 25
abbrev M_Spread_from : Nat := 26
abbrev M_Spread_strongestLeft : Nat := 27
abbrev M_Spread_passOn : Nat := 28
abbrev M_Spread_isLeft : Nat := 29
abbrev M_Least_leastGuess : Nat := 30
abbrev M_Least_find : Nat := 31
abbrev M_Least_leastAfter : Nat := 32
abbrev M_Least_firstOfLeast : Nat := 33
abbrev M_Least_guessWithNext : Nat := 34
abbrev M_Team_leastBetween : Nat := 35
abbrev M_Team_teamOf : Nat := 36
abbrev M_Team_find : Nat := 37
abbrev M_Team_assign : Nat := 38
abbrev M_Team_mayBeBetter : Nat := 39
abbrev M_Team_keep : Nat := 40
abbrev M_Team_cutBefore : Nat := 41
abbrev M_Returns_above : Nat := 42
abbrev M_Returns_below : Nat := 43
abbrev M_Returns_reckonOne : Nat := 44
abbrev M_Returns_reckon : Nat := 45
abbrev M_Returns_spentFrom : Nat := 46
abbrev M_Returns_refine : Nat := 47
abbrev M_Rings_isLeaning : Nat := 48
abbrev M_Rings_howMany : Nat := 49
abbrev M_Rings_numberOf : Nat := 50
abbrev M_Rings_find : Nat := 51
abbrev M_Rings_lean : Nat := 52
abbrev M_Rings_number : Nat := 53
abbrev M_Rings_nextBlock : Nat := 54
abbrev M_Rings_blockAround : Nat := 55
abbrev M_Dt_task : Nat := 56
abbrev M_Dt_time : Nat := 57
abbrev M_Dt_need : Nat := 58
abbrev M_Dt_strength : Nat := 59
abbrev M_Dt_leans : Nat := 60
abbrev M_Dt_blocks : Nat := 61
abbrev M_Dt_block : Nat := 62
abbrev M_Dt_least : Nat := 63
abbrev M_Dt_leastAt : Nat := 64
abbrev M_Dt_saved : Nat := 65
abbrev M_Dt_at : Nat := 66
abbrev M_Dt_swap : Nat := 67
abbrev M_Dt_take : Nat := 68
abbrev M_Dt_guess : Nat := 69
abbrev M_Dt_torn : Nat := 70
abbrev M_Dt_chance : Nat := 71
abbrev M_Dt_mean : Nat := 72
abbrev M_Dt_often : Nat := 73
abbrev M_Dt_ends : Nat := 74
abbrev M_Dt_span : Nat := 75
abbrev M_Dt_between : Nat := 76
abbrev M_Dt_team : Nat := 77
abbrev M_Dt_force : Nat := 78
abbrev M_Dt_reach : Nat := 79
abbrev M_Dt_total : Nat := 80
abbrev M_Dt_isTask : Nat := 81
abbrev M_Dt_isTime : Nat := 82
abbrev M_Dt_isTeamSize : Nat := 83
abbrev M_Dt_sumOfTimes : Nat := 84
abbrev M_Dt_inLeastTerms : Nat := 85
abbrev M_Dt_commonDivisor : Nat := 86
abbrev M_Dt_valueOf : Nat := 87
abbrev M_Md_in : Nat := 88
abbrev M_Md_no : Nat := 89
abbrev M_Md_told : Nat := 90
abbrev M_Md_task : Nat := 91
abbrev M_Md_time : Nat := 92
abbrev M_Md_need : Nat := 93
abbrev M_Md_strength : Nat := 94
abbrev M_Md_lean : Nat := 95
abbrev M_Md_leans : Nat := 96
abbrev M_Md_isOne : Nat := 97
abbrev M_Md_isNext : Nat := 98
abbrev M_Md_numbered : Nat := 99
abbrev M_Md_blocks : Nat := 100
abbrev M_Md_block : Nat := 101
abbrev M_Md_guessed : Nat := 102
abbrev M_Md_leastOf : Nat := 103
abbrev M_Md_leastRow : Nat := 104
abbrev M_Md_least : Nat := 105
abbrev M_Md_leastAt : Nat := 106
abbrev M_Md_saved : Nat := 107
abbrev M_Md_at : Nat := 108
abbrev M_Md_guessOf : Nat := 109
abbrev M_Md_swap : Nat := 110
abbrev M_Md_take : Nat := 111
abbrev M_Md_guess : Nat := 112
abbrev M_Md_placeOf : Nat := 113
abbrev M_Md_torn : Nat := 114
abbrev M_Md_chance : Nat := 115
abbrev M_Md_meanOf : Nat := 116
abbrev M_Md_mean : Nat := 117
abbrev M_Md_often : Nat := 118
abbrev M_Md_beside : Nat := 119
abbrev M_Md_ends : Nat := 120
abbrev M_Md_span : Nat := 121
abbrev M_Md_betweenOf : Nat := 122
abbrev M_Md_teamsOf : Nat := 123
abbrev M_Md_isMore : Nat := 124
abbrev M_Md_greatest : Nat := 125
abbrev M_Md_teams : Nat := 126
abbrev M_Md_between : Nat := 127
abbrev M_Md_team : Nat := 128
abbrev M_Md_forces : Nat := 129
abbrev M_Md_force : Nat := 130
abbrev M_Md_reach : Nat := 131
abbrev M_Md_total : Nat := 132
abbrev M_Law : Nat := 133
def mp_0 : List (List (Option mE)) := [
  [some (.iload_n 0, 0, 0, 0), some (.iload_n 1, 0, 0, 0), some (.if_icmp .lt 7, 9, 0, 0), none, none, some (.iload_n 0, 0, 0, 0), some (.goto 4, 10, 0, 0), none, none, some (.iload_n 1, 0, 0, 0), some (.ireturn, 0, 0, 0)]]
def mp_1 : List (List (Option mE)) := [
  [some (.iload_n 0, 0, 0, 0), some (.iload_n 1, 0, 0, 0), some (.if_icmp .gt 7, 9, 0, 0), none, none, some (.iload_n 0, 0, 0, 0), some (.goto 4, 10, 0, 0), none, none, some (.iload_n 1, 0, 0, 0), some (.ireturn, 0, 0, 0)]]
def mp_2 : List (List (Option mE)) := [
  [some (.iconst 0, 0, 0, 0), some (.istore_n 3, 0, 0, 0), some (.aload_n 0, 0, 0, 0), some (.arraylength, 0, 0, 0), some (.istore 4, 0, 0, 0), none, some (.iload_n 3, 0, 0, 0), some (.iload 4, 0, 0, 0), none, some (.if_icmp .ge 13, 22, 0, 0), none, none, some (.aload_n 0, 0, 0, 0), some (.iload_n 3, 0, 0, 0), some (.lload_n 1, 0, 0, 0), some (.lastore, 0, 0, 0)],
  [some (.iinc 3 1, 0, 0, 0), none, none, some (.goto (-13), 6, 0, 0), none, none, some (.return_, 0, 0, 0)]]
def mp_3 : List (List (Option mE)) := [
  [some (.iconst 0, 0, 0, 0), some (.istore_n 2, 0, 0, 0), some (.aload_n 0, 0, 0, 0), some (.arraylength, 0, 0, 0), some (.istore_n 3, 0, 0, 0), some (.iload_n 2, 0, 0, 0), some (.iload_n 3, 0, 0, 0), some (.if_icmp .ge 13, 20, 0, 0), none, none, some (.aload_n 0, 0, 0, 0), some (.iload_n 2, 0, 0, 0), some (.iload_n 1, 0, 0, 0), some (.iastore, 0, 0, 0), some (.iinc 2 1, 0, 0, 0), none],
  [none, some (.goto (-12), 5, 0, 0), none, none, some (.return_, 0, 0, 0)]]
def mp_4 : List (List (Option mE)) := [
  [some (.iload_n 1, 0, 0, 0), some (.iload_n 2, 0, 0, 0), some (.invokestatic 15, 10, 0, 0), none, none, some (.ifCond .eq 17, 22, 0, 0), none, none, some (.aload_n 0, 0, 0, 0), some (.getfield 9, 6, 0, 0), none, none, some (.iload_n 1, 0, 0, 0), some (.bipush 8, 0, 0, 8), none, some (.imul, 0, 0, 0)],
  [some (.iload_n 2, 0, 0, 0), some (.iadd, 0, 0, 0), some (.iaload, 0, 0, 0), some (.goto 4, 23, 0, 0), none, none, some (.iconst 0, 0, 0, 0), some (.ireturn, 0, 0, 0)]]
def mp_5 : List (List (Option mE)) := [
  [some (.aload_n 0, 0, 0, 0), some (.iload_n 1, 0, 0, 0), some (.iload_n 2, 0, 0, 0), some (.invokevirtual 19, 4, 0, 0), none, none, some (.aload_n 0, 0, 0, 0), some (.iload_n 2, 0, 0, 0), some (.iload_n 1, 0, 0, 0), some (.invokevirtual 19, 4, 0, 0), none, none, some (.iadd, 0, 0, 0), some (.ireturn, 0, 0, 0)]]
def mp_6 : List (List (Option mE)) := [
  [some (.iload_n 1, 0, 0, 0), some (.iload_n 2, 0, 0, 0), some (.invokestatic 15, 10, 0, 0), none, none, some (.ifCond .ne 5, 10, 0, 0), none, none, some (.iconst 0, 0, 0, 0), some (.ireturn, 0, 0, 0), some (.iload_n 1, 0, 0, 0), some (.bipush 8, 0, 0, 8), none, some (.imul, 0, 0, 0), some (.iload_n 2, 0, 0, 0), some (.iadd, 0, 0, 0)],
  [some (.istore 4, 0, 0, 0), none, some (.aload_n 0, 0, 0, 0), some (.getfield 9, 6, 0, 0), none, none, some (.iload 4, 0, 0, 0), none, some (.iaload, 0, 0, 0), some (.istore 5, 0, 0, 0), none, some (.aload_n 0, 0, 0, 0), some (.getfield 9, 6, 0, 0), none, none, some (.iload 4, 0, 0, 0)],
  [none, some (.iload_n 3, 0, 0, 0), some (.iastore, 0, 0, 0), some (.iload 5, 0, 0, 0), none, some (.ireturn, 0, 0, 0)]]
def mp_7 : List (List (Option mE)) := [
  [some (.iconst 0, 0, 0, 0), some (.istore_n 2, 0, 0, 0), some (.iconst 0, 0, 0, 0), some (.istore_n 3, 0, 0, 0), some (.iload_n 3, 0, 0, 0), some (.bipush 8, 0, 0, 8), none, some (.if_icmp .ge 18, 25, 0, 0), none, none, some (.iload_n 2, 0, 0, 0), some (.aload_n 0, 0, 0, 0), some (.iload_n 1, 0, 0, 0), some (.iload_n 3, 0, 0, 0), some (.invokevirtual 19, 4, 0, 0), none],
  [none, some (.iadd, 0, 0, 0), some (.istore_n 2, 0, 0, 0), some (.iinc 3 1, 0, 0, 0), none, none, some (.goto (-18), 4, 0, 0), none, none, some (.iload_n 2, 0, 0, 0), some (.ireturn, 0, 0, 0)]]
def mp_8 : List (List (Option mE)) := [
  [some (.iconst 0, 0, 0, 0), some (.istore_n 1, 0, 0, 0), some (.aload_n 0, 0, 0, 0), some (.getfield 9, 6, 0, 0), none, none, some (.astore_n 2, 0, 0, 0), some (.aload_n 2, 0, 0, 0), some (.arraylength, 0, 0, 0), some (.istore_n 3, 0, 0, 0), some (.iconst 0, 0, 0, 0), some (.istore 4, 0, 0, 0), none, some (.iload 4, 0, 0, 0), none, some (.iload_n 3, 0, 0, 0)],
  [some (.if_icmp .ge 20, 36, 0, 0), none, none, some (.aload_n 2, 0, 0, 0), some (.iload 4, 0, 0, 0), none, some (.iaload, 0, 0, 0), some (.istore 5, 0, 0, 0), none, some (.iload_n 1, 0, 0, 0), some (.iload 5, 0, 0, 0), none, some (.iadd, 0, 0, 0), some (.istore_n 1, 0, 0, 0), some (.iinc 4 1, 0, 0, 0), none],
  [none, some (.goto (-20), 13, 0, 0), none, none, some (.iload_n 1, 0, 0, 0), some (.ireturn, 0, 0, 0)]]
def mp_9 : List (List (Option mE)) := [
  [some (.iconst 0, 0, 0, 0), some (.istore_n 1, 0, 0, 0), some (.aload_n 0, 0, 0, 0), some (.getfield 9, 6, 0, 0), none, none, some (.astore_n 2, 0, 0, 0), some (.aload_n 2, 0, 0, 0), some (.arraylength, 0, 0, 0), some (.istore_n 3, 0, 0, 0), some (.iconst 0, 0, 0, 0), some (.istore 4, 0, 0, 0), none, some (.iload 4, 0, 0, 0), none, some (.iload_n 3, 0, 0, 0)],
  [some (.if_icmp .ge 28, 44, 0, 0), none, none, some (.aload_n 2, 0, 0, 0), some (.iload 4, 0, 0, 0), none, some (.iaload, 0, 0, 0), some (.istore 5, 0, 0, 0), none, some (.iload_n 1, 0, 0, 0), some (.iload 5, 0, 0, 0), none, some (.ifCond .eq 7, 35, 0, 0), none, none, some (.iconst 1, 0, 0, 1)],
  [some (.goto 4, 36, 0, 0), none, none, some (.iconst 0, 0, 0, 0), some (.iadd, 0, 0, 0), some (.istore_n 1, 0, 0, 0), some (.iinc 4 1, 0, 0, 0), none, none, some (.goto (-28), 13, 0, 0), none, none, some (.iload_n 1, 0, 0, 0), some (.ireturn, 0, 0, 0)]]
def mp_10 : List (List (Option mE)) := [
  [some (.iload_n 0, 0, 0, 0), some (.ifCond .lt 23, 24, 0, 0), none, none, some (.iload_n 0, 0, 0, 0), some (.bipush 8, 0, 0, 8), none, some (.if_icmp .ge 17, 24, 0, 0), none, none, some (.iload_n 1, 0, 0, 0), some (.ifCond .lt 13, 24, 0, 0), none, none, some (.iload_n 1, 0, 0, 0), some (.bipush 8, 0, 0, 8)],
  [none, some (.if_icmp .ge 7, 24, 0, 0), none, none, some (.iconst 1, 0, 0, 1), some (.goto 4, 25, 0, 0), none, none, some (.iconst 0, 0, 0, 0), some (.ireturn, 1, 0, 0)]]
def mp_11 : List (List (Option mE)) := [
  [some (.iload_n 1, 0, 0, 0), some (.ifCond .lt 21, 22, 0, 0), none, none, some (.iload_n 1, 0, 0, 0), some (.aload_n 0, 0, 0, 0), some (.getfield 15, 2, 1, 0), none, none, some (.if_icmp .ge 13, 22, 0, 0), none, none, some (.iload_n 1, 0, 0, 0), some (.bipush 8, 0, 0, 8), none, some (.if_icmp .ge 7, 22, 0, 0)],
  [none, none, some (.iconst 1, 0, 0, 1), some (.goto 4, 23, 0, 0), none, none, some (.iconst 0, 0, 0, 0), some (.ireturn, 1, 0, 0)]]
def mp_12 : List (List (Option mE)) := [
  [some (.aload_n 0, 0, 0, 0), some (.getfield 15, 2, 1, 0), none, none, some (.ireturn, 0, 0, 0)]]
def mp_13 : List (List (Option mE)) := [
  [some (.aload_n 0, 0, 0, 0), some (.iload_n 1, 0, 0, 0), some (.invokevirtual 19, 11, 0, 0), none, none, some (.ifCond .eq 12, 17, 0, 0), none, none, some (.aload_n 0, 0, 0, 0), some (.getfield 9, 2, 0, 0), none, none, some (.iload_n 1, 0, 0, 0), some (.iaload, 0, 0, 0), some (.goto 5, 19, 0, 0), none],
  [none, some (.bipush (-9), 0, 0, (-9)), none, some (.ireturn, 0, 0, 0)]]
def mp_14 : List (List (Option mE)) := [
  [some (.iconst 0, 0, 0, 0), some (.istore_n 2, 0, 0, 0), some (.iload_n 2, 0, 0, 0), some (.aload_n 0, 0, 0, 0), some (.getfield 15, 2, 1, 0), none, none, some (.if_icmp .ge 27, 34, 0, 0), none, none, some (.iload_n 2, 0, 0, 0), some (.bipush 8, 0, 0, 8), none, some (.if_icmp .ge 21, 34, 0, 0), none, none],
  [some (.aload_n 0, 0, 0, 0), some (.getfield 9, 2, 0, 0), none, none, some (.iload_n 2, 0, 0, 0), some (.iaload, 0, 0, 0), some (.iload_n 1, 0, 0, 0), some (.if_icmp .ne 5, 28, 0, 0), none, none, some (.iload_n 2, 0, 0, 0), some (.ireturn, 0, 0, 0), some (.iinc 2 1, 0, 0, 0), none, none, some (.goto (-29), 2, 0, 0)],
  [none, none, some (.bipush (-9), 0, 0, (-9)), none, some (.ireturn, 0, 0, 0)]]
def mp_15 : List (List (Option mE)) := [
  [some (.aload_n 0, 0, 0, 0), some (.iconst 0, 0, 0, 0), some (.putfield 15, 2, 1, 0), none, none, some (.return_, 0, 0, 0)]]
def mp_16 : List (List (Option mE)) := [
  [some (.aload_n 0, 0, 0, 0), some (.getfield 15, 2, 1, 0), none, none, some (.ifCond .lt 32, 36, 0, 0), none, none, some (.aload_n 0, 0, 0, 0), some (.getfield 15, 2, 1, 0), none, none, some (.bipush 8, 0, 0, 8), none, some (.if_icmp .ge 23, 36, 0, 0), none, none],
  [some (.aload_n 0, 0, 0, 0), some (.getfield 9, 2, 0, 0), none, none, some (.aload_n 0, 0, 0, 0), some (.getfield 15, 2, 1, 0), none, none, some (.iload_n 1, 0, 0, 0), some (.iastore, 0, 0, 0), some (.aload_n 0, 0, 0, 0), some (.dup, 0, 0, 0), some (.getfield 15, 2, 1, 0), none, none, some (.iconst 1, 0, 0, 1)],
  [some (.iadd, 0, 0, 0), some (.putfield 15, 2, 1, 0), none, none, some (.return_, 0, 0, 0)]]
def mp_17 : List (List (Option mE)) := [
  [some (.aload_n 0, 0, 0, 0), some (.invokevirtual 23, 15, 0, 0), none, none, some (.iconst 0, 0, 0, 0), some (.istore_n 2, 0, 0, 0), some (.iload_n 2, 0, 0, 0), some (.iload_n 1, 0, 0, 0), some (.if_icmp .ge 14, 22, 0, 0), none, none, some (.aload_n 0, 0, 0, 0), some (.iload_n 2, 0, 0, 0), some (.invokevirtual 26, 16, 0, 0), none, none],
  [some (.iinc 2 1, 0, 0, 0), none, none, some (.goto (-13), 6, 0, 0), none, none, some (.return_, 0, 0, 0)]]
def mp_18 : List (List (Option mE)) := [
  [some (.aload_n 0, 0, 0, 0), some (.invokevirtual 23, 15, 0, 0), none, none, some (.iconst 0, 0, 0, 0), some (.istore_n 2, 0, 0, 0), some (.iload_n 2, 0, 0, 0), some (.aload_n 1, 0, 0, 0), some (.invokevirtual 30, 12, 0, 0), none, none, some (.if_icmp .ge 18, 29, 0, 0), none, none, some (.aload_n 0, 0, 0, 0), some (.aload_n 1, 0, 0, 0)],
  [some (.iload_n 2, 0, 0, 0), some (.invokevirtual 33, 13, 0, 0), none, none, some (.invokevirtual 26, 16, 0, 0), none, none, some (.iinc 2 1, 0, 0, 0), none, none, some (.goto (-20), 6, 0, 0), none, none, some (.return_, 0, 0, 0)]]
def mp_19 : List (List (Option mE)) := [
  [some (.aload_n 0, 0, 0, 0), some (.iload_n 1, 0, 0, 0), some (.invokevirtual 19, 11, 0, 0), none, none, some (.ifCond .eq 37, 42, 0, 0), none, none, some (.aload_n 0, 0, 0, 0), some (.iload_n 2, 0, 0, 0), some (.invokevirtual 19, 11, 0, 0), none, none, some (.ifCond .eq 29, 42, 0, 0), none, none],
  [some (.aload_n 0, 0, 0, 0), some (.getfield 9, 2, 0, 0), none, none, some (.iload_n 1, 0, 0, 0), some (.iaload, 0, 0, 0), some (.istore_n 3, 0, 0, 0), some (.aload_n 0, 0, 0, 0), some (.getfield 9, 2, 0, 0), none, none, some (.iload_n 1, 0, 0, 0), some (.aload_n 0, 0, 0, 0), some (.getfield 9, 2, 0, 0), none, none],
  [some (.iload_n 2, 0, 0, 0), some (.iaload, 0, 0, 0), some (.iastore, 0, 0, 0), some (.aload_n 0, 0, 0, 0), some (.getfield 9, 2, 0, 0), none, none, some (.iload_n 2, 0, 0, 0), some (.iload_n 3, 0, 0, 0), some (.iastore, 0, 0, 0), some (.return_, 0, 0, 0)]]
def mp_20 : List (List (Option mE)) := [
  [some (.iconst 0, 0, 0, 0), some (.istore_n 2, 0, 0, 0), some (.iconst 0, 0, 0, 0), some (.istore_n 3, 0, 0, 0), some (.iload_n 3, 0, 0, 0), some (.aload_n 0, 0, 0, 0), some (.getfield 15, 2, 1, 0), none, none, some (.if_icmp .ge 47, 56, 0, 0), none, none, some (.iload_n 3, 0, 0, 0), some (.iconst 1, 0, 0, 1), some (.iadd, 0, 0, 0), some (.istore 4, 0, 0, 0)],
  [none, some (.iload 4, 0, 0, 0), none, some (.aload_n 0, 0, 0, 0), some (.getfield 15, 2, 1, 0), none, none, some (.if_icmp .ge 27, 50, 0, 0), none, none, some (.iload_n 2, 0, 0, 0), some (.aload_n 1, 0, 0, 0), some (.aload_n 0, 0, 0, 0), some (.iload_n 3, 0, 0, 0), some (.invokevirtual 33, 13, 0, 0), none],
  [none, some (.aload_n 0, 0, 0, 0), some (.iload 4, 0, 0, 0), none, some (.invokevirtual 33, 13, 0, 0), none, none, some (.invokevirtual 37, 4, 0, 0), none, none, some (.iadd, 0, 0, 0), some (.istore_n 2, 0, 0, 0), some (.iinc 4 1, 0, 0, 0), none, none, some (.goto (-30), 17, 0, 0)],
  [none, none, some (.iinc 3 1, 0, 0, 0), none, none, some (.goto (-49), 4, 0, 0), none, none, some (.iload_n 2, 0, 0, 0), some (.ireturn, 0, 0, 0)]]
def mp_21 : List (List (Option mE)) := [
  [some (.aload_n 0, 0, 0, 0), some (.getfield 9, 0, 0, 0), none, none, some (.iload_n 1, 0, 0, 0), some (.invokestatic 15, 87, 0, 0), none, none, some (.ireturn, 0, 0, 0)]]
def mp_22 : List (List (Option mE)) := [
  [some (.iconst 0, 0, 0, 0), some (.istore_n 1, 0, 0, 0), some (.aload_n 0, 0, 0, 0), some (.getfield 9, 0, 0, 0), none, none, some (.astore_n 2, 0, 0, 0), some (.aload_n 2, 0, 0, 0), some (.arraylength, 0, 0, 0), some (.istore_n 3, 0, 0, 0), some (.iconst 0, 0, 0, 0), some (.istore 4, 0, 0, 0), none, some (.iload 4, 0, 0, 0), none, some (.iload_n 3, 0, 0, 0)],
  [some (.if_icmp .ge 22, 38, 0, 0), none, none, some (.aload_n 2, 0, 0, 0), some (.iload 4, 0, 0, 0), none, some (.iaload, 0, 0, 0), some (.istore 5, 0, 0, 0), none, some (.iload_n 1, 0, 0, 0), some (.iload 5, 0, 0, 0), none, some (.invokestatic 19, 901, 0, 0), none, none, some (.istore_n 1, 0, 0, 0)],
  [some (.iinc 4 1, 0, 0, 0), none, none, some (.goto (-22), 13, 0, 0), none, none, some (.iload_n 1, 0, 0, 0), some (.ireturn, 0, 0, 0)]]
def mp_23 : List (List (Option mE)) := [
  [some (.aload_n 0, 0, 0, 0), some (.getfield 9, 0, 0, 0), none, none, some (.iconst 0, 0, 0, 0), some (.invokestatic 25, 3, 0, 0), none, none, some (.iconst 0, 0, 0, 0), some (.istore 4, 0, 0, 0), none, some (.iload 4, 0, 0, 0), none, some (.aload_n 1, 0, 0, 0), some (.invokevirtual 31, 12, 0, 0), none],
  [none, some (.if_icmp .ge 88, 105, 0, 0), none, none, some (.iload 4, 0, 0, 0), none, some (.bipush 8, 0, 0, 8), none, some (.if_icmp .ge 81, 105, 0, 0), none, none, some (.aload_n 1, 0, 0, 0), some (.iload 4, 0, 0, 0), none, some (.invokevirtual 37, 13, 0, 0), none],
  [none, some (.istore 5, 0, 0, 0), none, some (.iconst 0, 0, 0, 0), some (.istore 6, 0, 0, 0), none, some (.iconst 0, 0, 0, 0), some (.istore 7, 0, 0, 0), none, some (.iload 7, 0, 0, 0), none, some (.iload 4, 0, 0, 0), none, some (.if_icmp .ge 38, 83, 0, 0), none, none],
  [some (.aload_n 2, 0, 0, 0), some (.iload 5, 0, 0, 0), none, some (.aload_n 1, 0, 0, 0), some (.iload 7, 0, 0, 0), none, some (.invokevirtual 37, 13, 0, 0), none, none, some (.invokevirtual 41, 4, 0, 0), none, none, some (.ifCond .le 17, 77, 0, 0), none, none, some (.iload 6, 0, 0, 0)],
  [none, some (.aload_n 0, 0, 0, 0), some (.getfield 9, 0, 0, 0), none, none, some (.iload 7, 0, 0, 0), none, some (.iaload, 0, 0, 0), some (.invokestatic 19, 901, 0, 0), none, none, some (.istore 6, 0, 0, 0), none, some (.iinc 7 1, 0, 0, 0), none, none],
  [some (.goto (-39), 41, 0, 0), none, none, some (.aload_n 0, 0, 0, 0), some (.getfield 9, 0, 0, 0), none, none, some (.iload 4, 0, 0, 0), none, some (.iload 6, 0, 0, 0), none, some (.aload_n 3, 0, 0, 0), some (.iload 5, 0, 0, 0), none, some (.invokestatic 15, 87, 0, 0), none],
  [none, some (.iadd, 0, 0, 0), some (.iastore, 0, 0, 0), some (.iinc 4 1, 0, 0, 0), none, none, some (.goto (-91), 11, 0, 0), none, none, some (.return_, 0, 0, 0)]]
def mp_24 : List (List (Option mE)) := [
  [some (.aload_n 0, 0, 0, 0), some (.getfield 9, 5, 0, 0), none, none, some (.iload_n 1, 0, 0, 0), some (.invokestatic 15, 87, 0, 0), none, none, some (.ireturn, 0, 0, 0)]]
def mp_25 : List (List (Option mE)) := [
  [some (.iconst 0, 0, 0, 0), some (.istore_n 2, 0, 0, 0), some (.aload_n 0, 0, 0, 0), some (.getfield 9, 5, 0, 0), none, none, some (.astore_n 3, 0, 0, 0), some (.aload_n 3, 0, 0, 0), some (.arraylength, 0, 0, 0), some (.istore 4, 0, 0, 0), none, some (.iconst 0, 0, 0, 0), some (.istore 5, 0, 0, 0), none, some (.iload 5, 0, 0, 0), none],
  [some (.iload 4, 0, 0, 0), none, some (.if_icmp .ge 29, 47, 0, 0), none, none, some (.aload_n 3, 0, 0, 0), some (.iload 5, 0, 0, 0), none, some (.iaload, 0, 0, 0), some (.istore 6, 0, 0, 0), none, some (.iload_n 2, 0, 0, 0), some (.iload 6, 0, 0, 0), none, some (.iload_n 1, 0, 0, 0), some (.if_icmp .lt 7, 38, 0, 0)],
  [none, none, some (.iconst 1, 0, 0, 1), some (.goto 4, 39, 0, 0), none, none, some (.iconst 0, 0, 0, 0), some (.iadd, 0, 0, 0), some (.istore_n 2, 0, 0, 0), some (.iinc 5 1, 0, 0, 0), none, none, some (.goto (-30), 14, 0, 0), none, none, some (.iload_n 2, 0, 0, 0)],
  [some (.ireturn, 0, 0, 0)]]
def mp_26 : List (List (Option mE)) := [
  [some (.iconst 0, 0, 0, 0), some (.istore 4, 0, 0, 0), none, some (.iload 4, 0, 0, 0), none, some (.bipush 8, 0, 0, 8), none, some (.if_icmp .ge 28, 35, 0, 0), none, none, some (.aload_n 0, 0, 0, 0), some (.getfield 9, 5, 0, 0), none, none, some (.iload 4, 0, 0, 0), none],
  [some (.iload 4, 0, 0, 0), none, some (.iload_n 1, 0, 0, 0), some (.if_icmp .ne 8, 27, 0, 0), none, none, some (.ldc 19, 0, 0, 10000000), none, some (.goto 4, 28, 0, 0), none, none, some (.iconst 0, 0, 0, 0), some (.iastore, 0, 0, 0), some (.iinc 4 1, 0, 0, 0), none, none],
  [some (.goto (-29), 3, 0, 0), none, none, some (.aload_n 0, 0, 0, 0), some (.iconst 0, 0, 0, 0), some (.putfield 20, 5, 1, 0), none, none, some (.iconst 0, 0, 0, 0), some (.istore 4, 0, 0, 0), none, some (.iload 4, 0, 0, 0), none, some (.iload_n 2, 0, 0, 0), some (.if_icmp .ge 35, 81, 0, 0), none],
  [none, some (.aload_n 0, 0, 0, 0), some (.invokevirtual 24, 27, 0, 0), none, none, some (.istore 5, 0, 0, 0), none, some (.aload_n 0, 0, 0, 0), some (.dup, 0, 0, 0), some (.getfield 20, 5, 1, 0), none, none, some (.iconst 1, 0, 0, 1), some (.iload 5, 0, 0, 0), none, some (.ishl, 0, 0, 0)],
  [some (.ior, 0, 0, 0), some (.putfield 20, 5, 1, 0), none, none, some (.aload_n 0, 0, 0, 0), some (.iload 5, 0, 0, 0), none, some (.aload_n 3, 0, 0, 0), some (.invokevirtual 28, 28, 0, 0), none, none, some (.iinc 4 1, 0, 0, 0), none, none, some (.goto (-35), 43, 0, 0), none],
  [none, some (.return_, 0, 0, 0)]]
def mp_27 : List (List (Option mE)) := [
  [some (.iconst 0, 0, 0, 0), some (.istore_n 1, 0, 0, 0), some (.iconst (-1), 0, 0, (-1)), some (.istore_n 2, 0, 0, 0), some (.iconst 0, 0, 0, 0), some (.istore_n 3, 0, 0, 0), some (.iload_n 3, 0, 0, 0), some (.bipush 8, 0, 0, 8), none, some (.if_icmp .ge 36, 45, 0, 0), none, none, some (.aload_n 0, 0, 0, 0), some (.iload_n 3, 0, 0, 0), some (.invokevirtual 32, 29, 0, 0), none],
  [none, some (.ifCond .eq 22, 39, 0, 0), none, none, some (.aload_n 0, 0, 0, 0), some (.getfield 9, 5, 0, 0), none, none, some (.iload_n 3, 0, 0, 0), some (.iaload, 0, 0, 0), some (.iload_n 2, 0, 0, 0), some (.if_icmp .le 12, 39, 0, 0), none, none, some (.iload_n 3, 0, 0, 0), some (.istore_n 1, 0, 0, 0)],
  [some (.aload_n 0, 0, 0, 0), some (.getfield 9, 5, 0, 0), none, none, some (.iload_n 3, 0, 0, 0), some (.iaload, 0, 0, 0), some (.istore_n 2, 0, 0, 0), some (.iinc 3 1, 0, 0, 0), none, none, some (.goto (-36), 6, 0, 0), none, none, some (.iload_n 1, 0, 0, 0), some (.ireturn, 0, 0, 0)]]
def mp_28 : List (List (Option mE)) := [
  [some (.iconst 0, 0, 0, 0), some (.istore_n 3, 0, 0, 0), some (.iload_n 3, 0, 0, 0), some (.bipush 8, 0, 0, 8), none, some (.if_icmp .ge 51, 56, 0, 0), none, none, some (.aload_n 0, 0, 0, 0), some (.iload_n 3, 0, 0, 0), some (.invokevirtual 32, 29, 0, 0), none, none, some (.ifCond .eq 37, 50, 0, 0), none, none],
  [some (.aload_n 0, 0, 0, 0), some (.iload_n 1, 0, 0, 0), some (.invokevirtual 36, 24, 0, 0), none, none, some (.aload_n 2, 0, 0, 0), some (.iload_n 3, 0, 0, 0), some (.iload_n 1, 0, 0, 0), some (.invokevirtual 40, 4, 0, 0), none, none, some (.imul, 0, 0, 0), some (.bipush 10, 0, 0, 10), none, some (.idiv, 0, 0, 0), some (.istore 4, 0, 0, 0)],
  [none, some (.aload_n 0, 0, 0, 0), some (.getfield 9, 5, 0, 0), none, none, some (.iload_n 3, 0, 0, 0), some (.aload_n 0, 0, 0, 0), some (.getfield 9, 5, 0, 0), none, none, some (.iload_n 3, 0, 0, 0), some (.iaload, 0, 0, 0), some (.iload 4, 0, 0, 0), none, some (.invokestatic 46, 901, 0, 0), none],
  [none, some (.iastore, 0, 0, 0), some (.iinc 3 1, 0, 0, 0), none, none, some (.goto (-51), 2, 0, 0), none, none, some (.return_, 0, 0, 0)]]
def mp_29 : List (List (Option mE)) := [
  [some (.aload_n 0, 0, 0, 0), some (.getfield 20, 5, 1, 0), none, none, some (.iconst 1, 0, 0, 1), some (.iload_n 1, 0, 0, 0), some (.ishl, 0, 0, 0), some (.iand, 0, 0, 0), some (.ifCond .ne 7, 15, 0, 0), none, none, some (.iconst 1, 0, 0, 1), some (.goto 4, 16, 0, 0), none, none, some (.iconst 0, 0, 0, 0)],
  [some (.ireturn, 1, 0, 0)]]
def mp_30 : List (List (Option mE)) := [
  [some (.iconst 1, 0, 0, 1), some (.iload_n 1, 0, 0, 0), some (.ishl, 0, 0, 0), some (.iconst 1, 0, 0, 1), some (.isub, 0, 0, 0), some (.istore_n 3, 0, 0, 0), some (.iload_n 3, 0, 0, 0), some (.istore 4, 0, 0, 0), none, some (.iload 4, 0, 0, 0), none, some (.ifCond .lt 44, 55, 0, 0), none, none, some (.iload 4, 0, 0, 0), none],
  [some (.aload_n 0, 0, 0, 0), some (.getfield 9, 1, 0, 0), none, none, some (.arraylength, 0, 0, 0), some (.if_icmp .ge 34, 55, 0, 0), none, none, some (.aload_n 0, 0, 0, 0), some (.getfield 9, 1, 0, 0), none, none, some (.iload 4, 0, 0, 0), none, some (.iload 4, 0, 0, 0), none],
  [some (.iload_n 3, 0, 0, 0), some (.if_icmp .ne 7, 40, 0, 0), none, none, some (.iconst 0, 0, 0, 0), some (.goto 11, 48, 0, 0), none, none, some (.aload_n 0, 0, 0, 0), some (.iload 4, 0, 0, 0), none, some (.iload_n 1, 0, 0, 0), some (.aload_n 2, 0, 0, 0), some (.invokevirtual 22, 32, 0, 0), none, none],
  [some (.iastore, 0, 0, 0), some (.iinc 4 (-1), 0, 0, 0), none, none, some (.goto (-43), 9, 0, 0), none, none, some (.aload_n 0, 0, 0, 0), some (.getfield 9, 1, 0, 0), none, none, some (.iconst 0, 0, 0, 0), some (.iaload, 0, 0, 0), some (.ireturn, 0, 0, 0)]]
def mp_31 : List (List (Option mE)) := [
  [some (.aload_n 0, 0, 0, 0), some (.iload_n 1, 0, 0, 0), some (.aload_n 2, 0, 0, 0), some (.invokevirtual 26, 30, 0, 0), none, none, some (.pop, 0, 0, 0), some (.aload_n 0, 0, 0, 0), some (.getfield 18, 1, 1, 0), none, none, some (.invokevirtual 30, 15, 0, 0), none, none, some (.iconst 0, 0, 0, 0), some (.istore_n 3, 0, 0, 0)],
  [some (.iconst 0, 0, 0, 0), some (.istore 4, 0, 0, 0), none, some (.iload 4, 0, 0, 0), none, some (.iload_n 1, 0, 0, 0), some (.if_icmp .ge 34, 56, 0, 0), none, none, some (.aload_n 0, 0, 0, 0), some (.iload_n 3, 0, 0, 0), some (.iload_n 1, 0, 0, 0), some (.aload_n 2, 0, 0, 0), some (.invokevirtual 33, 33, 0, 0), none, none],
  [some (.istore 5, 0, 0, 0), none, some (.aload_n 0, 0, 0, 0), some (.getfield 18, 1, 1, 0), none, none, some (.iload 5, 0, 0, 0), none, some (.invokevirtual 36, 16, 0, 0), none, none, some (.iload_n 3, 0, 0, 0), some (.iconst 1, 0, 0, 1), some (.iload 5, 0, 0, 0), none, some (.ishl, 0, 0, 0)],
  [some (.ior, 0, 0, 0), some (.istore_n 3, 0, 0, 0), some (.iinc 4 1, 0, 0, 0), none, none, some (.goto (-34), 19, 0, 0), none, none, some (.aload_n 0, 0, 0, 0), some (.getfield 18, 1, 1, 0), none, none, some (.areturn, 0, 0, 0)]]
def mp_32 : List (List (Option mE)) := [
  [some (.ldc 40, 0, 0, 1000000), none, some (.istore 4, 0, 0, 0), none, some (.iconst 0, 0, 0, 0), some (.istore 5, 0, 0, 0), none, some (.iload 5, 0, 0, 0), none, some (.iload_n 2, 0, 0, 0), some (.if_icmp .ge 34, 44, 0, 0), none, none, some (.iload_n 1, 0, 0, 0), some (.iconst 1, 0, 0, 1), some (.iload 5, 0, 0, 0)],
  [none, some (.ishl, 0, 0, 0), some (.iand, 0, 0, 0), some (.ifCond .ne 19, 38, 0, 0), none, none, some (.iload 4, 0, 0, 0), none, some (.aload_n 0, 0, 0, 0), some (.iload 5, 0, 0, 0), none, some (.iload_n 1, 0, 0, 0), some (.iload_n 2, 0, 0, 0), some (.aload_n 3, 0, 0, 0), some (.invokevirtual 41, 34, 0, 0), none],
  [none, some (.invokestatic 45, 902, 0, 0), none, none, some (.istore 4, 0, 0, 0), none, some (.iinc 5 1, 0, 0, 0), none, none, some (.goto (-34), 7, 0, 0), none, none, some (.iload 4, 0, 0, 0), none, some (.ireturn, 0, 0, 0)]]
def mp_33 : List (List (Option mE)) := [
  [some (.iconst 0, 0, 0, 0), some (.istore 4, 0, 0, 0), none, some (.iload 4, 0, 0, 0), none, some (.iload_n 2, 0, 0, 0), some (.if_icmp .ge 41, 47, 0, 0), none, none, some (.iload_n 1, 0, 0, 0), some (.iconst 1, 0, 0, 1), some (.iload 4, 0, 0, 0), none, some (.ishl, 0, 0, 0), some (.iand, 0, 0, 0), some (.ifCond .ne 26, 41, 0, 0)],
  [none, none, some (.aload_n 0, 0, 0, 0), some (.iload 4, 0, 0, 0), none, some (.iload_n 1, 0, 0, 0), some (.iload_n 2, 0, 0, 0), some (.aload_n 3, 0, 0, 0), some (.invokevirtual 41, 34, 0, 0), none, none, some (.aload_n 0, 0, 0, 0), some (.getfield 9, 1, 0, 0), none, none, some (.iload_n 1, 0, 0, 0)],
  [some (.invokestatic 51, 87, 0, 0), none, none, some (.if_icmp .ne 6, 41, 0, 0), none, none, some (.iload 4, 0, 0, 0), none, some (.ireturn, 0, 0, 0), some (.iinc 4 1, 0, 0, 0), none, none, some (.goto (-41), 3, 0, 0), none, none, some (.iconst 0, 0, 0, 0)],
  [some (.ireturn, 0, 0, 0)]]
def mp_34 : List (List (Option mE)) := [
  [some (.aload_n 0, 0, 0, 0), some (.getfield 9, 1, 0, 0), none, none, some (.iload_n 2, 0, 0, 0), some (.iconst 1, 0, 0, 1), some (.iload_n 1, 0, 0, 0), some (.ishl, 0, 0, 0), some (.ior, 0, 0, 0), some (.invokestatic 51, 87, 0, 0), none, none, some (.istore 5, 0, 0, 0), none, some (.iconst 0, 0, 0, 0), some (.istore 6, 0, 0, 0)],
  [none, some (.iload 6, 0, 0, 0), none, some (.iload_n 3, 0, 0, 0), some (.if_icmp .ge 31, 51, 0, 0), none, none, some (.iload_n 2, 0, 0, 0), some (.iconst 1, 0, 0, 1), some (.iload 6, 0, 0, 0), none, some (.ishl, 0, 0, 0), some (.iand, 0, 0, 0), some (.ifCond .ne 16, 45, 0, 0), none, none],
  [some (.iload 5, 0, 0, 0), none, some (.aload 4, 0, 0, 0), none, some (.iload_n 1, 0, 0, 0), some (.iload 6, 0, 0, 0), none, some (.invokevirtual 55, 4, 0, 0), none, none, some (.iadd, 0, 0, 0), some (.istore 5, 0, 0, 0), none, some (.iinc 6 1, 0, 0, 0), none, none],
  [some (.goto (-31), 17, 0, 0), none, none, some (.iload 5, 0, 0, 0), none, some (.ireturn, 0, 0, 0)]]
def mp_35 : List (List (Option mE)) := [
  [some (.aload_n 0, 0, 0, 0), some (.getfield 21, 7, 5, 0), none, none, some (.ireturn, 0, 0, 0)]]
def mp_36 : List (List (Option mE)) := [
  [some (.aload_n 0, 0, 0, 0), some (.getfield 15, 7, 1, 0), none, none, some (.iload_n 1, 0, 0, 0), some (.invokestatic 25, 87, 0, 0), none, none, some (.ireturn, 0, 0, 0)]]
def mp_37 : List (List (Option mE)) := [
  [some (.aload_n 0, 0, 0, 0), some (.getfield 18, 7, 2, 0), none, none, some (.iconst 0, 0, 0, 0), some (.invokestatic 29, 3, 0, 0), none, none, some (.aload_n 0, 0, 0, 0), some (.iload_n 1, 0, 0, 0), some (.bipush 8, 0, 0, 8), none, some (.invokestatic 35, 902, 0, 0), none, none, some (.putfield 41, 7, 3, 0)],
  [none, none, some (.aload_n 0, 0, 0, 0), some (.iload_n 3, 0, 0, 0), some (.putfield 44, 7, 4, 0), none, none, some (.aload_n 0, 0, 0, 0), some (.ldc 47, 0, 0, 1000000), none, some (.putfield 21, 7, 5, 0), none, none, some (.aload_n 0, 0, 0, 0), some (.ldc 47, 0, 0, 1000000), none],
  [some (.putfield 48, 7, 6, 0), none, none, some (.aload_n 0, 0, 0, 0), some (.aload_n 2, 0, 0, 0), some (.iconst 0, 0, 0, 0), some (.iconst 0, 0, 0, 0), some (.iconst 0, 0, 0, 0), some (.invokestatic 51, 38, 0, 0), none, none, some (.return_, 0, 0, 0)]]
def mp_38 : List (List (Option mE)) := [
  [some (.aload_n 0, 0, 0, 0), some (.iload_n 3, 0, 0, 0), some (.iload 4, 0, 0, 0), none, some (.invokevirtual 55, 39, 0, 0), none, none, some (.ifCond .ne 4, 11, 0, 0), none, none, some (.return_, 0, 0, 0), some (.iload_n 2, 0, 0, 0), some (.ifCond .lt 17, 29, 0, 0), none, none, some (.iload_n 2, 0, 0, 0)],
  [some (.aload_n 0, 0, 0, 0), some (.getfield 41, 7, 3, 0), none, none, some (.if_icmp .ge 9, 29, 0, 0), none, none, some (.iload_n 2, 0, 0, 0), some (.bipush 8, 0, 0, 8), none, some (.if_icmp .lt 11, 37, 0, 0), none, none, some (.aload_n 0, 0, 0, 0), some (.iload_n 3, 0, 0, 0), some (.iload 4, 0, 0, 0)],
  [none, some (.invokevirtual 59, 40, 0, 0), none, none, some (.return_, 0, 0, 0), some (.iconst 0, 0, 0, 0), some (.istore 5, 0, 0, 0), none, some (.iload 5, 0, 0, 0), none, some (.iload_n 3, 0, 0, 0), some (.if_icmp .gt 91, 134, 0, 0), none, none, some (.iload 5, 0, 0, 0), none],
  [some (.bipush 8, 0, 0, 8), none, some (.if_icmp .ge 84, 134, 0, 0), none, none, some (.aload_n 0, 0, 0, 0), some (.getfield 18, 7, 2, 0), none, none, some (.iload 5, 0, 0, 0), none, some (.iaload, 0, 0, 0), some (.aload_n 0, 0, 0, 0), some (.getfield 44, 7, 4, 0), none, none],
  [some (.if_icmp .ge 64, 128, 0, 0), none, none, some (.aload_n 0, 0, 0, 0), some (.getfield 9, 7, 0, 0), none, none, some (.iload_n 2, 0, 0, 0), some (.iload 5, 0, 0, 0), none, some (.iastore, 0, 0, 0), some (.aload_n 0, 0, 0, 0), some (.getfield 18, 7, 2, 0), none, none, some (.iload 5, 0, 0, 0)],
  [none, some (.dup2, 0, 0, 0), some (.iaload, 0, 0, 0), some (.iconst 1, 0, 0, 1), some (.iadd, 0, 0, 0), some (.iastore, 0, 0, 0), some (.aload_n 0, 0, 0, 0), some (.iload_n 2, 0, 0, 0), some (.iload 5, 0, 0, 0), none, some (.aload_n 1, 0, 0, 0), some (.invokevirtual 63, 41, 0, 0), none, none, some (.istore 6, 0, 0, 0), none],
  [some (.aload_n 0, 0, 0, 0), some (.aload_n 1, 0, 0, 0), some (.iload_n 2, 0, 0, 0), some (.iconst 1, 0, 0, 1), some (.iadd, 0, 0, 0), some (.iload_n 3, 0, 0, 0), some (.iload 5, 0, 0, 0), none, some (.iconst 1, 0, 0, 1), some (.iadd, 0, 0, 0), some (.invokestatic 67, 901, 0, 0), none, none, some (.iload 4, 0, 0, 0), none, some (.iload 6, 0, 0, 0)],
  [none, some (.iadd, 0, 0, 0), some (.invokestatic 51, 38, 0, 0), none, none, some (.aload_n 0, 0, 0, 0), some (.getfield 18, 7, 2, 0), none, none, some (.iload 5, 0, 0, 0), none, some (.dup2, 0, 0, 0), some (.iaload, 0, 0, 0), some (.iconst 1, 0, 0, 1), some (.isub, 0, 0, 0), some (.iastore, 0, 0, 0)],
  [some (.iinc 5 1, 0, 0, 0), none, none, some (.goto (-91), 40, 0, 0), none, none, some (.return_, 0, 0, 0)]]
def mp_39 : List (List (Option mE)) := [
  [some (.iload_n 2, 0, 0, 0), some (.aload_n 0, 0, 0, 0), some (.getfield 21, 7, 5, 0), none, none, some (.if_icmp .lt 19, 24, 0, 0), none, none, some (.iload_n 2, 0, 0, 0), some (.aload_n 0, 0, 0, 0), some (.getfield 21, 7, 5, 0), none, none, some (.if_icmp .ne 15, 28, 0, 0), none, none],
  [some (.iload_n 1, 0, 0, 0), some (.aload_n 0, 0, 0, 0), some (.getfield 48, 7, 6, 0), none, none, some (.if_icmp .ge 7, 28, 0, 0), none, none, some (.iconst 1, 0, 0, 1), some (.goto 4, 29, 0, 0), none, none, some (.iconst 0, 0, 0, 0), some (.ireturn, 1, 0, 0)]]
def mp_40 : List (List (Option mE)) := [
  [some (.aload_n 0, 0, 0, 0), some (.iload_n 2, 0, 0, 0), some (.putfield 21, 7, 5, 0), none, none, some (.aload_n 0, 0, 0, 0), some (.iload_n 1, 0, 0, 0), some (.putfield 48, 7, 6, 0), none, none, some (.aload_n 0, 0, 0, 0), some (.getfield 9, 7, 0, 0), none, none, some (.iconst 0, 0, 0, 0), some (.aload_n 0, 0, 0, 0)],
  [some (.getfield 15, 7, 1, 0), none, none, some (.iconst 0, 0, 0, 0), some (.bipush 8, 0, 0, 8), none, some (.invokestatic 70, 900, 0, 0), none, none, some (.return_, 0, 0, 0)]]
def mp_41 : List (List (Option mE)) := [
  [some (.iconst 0, 0, 0, 0), some (.istore 4, 0, 0, 0), none, some (.iconst 0, 0, 0, 0), some (.istore 5, 0, 0, 0), none, some (.iload 5, 0, 0, 0), none, some (.iload_n 1, 0, 0, 0), some (.if_icmp .ge 43, 52, 0, 0), none, none, some (.iload 5, 0, 0, 0), none, some (.bipush 8, 0, 0, 8), none],
  [some (.if_icmp .ge 36, 52, 0, 0), none, none, some (.iload 4, 0, 0, 0), none, some (.aload_n 0, 0, 0, 0), some (.getfield 9, 7, 0, 0), none, none, some (.iload 5, 0, 0, 0), none, some (.iaload, 0, 0, 0), some (.iload_n 2, 0, 0, 0), some (.if_icmp .eq 13, 42, 0, 0), none, none],
  [some (.aload_n 3, 0, 0, 0), some (.iload_n 1, 0, 0, 0), some (.iload 5, 0, 0, 0), none, some (.invokevirtual 76, 5, 0, 0), none, none, some (.goto 4, 43, 0, 0), none, none, some (.iconst 0, 0, 0, 0), some (.iadd, 0, 0, 0), some (.istore 4, 0, 0, 0), none, some (.iinc 5 1, 0, 0, 0), none],
  [none, some (.goto (-43), 6, 0, 0), none, none, some (.iload 4, 0, 0, 0), none, some (.ireturn, 0, 0, 0)]]
def mp_42 : List (List (Option mE)) := [
  [some (.lconst 0, 0, 0, 0), some (.lstore_n 1, 0, 0, 0), some (.aload_n 0, 0, 0, 0), some (.getfield 9, 3, 0, 0), none, none, some (.astore_n 3, 0, 0, 0), some (.aload_n 3, 0, 0, 0), some (.arraylength, 0, 0, 0), some (.istore 4, 0, 0, 0), none, some (.iconst 0, 0, 0, 0), some (.istore 5, 0, 0, 0), none, some (.iload 5, 0, 0, 0), none],
  [some (.iload 4, 0, 0, 0), none, some (.if_icmp .ge 20, 38, 0, 0), none, none, some (.aload_n 3, 0, 0, 0), some (.iload 5, 0, 0, 0), none, some (.laload, 0, 0, 0), some (.lstore 6, 0, 0, 0), none, some (.lload_n 1, 0, 0, 0), some (.lload 6, 0, 0, 0), none, some (.ladd, 0, 0, 0), some (.lstore_n 1, 0, 0, 0)],
  [some (.iinc 5 1, 0, 0, 0), none, none, some (.goto (-21), 14, 0, 0), none, none, some (.lload_n 1, 0, 0, 0), some (.lreturn, 0, 0, 0)]]
def mp_43 : List (List (Option mE)) := [
  [some (.aload_n 0, 0, 0, 0), some (.getfield 19, 3, 2, 0), none, none, some (.lreturn, 0, 0, 0)]]
def mp_44 : List (List (Option mE)) := [
  [some (.iconst 0, 0, 0, 0), some (.istore 4, 0, 0, 0), none, some (.iload 4, 0, 0, 0), none, some (.bipush 8, 0, 0, 8), none, some (.if_icmp .ge 27, 34, 0, 0), none, none, some (.aload_n 0, 0, 0, 0), some (.getfield 15, 3, 1, 0), none, none, some (.iload 4, 0, 0, 0), none],
  [some (.iload 4, 0, 0, 0), none, some (.iload_n 3, 0, 0, 0), some (.if_icmp .ne 7, 26, 0, 0), none, none, some (.iconst 1, 0, 0, 1), some (.goto 4, 27, 0, 0), none, none, some (.iconst 0, 0, 0, 0), some (.iastore, 0, 0, 0), some (.iinc 4 1, 0, 0, 0), none, none, some (.goto (-28), 3, 0, 0)],
  [none, none, some (.aload_n 0, 0, 0, 0), some (.aload_n 1, 0, 0, 0), some (.aload_n 2, 0, 0, 0), some (.aload_n 0, 0, 0, 0), some (.getfield 15, 3, 1, 0), none, none, some (.invokevirtual 23, 45, 0, 0), none, none, some (.return_, 0, 0, 0)]]
def mp_45 : List (List (Option mE)) := [
  [some (.aload_n 0, 0, 0, 0), some (.getfield 9, 3, 0, 0), none, none, some (.lconst 0, 0, 0, 0), some (.invokestatic 27, 2, 0, 0), none, none, some (.aload_n 0, 0, 0, 0), some (.lconst 1, 0, 0, 1), some (.putfield 19, 3, 2, 0), none, none, some (.iconst 0, 0, 0, 0), some (.istore 4, 0, 0, 0), none],
  [some (.iload 4, 0, 0, 0), none, some (.aload_n 1, 0, 0, 0), some (.invokevirtual 33, 12, 0, 0), none, none, some (.if_icmp .ge 119, 141, 0, 0), none, none, some (.iload 4, 0, 0, 0), none, some (.bipush 8, 0, 0, 8), none, some (.if_icmp .ge 112, 141, 0, 0), none, none],
  [some (.aload_n 1, 0, 0, 0), some (.iload 4, 0, 0, 0), none, some (.invokevirtual 39, 13, 0, 0), none, none, some (.istore 5, 0, 0, 0), none, some (.iconst 0, 0, 0, 0), some (.istore 6, 0, 0, 0), none, some (.ldc2_w 43, 0, 0, 10), none, none, some (.aload_n 0, 0, 0, 0), some (.getfield 19, 3, 2, 0)],
  [none, none, some (.lmul, 0, 0, 0), some (.aload_n 3, 0, 0, 0), some (.iload 5, 0, 0, 0), none, some (.invokestatic 45, 87, 0, 0), none, none, some (.i2l, 0, 0, 0), some (.lmul, 0, 0, 0), some (.lstore 7, 0, 0, 0), none, some (.iconst 0, 0, 0, 0), some (.istore 9, 0, 0, 0), none],
  [some (.iload 9, 0, 0, 0), none, some (.iload 4, 0, 0, 0), none, some (.if_icmp .ge 47, 115, 0, 0), none, none, some (.aload_n 2, 0, 0, 0), some (.iload 5, 0, 0, 0), none, some (.aload_n 1, 0, 0, 0), some (.iload 9, 0, 0, 0), none, some (.invokevirtual 39, 13, 0, 0), none, none],
  [some (.invokevirtual 49, 4, 0, 0), none, none, some (.istore 10, 0, 0, 0), none, some (.iload 6, 0, 0, 0), none, some (.iload 10, 0, 0, 0), none, some (.iadd, 0, 0, 0), some (.istore 6, 0, 0, 0), none, some (.lload 7, 0, 0, 0), none, some (.iload 10, 0, 0, 0), none],
  [some (.i2l, 0, 0, 0), some (.aload_n 0, 0, 0, 0), some (.iload 9, 0, 0, 0), none, some (.iload 4, 0, 0, 0), none, some (.invokevirtual 55, 46, 0, 0), none, none, some (.lmul, 0, 0, 0), some (.ladd, 0, 0, 0), some (.lstore 7, 0, 0, 0), none, some (.iinc 9 1, 0, 0, 0), none, none],
  [some (.goto (-48), 64, 0, 0), none, none, some (.aload_n 0, 0, 0, 0), some (.bipush 10, 0, 0, 10), none, some (.iload 6, 0, 0, 0), none, some (.isub, 0, 0, 0), some (.iload 4, 0, 0, 0), none, some (.invokevirtual 59, 47, 0, 0), none, none, some (.aload_n 0, 0, 0, 0), some (.getfield 9, 3, 0, 0)],
  [none, none, some (.iload 4, 0, 0, 0), none, some (.lload 7, 0, 0, 0), none, some (.lastore, 0, 0, 0), some (.iinc 4 1, 0, 0, 0), none, none, some (.goto (-122), 16, 0, 0), none, none, some (.return_, 0, 0, 0)]]
def mp_46 : List (List (Option mE)) := [
  [some (.lconst 0, 0, 0, 0), some (.lstore_n 3, 0, 0, 0), some (.iload_n 1, 0, 0, 0), some (.iconst 0, 0, 0, 0), some (.invokestatic 63, 901, 0, 0), none, none, some (.istore 5, 0, 0, 0), none, some (.iload 5, 0, 0, 0), none, some (.iload_n 2, 0, 0, 0), some (.if_icmp .ge 26, 38, 0, 0), none, none, some (.iload 5, 0, 0, 0)],
  [none, some (.bipush 8, 0, 0, 8), none, some (.if_icmp .ge 19, 38, 0, 0), none, none, some (.lload_n 3, 0, 0, 0), some (.aload_n 0, 0, 0, 0), some (.getfield 9, 3, 0, 0), none, none, some (.iload 5, 0, 0, 0), none, some (.laload, 0, 0, 0), some (.ladd, 0, 0, 0), some (.lstore_n 3, 0, 0, 0)],
  [some (.iinc 5 1, 0, 0, 0), none, none, some (.goto (-26), 9, 0, 0), none, none, some (.lload_n 3, 0, 0, 0), some (.lreturn, 0, 0, 0)]]
def mp_47 : List (List (Option mE)) := [
  [some (.aload_n 0, 0, 0, 0), some (.dup, 0, 0, 0), some (.getfield 19, 3, 2, 0), none, none, some (.iload_n 1, 0, 0, 0), some (.i2l, 0, 0, 0), some (.lmul, 0, 0, 0), some (.putfield 19, 3, 2, 0), none, none, some (.iconst 0, 0, 0, 0), some (.istore_n 3, 0, 0, 0), some (.iload_n 3, 0, 0, 0), some (.iload_n 2, 0, 0, 0), some (.if_icmp .ge 26, 41, 0, 0)],
  [none, none, some (.iload_n 3, 0, 0, 0), some (.bipush 8, 0, 0, 8), none, some (.if_icmp .ge 20, 41, 0, 0), none, none, some (.aload_n 0, 0, 0, 0), some (.getfield 9, 3, 0, 0), none, none, some (.iload_n 3, 0, 0, 0), some (.dup2, 0, 0, 0), some (.laload, 0, 0, 0), some (.iload_n 1, 0, 0, 0)],
  [some (.i2l, 0, 0, 0), some (.lmul, 0, 0, 0), some (.lastore, 0, 0, 0), some (.iinc 3 1, 0, 0, 0), none, none, some (.goto (-25), 13, 0, 0), none, none, some (.return_, 0, 0, 0)]]
def mp_48 : List (List (Option mE)) := [
  [some (.iload_n 2, 0, 0, 0), some (.ifCond .lt 28, 29, 0, 0), none, none, some (.iload_n 2, 0, 0, 0), some (.bipush 8, 0, 0, 8), none, some (.if_icmp .ge 22, 29, 0, 0), none, none, some (.aload_n 0, 0, 0, 0), some (.getfield 9, 4, 0, 0), none, none, some (.iload_n 1, 0, 0, 0), some (.invokestatic 18, 87, 0, 0)],
  [none, none, some (.iconst 1, 0, 0, 1), some (.iload_n 2, 0, 0, 0), some (.ishl, 0, 0, 0), some (.iand, 0, 0, 0), some (.ifCond .eq 7, 29, 0, 0), none, none, some (.iconst 1, 0, 0, 1), some (.goto 4, 30, 0, 0), none, none, some (.iconst 0, 0, 0, 0), some (.ireturn, 1, 0, 0)]]
def mp_49 : List (List (Option mE)) := [
  [some (.aload_n 0, 0, 0, 0), some (.getfield 22, 4, 2, 0), none, none, some (.ireturn, 0, 0, 0)]]
def mp_50 : List (List (Option mE)) := [
  [some (.aload_n 0, 0, 0, 0), some (.getfield 15, 4, 1, 0), none, none, some (.iload_n 1, 0, 0, 0), some (.invokestatic 18, 87, 0, 0), none, none, some (.ireturn, 0, 0, 0)]]
def mp_51 : List (List (Option mE)) := [
  [some (.aload_n 0, 0, 0, 0), some (.iload_n 1, 0, 0, 0), some (.aload_n 2, 0, 0, 0), some (.invokevirtual 26, 52, 0, 0), none, none, some (.aload_n 0, 0, 0, 0), some (.iload_n 1, 0, 0, 0), some (.invokevirtual 30, 53, 0, 0), none, none, some (.return_, 0, 0, 0)]]
def mp_52 : List (List (Option mE)) := [
  [some (.iconst 0, 0, 0, 0), some (.istore_n 3, 0, 0, 0), some (.iload_n 3, 0, 0, 0), some (.iload_n 1, 0, 0, 0), some (.if_icmp .ge 64, 68, 0, 0), none, none, some (.iload_n 3, 0, 0, 0), some (.bipush 8, 0, 0, 8), none, some (.if_icmp .ge 58, 68, 0, 0), none, none, some (.aload_n 0, 0, 0, 0), some (.getfield 9, 4, 0, 0), none],
  [none, some (.iload_n 3, 0, 0, 0), some (.iconst 0, 0, 0, 0), some (.iastore, 0, 0, 0), some (.iconst 0, 0, 0, 0), some (.istore 4, 0, 0, 0), none, some (.iload 4, 0, 0, 0), none, some (.iload_n 1, 0, 0, 0), some (.if_icmp .ge 36, 62, 0, 0), none, none, some (.aload_n 0, 0, 0, 0), some (.getfield 9, 4, 0, 0), none],
  [none, some (.iload_n 3, 0, 0, 0), some (.dup2, 0, 0, 0), some (.iaload, 0, 0, 0), some (.aload_n 2, 0, 0, 0), some (.iload_n 3, 0, 0, 0), some (.iload 4, 0, 0, 0), none, some (.invokevirtual 34, 4, 0, 0), none, none, some (.ifCond .le 10, 53, 0, 0), none, none, some (.iconst 1, 0, 0, 1), some (.iload 4, 0, 0, 0)],
  [none, some (.ishl, 0, 0, 0), some (.goto 4, 54, 0, 0), none, none, some (.iconst 0, 0, 0, 0), some (.ior, 0, 0, 0), some (.iastore, 0, 0, 0), some (.iinc 4 1, 0, 0, 0), none, none, some (.goto (-36), 23, 0, 0), none, none, some (.iinc 3 1, 0, 0, 0), none],
  [none, some (.goto (-63), 2, 0, 0), none, none, some (.iconst 0, 0, 0, 0), some (.istore_n 3, 0, 0, 0), some (.iload_n 3, 0, 0, 0), some (.iload_n 1, 0, 0, 0), some (.if_icmp .ge 67, 139, 0, 0), none, none, some (.iload_n 3, 0, 0, 0), some (.bipush 8, 0, 0, 8), none, some (.if_icmp .ge 61, 139, 0, 0), none],
  [none, some (.iconst 0, 0, 0, 0), some (.istore 4, 0, 0, 0), none, some (.iload 4, 0, 0, 0), none, some (.iload_n 1, 0, 0, 0), some (.if_icmp .ge 46, 133, 0, 0), none, none, some (.iload 4, 0, 0, 0), none, some (.bipush 8, 0, 0, 8), none, some (.if_icmp .ge 39, 133, 0, 0), none],
  [none, some (.aload_n 0, 0, 0, 0), some (.getfield 9, 4, 0, 0), none, none, some (.iload 4, 0, 0, 0), none, some (.dup2, 0, 0, 0), some (.iaload, 0, 0, 0), some (.aload_n 0, 0, 0, 0), some (.iload 4, 0, 0, 0), none, some (.iload_n 3, 0, 0, 0), some (.invokevirtual 40, 48, 0, 0), none, none],
  [some (.ifCond .eq 12, 124, 0, 0), none, none, some (.aload_n 0, 0, 0, 0), some (.getfield 9, 4, 0, 0), none, none, some (.iload_n 3, 0, 0, 0), some (.iaload, 0, 0, 0), some (.goto 4, 125, 0, 0), none, none, some (.iconst 0, 0, 0, 0), some (.ior, 0, 0, 0), some (.iastore, 0, 0, 0), some (.iinc 4 1, 0, 0, 0)],
  [none, none, some (.goto (-46), 84, 0, 0), none, none, some (.iinc 3 1, 0, 0, 0), none, none, some (.goto (-66), 70, 0, 0), none, none, some (.return_, 0, 0, 0)]]
def mp_53 : List (List (Option mE)) := [
  [some (.iconst 1, 0, 0, 1), some (.iload_n 1, 0, 0, 0), some (.ishl, 0, 0, 0), some (.iconst 1, 0, 0, 1), some (.isub, 0, 0, 0), some (.istore_n 2, 0, 0, 0), some (.aload_n 0, 0, 0, 0), some (.iconst 0, 0, 0, 0), some (.putfield 22, 4, 2, 0), none, none, some (.iconst 0, 0, 0, 0), some (.istore_n 3, 0, 0, 0), some (.iload_n 3, 0, 0, 0), some (.iload_n 1, 0, 0, 0), some (.if_icmp .ge 81, 96, 0, 0)],
  [none, none, some (.iload_n 2, 0, 0, 0), some (.ifCond .eq 77, 96, 0, 0), none, none, some (.aload_n 0, 0, 0, 0), some (.iload_n 1, 0, 0, 0), some (.iload_n 2, 0, 0, 0), some (.invokevirtual 44, 54, 0, 0), none, none, some (.istore 4, 0, 0, 0), none, some (.iconst 0, 0, 0, 0), some (.istore 5, 0, 0, 0)],
  [none, some (.iload 5, 0, 0, 0), none, some (.iload_n 1, 0, 0, 0), some (.if_icmp .ge 37, 73, 0, 0), none, none, some (.iload 5, 0, 0, 0), none, some (.bipush 8, 0, 0, 8), none, some (.if_icmp .ge 30, 73, 0, 0), none, none, some (.iload 4, 0, 0, 0), none],
  [some (.iconst 1, 0, 0, 1), some (.iload 5, 0, 0, 0), none, some (.ishl, 0, 0, 0), some (.iand, 0, 0, 0), some (.ifCond .eq 14, 67, 0, 0), none, none, some (.aload_n 0, 0, 0, 0), some (.getfield 15, 4, 1, 0), none, none, some (.iload 5, 0, 0, 0), none, some (.aload_n 0, 0, 0, 0), some (.getfield 22, 4, 2, 0)],
  [none, none, some (.iastore, 0, 0, 0), some (.iinc 5 1, 0, 0, 0), none, none, some (.goto (-37), 33, 0, 0), none, none, some (.iload_n 2, 0, 0, 0), some (.iload 4, 0, 0, 0), none, some (.iconst (-1), 0, 0, (-1)), some (.ixor, 0, 0, 0), some (.iand, 0, 0, 0), some (.istore_n 2, 0, 0, 0)],
  [some (.aload_n 0, 0, 0, 0), some (.dup, 0, 0, 0), some (.getfield 22, 4, 2, 0), none, none, some (.iconst 1, 0, 0, 1), some (.iadd, 0, 0, 0), some (.putfield 22, 4, 2, 0), none, none, some (.iinc 3 1, 0, 0, 0), none, none, some (.goto (-80), 13, 0, 0), none, none],
  [some (.return_, 0, 0, 0)]]
def mp_54 : List (List (Option mE)) := [
  [some (.iconst 0, 0, 0, 0), some (.istore_n 3, 0, 0, 0), some (.iload_n 3, 0, 0, 0), some (.iload_n 1, 0, 0, 0), some (.if_icmp .ge 46, 50, 0, 0), none, none, some (.aload_n 0, 0, 0, 0), some (.iload_n 3, 0, 0, 0), some (.iload_n 1, 0, 0, 0), some (.invokevirtual 47, 55, 0, 0), none, none, some (.istore 4, 0, 0, 0), none, some (.iload_n 2, 0, 0, 0)],
  [some (.iconst 1, 0, 0, 1), some (.iload_n 3, 0, 0, 0), some (.ishl, 0, 0, 0), some (.iand, 0, 0, 0), some (.ifCond .eq 24, 44, 0, 0), none, none, some (.aload_n 0, 0, 0, 0), some (.getfield 9, 4, 0, 0), none, none, some (.iload_n 3, 0, 0, 0), some (.invokestatic 18, 87, 0, 0), none, none, some (.iload_n 2, 0, 0, 0)],
  [some (.iand, 0, 0, 0), some (.iload 4, 0, 0, 0), none, some (.iconst (-1), 0, 0, (-1)), some (.ixor, 0, 0, 0), some (.iand, 0, 0, 0), some (.ifCond .ne 6, 44, 0, 0), none, none, some (.iload 4, 0, 0, 0), none, some (.ireturn, 0, 0, 0), some (.iinc 3 1, 0, 0, 0), none, none, some (.goto (-45), 2, 0, 0)],
  [none, none, some (.iconst 0, 0, 0, 0), some (.ireturn, 0, 0, 0)]]
def mp_55 : List (List (Option mE)) := [
  [some (.iconst 1, 0, 0, 1), some (.iload_n 1, 0, 0, 0), some (.ishl, 0, 0, 0), some (.istore_n 3, 0, 0, 0), some (.iconst 0, 0, 0, 0), some (.istore 4, 0, 0, 0), none, some (.iload 4, 0, 0, 0), none, some (.iload_n 2, 0, 0, 0), some (.if_icmp .ge 40, 50, 0, 0), none, none, some (.iload_n 3, 0, 0, 0), some (.aload_n 0, 0, 0, 0), some (.iload_n 1, 0, 0, 0)],
  [some (.iload 4, 0, 0, 0), none, some (.invokevirtual 40, 48, 0, 0), none, none, some (.ifCond .eq 20, 41, 0, 0), none, none, some (.aload_n 0, 0, 0, 0), some (.iload 4, 0, 0, 0), none, some (.iload_n 1, 0, 0, 0), some (.invokevirtual 40, 48, 0, 0), none, none, some (.ifCond .eq 10, 41, 0, 0)],
  [none, none, some (.iconst 1, 0, 0, 1), some (.iload 4, 0, 0, 0), none, some (.ishl, 0, 0, 0), some (.goto 4, 42, 0, 0), none, none, some (.iconst 0, 0, 0, 0), some (.ior, 0, 0, 0), some (.istore_n 3, 0, 0, 0), some (.iinc 4 1, 0, 0, 0), none, none, some (.goto (-40), 7, 0, 0)],
  [none, none, some (.iload_n 3, 0, 0, 0), some (.ireturn, 0, 0, 0)]]
def mp_56 : List (List (Option mE)) := [
  [some (.iload_n 1, 0, 0, 0), some (.invokestatic 76, 82, 0, 0), none, none, some (.ifCond .ne 6, 10, 0, 0), none, none, some (.bipush (-2), 0, 0, (-2)), none, some (.ireturn, 0, 0, 0), some (.aload_n 0, 0, 0, 0), some (.getfield 72, 8, 10, 0), none, none, some (.bipush 8, 0, 0, 8), none],
  [some (.if_icmp .lt 6, 22, 0, 0), none, none, some (.bipush (-4), 0, 0, (-4)), none, some (.ireturn, 0, 0, 0), some (.aload_n 0, 0, 0, 0), some (.getfield 72, 8, 10, 0), none, none, some (.istore_n 2, 0, 0, 0), some (.aload_n 0, 0, 0, 0), some (.getfield 9, 8, 0, 0), none, none, some (.iload_n 2, 0, 0, 0)],
  [some (.iload_n 1, 0, 0, 0), some (.iastore, 0, 0, 0), some (.aload_n 0, 0, 0, 0), some (.iload_n 2, 0, 0, 0), some (.iconst 1, 0, 0, 1), some (.iadd, 0, 0, 0), some (.putfield 72, 8, 10, 0), none, none, some (.aload_n 0, 0, 0, 0), some (.getfield 26, 8, 3, 0), none, none, some (.aload_n 0, 0, 0, 0), some (.getfield 72, 8, 10, 0), none],
  [none, some (.invokevirtual 80, 17, 0, 0), none, none, some (.iload_n 2, 0, 0, 0), some (.ireturn, 0, 0, 0)]]
def mp_57 : List (List (Option mE)) := [
  [some (.aload_n 0, 0, 0, 0), some (.iload_n 1, 0, 0, 0), some (.invokevirtual 84, 81, 0, 0), none, none, some (.ifCond .ne 5, 10, 0, 0), none, none, some (.iconst (-1), 0, 0, (-1)), some (.ireturn, 0, 0, 0), some (.iload_n 2, 0, 0, 0), some (.invokestatic 76, 82, 0, 0), none, none, some (.ifCond .ne 6, 20, 0, 0), none],
  [none, some (.bipush (-2), 0, 0, (-2)), none, some (.ireturn, 0, 0, 0), some (.aload_n 0, 0, 0, 0), some (.getfield 9, 8, 0, 0), none, none, some (.iload_n 1, 0, 0, 0), some (.iaload, 0, 0, 0), some (.istore_n 3, 0, 0, 0), some (.aload_n 0, 0, 0, 0), some (.getfield 9, 8, 0, 0), none, none, some (.iload_n 1, 0, 0, 0)],
  [some (.iload_n 2, 0, 0, 0), some (.iastore, 0, 0, 0), some (.iload_n 3, 0, 0, 0), some (.ireturn, 0, 0, 0)]]
def mp_58 : List (List (Option mE)) := [
  [some (.aload_n 0, 0, 0, 0), some (.iload_n 1, 0, 0, 0), some (.invokevirtual 84, 81, 0, 0), none, none, some (.ifCond .eq 11, 16, 0, 0), none, none, some (.aload_n 0, 0, 0, 0), some (.iload_n 2, 0, 0, 0), some (.invokevirtual 84, 81, 0, 0), none, none, some (.ifCond .ne 5, 18, 0, 0), none, none],
  [some (.iconst (-1), 0, 0, (-1)), some (.ireturn, 0, 0, 0), some (.iload_n 3, 0, 0, 0), some (.ifCond .lt 9, 28, 0, 0), none, none, some (.iload_n 3, 0, 0, 0), some (.bipush 9, 0, 0, 9), none, some (.if_icmp .le 6, 31, 0, 0), none, none, some (.bipush (-2), 0, 0, (-2)), none, some (.ireturn, 0, 0, 0), some (.iload_n 1, 0, 0, 0)],
  [some (.iload_n 2, 0, 0, 0), some (.if_icmp .ne 6, 39, 0, 0), none, none, some (.bipush (-3), 0, 0, (-3)), none, some (.ireturn, 0, 0, 0), some (.aload_n 0, 0, 0, 0), some (.getfield 16, 8, 1, 0), none, none, some (.iload_n 1, 0, 0, 0), some (.iload_n 2, 0, 0, 0), some (.iload_n 3, 0, 0, 0), some (.invokevirtual 87, 6, 0, 0), none],
  [none, some (.ireturn, 0, 0, 0)]]
def mp_59 : List (List (Option mE)) := [
  [some (.aload_n 0, 0, 0, 0), some (.iload_n 1, 0, 0, 0), some (.invokevirtual 84, 81, 0, 0), none, none, some (.ifCond .eq 11, 16, 0, 0), none, none, some (.aload_n 0, 0, 0, 0), some (.iload_n 2, 0, 0, 0), some (.invokevirtual 84, 81, 0, 0), none, none, some (.ifCond .ne 5, 18, 0, 0), none, none],
  [some (.iconst (-1), 0, 0, (-1)), some (.ireturn, 0, 0, 0), some (.aload_n 0, 0, 0, 0), some (.getfield 16, 8, 1, 0), none, none, some (.iload_n 1, 0, 0, 0), some (.iload_n 2, 0, 0, 0), some (.invokevirtual 91, 4, 0, 0), none, none, some (.ireturn, 0, 0, 0)]]
def mp_60 : List (List (Option mE)) := [
  [some (.aload_n 0, 0, 0, 0), some (.iload_n 1, 0, 0, 0), some (.invokevirtual 84, 81, 0, 0), none, none, some (.ifCond .eq 11, 16, 0, 0), none, none, some (.aload_n 0, 0, 0, 0), some (.iload_n 2, 0, 0, 0), some (.invokevirtual 84, 81, 0, 0), none, none, some (.ifCond .ne 5, 18, 0, 0), none, none],
  [some (.iconst (-1), 0, 0, (-1)), some (.ireturn, 0, 0, 0), some (.aload_n 0, 0, 0, 0), some (.getfield 33, 8, 4, 0), none, none, some (.aload_n 0, 0, 0, 0), some (.getfield 72, 8, 10, 0), none, none, some (.aload_n 0, 0, 0, 0), some (.getfield 16, 8, 1, 0), none, none, some (.invokevirtual 95, 51, 0, 0), none],
  [none, some (.aload_n 0, 0, 0, 0), some (.getfield 33, 8, 4, 0), none, none, some (.iload_n 1, 0, 0, 0), some (.iload_n 2, 0, 0, 0), some (.invokevirtual 99, 48, 0, 0), none, none, some (.ifCond .eq 7, 49, 0, 0), none, none, some (.iconst 1, 0, 0, 1), some (.goto 4, 50, 0, 0), none],
  [none, some (.iconst 0, 0, 0, 0), some (.ireturn, 0, 0, 0)]]
def mp_61 : List (List (Option mE)) := [
  [some (.aload_n 0, 0, 0, 0), some (.getfield 33, 8, 4, 0), none, none, some (.aload_n 0, 0, 0, 0), some (.getfield 72, 8, 10, 0), none, none, some (.aload_n 0, 0, 0, 0), some (.getfield 16, 8, 1, 0), none, none, some (.invokevirtual 95, 51, 0, 0), none, none, some (.aload_n 0, 0, 0, 0)],
  [some (.getfield 33, 8, 4, 0), none, none, some (.invokevirtual 103, 49, 0, 0), none, none, some (.ireturn, 0, 0, 0)]]
def mp_62 : List (List (Option mE)) := [
  [some (.aload_n 0, 0, 0, 0), some (.iload_n 1, 0, 0, 0), some (.invokevirtual 84, 81, 0, 0), none, none, some (.ifCond .ne 5, 10, 0, 0), none, none, some (.iconst (-1), 0, 0, (-1)), some (.ireturn, 0, 0, 0), some (.aload_n 0, 0, 0, 0), some (.getfield 33, 8, 4, 0), none, none, some (.aload_n 0, 0, 0, 0), some (.getfield 72, 8, 10, 0)],
  [none, none, some (.aload_n 0, 0, 0, 0), some (.getfield 16, 8, 1, 0), none, none, some (.invokevirtual 95, 51, 0, 0), none, none, some (.aload_n 0, 0, 0, 0), some (.getfield 33, 8, 4, 0), none, none, some (.iload_n 1, 0, 0, 0), some (.invokevirtual 107, 50, 0, 0), none],
  [none, some (.ireturn, 0, 0, 0)]]
def mp_63 : List (List (Option mE)) := [
  [some (.aload_n 0, 0, 0, 0), some (.getfield 40, 8, 5, 0), none, none, some (.aload_n 0, 0, 0, 0), some (.getfield 72, 8, 10, 0), none, none, some (.aload_n 0, 0, 0, 0), some (.getfield 16, 8, 1, 0), none, none, some (.invokevirtual 111, 30, 0, 0), none, none, some (.ireturn, 0, 0, 0)]]
def mp_64 : List (List (Option mE)) := [
  [some (.iload_n 1, 0, 0, 0), some (.ifCond .lt 11, 12, 0, 0), none, none, some (.iload_n 1, 0, 0, 0), some (.aload_n 0, 0, 0, 0), some (.getfield 72, 8, 10, 0), none, none, some (.if_icmp .lt 6, 15, 0, 0), none, none, some (.bipush (-9), 0, 0, (-9)), none, some (.ireturn, 0, 0, 0), some (.aload_n 0, 0, 0, 0)],
  [some (.getfield 40, 8, 5, 0), none, none, some (.aload_n 0, 0, 0, 0), some (.getfield 72, 8, 10, 0), none, none, some (.aload_n 0, 0, 0, 0), some (.getfield 16, 8, 1, 0), none, none, some (.invokevirtual 115, 31, 0, 0), none, none, some (.iload_n 1, 0, 0, 0), some (.invokevirtual 118, 13, 0, 0)],
  [none, none, some (.ireturn, 0, 0, 0)]]
def mp_65 : List (List (Option mE)) := [
  [some (.aload_n 0, 0, 0, 0), some (.iload_n 1, 0, 0, 0), some (.invokevirtual 84, 81, 0, 0), none, none, some (.ifCond .eq 11, 16, 0, 0), none, none, some (.aload_n 0, 0, 0, 0), some (.iload_n 2, 0, 0, 0), some (.invokevirtual 84, 81, 0, 0), none, none, some (.ifCond .ne 5, 18, 0, 0), none, none],
  [some (.iconst (-1), 0, 0, (-1)), some (.ireturn, 0, 0, 0), some (.aload_n 0, 0, 0, 0), some (.getfield 40, 8, 5, 0), none, none, some (.aload_n 0, 0, 0, 0), some (.getfield 72, 8, 10, 0), none, none, some (.aload_n 0, 0, 0, 0), some (.getfield 16, 8, 1, 0), none, none, some (.invokevirtual 111, 30, 0, 0), none],
  [none, some (.istore_n 3, 0, 0, 0), some (.aload_n 0, 0, 0, 0), some (.getfield 16, 8, 1, 0), none, none, some (.iload_n 1, 0, 0, 0), some (.iload_n 2, 0, 0, 0), some (.iconst 0, 0, 0, 0), some (.invokevirtual 87, 6, 0, 0), none, none, some (.istore 4, 0, 0, 0), none, some (.aload_n 0, 0, 0, 0), some (.getfield 40, 8, 5, 0)],
  [none, none, some (.aload_n 0, 0, 0, 0), some (.getfield 72, 8, 10, 0), none, none, some (.aload_n 0, 0, 0, 0), some (.getfield 16, 8, 1, 0), none, none, some (.invokevirtual 111, 30, 0, 0), none, none, some (.istore 5, 0, 0, 0), none, some (.aload_n 0, 0, 0, 0)],
  [some (.getfield 16, 8, 1, 0), none, none, some (.iload_n 1, 0, 0, 0), some (.iload_n 2, 0, 0, 0), some (.iload 4, 0, 0, 0), none, some (.invokevirtual 87, 6, 0, 0), none, none, some (.pop, 0, 0, 0), some (.iload_n 3, 0, 0, 0), some (.iload 5, 0, 0, 0), none, some (.isub, 0, 0, 0), some (.ireturn, 0, 0, 0)]]
def mp_66 : List (List (Option mE)) := [
  [some (.aload_n 0, 0, 0, 0), some (.getfield 26, 8, 3, 0), none, none, some (.iload_n 1, 0, 0, 0), some (.invokevirtual 118, 13, 0, 0), none, none, some (.ireturn, 0, 0, 0)]]
def mp_67 : List (List (Option mE)) := [
  [some (.aload_n 0, 0, 0, 0), some (.getfield 26, 8, 3, 0), none, none, some (.iload_n 1, 0, 0, 0), some (.invokevirtual 121, 11, 0, 0), none, none, some (.ifCond .eq 14, 22, 0, 0), none, none, some (.aload_n 0, 0, 0, 0), some (.getfield 26, 8, 3, 0), none, none, some (.iload_n 2, 0, 0, 0)],
  [some (.invokevirtual 121, 11, 0, 0), none, none, some (.ifCond .ne 6, 25, 0, 0), none, none, some (.bipush (-2), 0, 0, (-2)), none, some (.ireturn, 0, 0, 0), some (.aload_n 0, 0, 0, 0), some (.getfield 26, 8, 3, 0), none, none, some (.iload_n 1, 0, 0, 0), some (.iload_n 2, 0, 0, 0), some (.invokevirtual 124, 19, 0, 0)],
  [none, none, some (.aload_n 0, 0, 0, 0), some (.getfield 26, 8, 3, 0), none, none, some (.aload_n 0, 0, 0, 0), some (.getfield 16, 8, 1, 0), none, none, some (.invokevirtual 128, 20, 0, 0), none, none, some (.ireturn, 0, 0, 0)]]
def mp_68 : List (List (Option mE)) := [
  [some (.aload_n 0, 0, 0, 0), some (.getfield 26, 8, 3, 0), none, none, some (.aload_n 0, 0, 0, 0), some (.getfield 40, 8, 5, 0), none, none, some (.aload_n 0, 0, 0, 0), some (.getfield 72, 8, 10, 0), none, none, some (.aload_n 0, 0, 0, 0), some (.getfield 16, 8, 1, 0), none, none],
  [some (.invokevirtual 115, 31, 0, 0), none, none, some (.invokevirtual 132, 18, 0, 0), none, none, some (.aload_n 0, 0, 0, 0), some (.getfield 26, 8, 3, 0), none, none, some (.aload_n 0, 0, 0, 0), some (.getfield 16, 8, 1, 0), none, none, some (.invokevirtual 128, 20, 0, 0), none],
  [none, some (.ireturn, 0, 0, 0)]]
def mp_69 : List (List (Option mE)) := [
  [some (.aload_n 0, 0, 0, 0), some (.getfield 26, 8, 3, 0), none, none, some (.aload_n 0, 0, 0, 0), some (.getfield 16, 8, 1, 0), none, none, some (.invokevirtual 128, 20, 0, 0), none, none, some (.ireturn, 0, 0, 0)]]
def mp_70 : List (List (Option mE)) := [
  [some (.aload_n 0, 0, 0, 0), some (.iload_n 1, 0, 0, 0), some (.invokevirtual 84, 81, 0, 0), none, none, some (.ifCond .eq 11, 16, 0, 0), none, none, some (.aload_n 0, 0, 0, 0), some (.iload_n 2, 0, 0, 0), some (.invokevirtual 84, 81, 0, 0), none, none, some (.ifCond .ne 5, 18, 0, 0), none, none],
  [some (.iconst (-1), 0, 0, (-1)), some (.ireturn, 0, 0, 0), some (.aload_n 0, 0, 0, 0), some (.getfield 16, 8, 1, 0), none, none, some (.iload_n 1, 0, 0, 0), some (.iload_n 2, 0, 0, 0), some (.invokevirtual 91, 4, 0, 0), none, none, some (.ifCond .le 26, 53, 0, 0), none, none, some (.aload_n 0, 0, 0, 0), some (.getfield 26, 8, 3, 0)],
  [none, none, some (.iload_n 2, 0, 0, 0), some (.invokevirtual 136, 14, 0, 0), none, none, some (.aload_n 0, 0, 0, 0), some (.getfield 26, 8, 3, 0), none, none, some (.iload_n 1, 0, 0, 0), some (.invokevirtual 136, 14, 0, 0), none, none, some (.if_icmp .le 7, 53, 0, 0), none],
  [none, some (.iconst 1, 0, 0, 1), some (.goto 4, 54, 0, 0), none, none, some (.iconst 0, 0, 0, 0), some (.ireturn, 0, 0, 0)]]
def mp_71 : List (List (Option mE)) := [
  [some (.aload_n 0, 0, 0, 0), some (.iload_n 1, 0, 0, 0), some (.invokevirtual 84, 81, 0, 0), none, none, some (.ifCond .eq 11, 16, 0, 0), none, none, some (.aload_n 0, 0, 0, 0), some (.iload_n 2, 0, 0, 0), some (.invokevirtual 84, 81, 0, 0), none, none, some (.ifCond .ne 5, 18, 0, 0), none, none],
  [some (.iconst (-1), 0, 0, (-1)), some (.ireturn, 0, 0, 0), some (.iload_n 3, 0, 0, 0), some (.ifCond .lt 9, 28, 0, 0), none, none, some (.iload_n 3, 0, 0, 0), some (.bipush 8, 0, 0, 8), none, some (.if_icmp .le 6, 31, 0, 0), none, none, some (.bipush (-2), 0, 0, (-2)), none, some (.ireturn, 0, 0, 0), some (.iload_n 1, 0, 0, 0)],
  [some (.iload_n 2, 0, 0, 0), some (.if_icmp .eq 28, 61, 0, 0), none, none, some (.aload_n 0, 0, 0, 0), some (.getfield 20, 8, 2, 0), none, none, some (.iload_n 1, 0, 0, 0), some (.invokevirtual 139, 7, 0, 0), none, none, some (.aload_n 0, 0, 0, 0), some (.getfield 20, 8, 2, 0), none, none],
  [some (.iload_n 1, 0, 0, 0), some (.iload_n 2, 0, 0, 0), some (.invokevirtual 91, 4, 0, 0), none, none, some (.isub, 0, 0, 0), some (.iload_n 3, 0, 0, 0), some (.iadd, 0, 0, 0), some (.bipush 8, 0, 0, 8), none, some (.if_icmp .le 6, 64, 0, 0), none, none, some (.bipush (-3), 0, 0, (-3)), none, some (.ireturn, 0, 0, 0)],
  [some (.aload_n 0, 0, 0, 0), some (.getfield 20, 8, 2, 0), none, none, some (.iload_n 1, 0, 0, 0), some (.iload_n 2, 0, 0, 0), some (.iload_n 3, 0, 0, 0), some (.invokevirtual 87, 6, 0, 0), none, none, some (.ireturn, 0, 0, 0)]]
def mp_72 : List (List (Option mE)) := [
  [some (.aload_n 0, 0, 0, 0), some (.getfield 47, 8, 6, 0), none, none, some (.aload_n 0, 0, 0, 0), some (.getfield 26, 8, 3, 0), none, none, some (.aload_n 0, 0, 0, 0), some (.getfield 20, 8, 2, 0), none, none, some (.aload_n 0, 0, 0, 0), some (.getfield 9, 8, 0, 0), none, none],
  [some (.invokevirtual 142, 45, 0, 0), none, none, some (.aload_n 0, 0, 0, 0), some (.getfield 47, 8, 6, 0), none, none, some (.invokevirtual 146, 42, 0, 0), none, none, some (.aload_n 0, 0, 0, 0), some (.getfield 47, 8, 6, 0), none, none, some (.invokevirtual 150, 43, 0, 0), none],
  [none, some (.iload_n 1, 0, 0, 0), some (.invokestatic 153, 85, 0, 0), none, none, some (.lreturn, 0, 0, 0)]]
def mp_73 : List (List (Option mE)) := [
  [some (.aload_n 0, 0, 0, 0), some (.iload_n 1, 0, 0, 0), some (.invokevirtual 84, 81, 0, 0), none, none, some (.ifCond .ne 7, 12, 0, 0), none, none, some (.ldc2_w 157, 0, 0, (-1)), none, none, some (.lreturn, 0, 0, 0), some (.aload_n 0, 0, 0, 0), some (.getfield 47, 8, 6, 0), none, none],
  [some (.aload_n 0, 0, 0, 0), some (.getfield 26, 8, 3, 0), none, none, some (.aload_n 0, 0, 0, 0), some (.getfield 20, 8, 2, 0), none, none, some (.iload_n 1, 0, 0, 0), some (.invokevirtual 159, 44, 0, 0), none, none, some (.aload_n 0, 0, 0, 0), some (.getfield 47, 8, 6, 0), none, none],
  [some (.invokevirtual 146, 42, 0, 0), none, none, some (.aload_n 0, 0, 0, 0), some (.getfield 47, 8, 6, 0), none, none, some (.invokevirtual 150, 43, 0, 0), none, none, some (.iload_n 2, 0, 0, 0), some (.invokestatic 153, 85, 0, 0), none, none, some (.lreturn, 0, 0, 0)]]
def mp_74 : List (List (Option mE)) := [
  [some (.aload_n 0, 0, 0, 0), some (.iload_n 1, 0, 0, 0), some (.invokevirtual 84, 81, 0, 0), none, none, some (.ifCond .ne 5, 10, 0, 0), none, none, some (.iconst (-1), 0, 0, (-1)), some (.ireturn, 0, 0, 0), some (.aload_n 0, 0, 0, 0), some (.getfield 54, 8, 7, 0), none, none, some (.aload_n 0, 0, 0, 0), some (.getfield 26, 8, 3, 0)],
  [none, none, some (.aload_n 0, 0, 0, 0), some (.getfield 16, 8, 1, 0), none, none, some (.aload_n 0, 0, 0, 0), some (.getfield 9, 8, 0, 0), none, none, some (.invokevirtual 163, 23, 0, 0), none, none, some (.aload_n 0, 0, 0, 0), some (.getfield 54, 8, 7, 0), none],
  [none, some (.aload_n 0, 0, 0, 0), some (.getfield 26, 8, 3, 0), none, none, some (.iload_n 1, 0, 0, 0), some (.invokevirtual 136, 14, 0, 0), none, none, some (.invokevirtual 164, 21, 0, 0), none, none, some (.ireturn, 0, 0, 0)]]
def mp_75 : List (List (Option mE)) := [
  [some (.aload_n 0, 0, 0, 0), some (.getfield 54, 8, 7, 0), none, none, some (.aload_n 0, 0, 0, 0), some (.getfield 26, 8, 3, 0), none, none, some (.aload_n 0, 0, 0, 0), some (.getfield 16, 8, 1, 0), none, none, some (.aload_n 0, 0, 0, 0), some (.getfield 9, 8, 0, 0), none, none],
  [some (.invokevirtual 163, 23, 0, 0), none, none, some (.aload_n 0, 0, 0, 0), some (.getfield 54, 8, 7, 0), none, none, some (.invokevirtual 167, 22, 0, 0), none, none, some (.ireturn, 0, 0, 0)]]
def mp_76 : List (List (Option mE)) := [
  [some (.iload_n 1, 0, 0, 0), some (.invokestatic 170, 83, 0, 0), none, none, some (.ifCond .ne 6, 10, 0, 0), none, none, some (.bipush (-2), 0, 0, (-2)), none, some (.ireturn, 0, 0, 0), some (.aload_n 0, 0, 0, 0), some (.getfield 61, 8, 8, 0), none, none, some (.aload_n 0, 0, 0, 0), some (.getfield 72, 8, 10, 0)],
  [none, none, some (.aload_n 0, 0, 0, 0), some (.getfield 16, 8, 1, 0), none, none, some (.iload_n 1, 0, 0, 0), some (.invokevirtual 173, 37, 0, 0), none, none, some (.aload_n 0, 0, 0, 0), some (.getfield 61, 8, 8, 0), none, none, some (.invokevirtual 176, 35, 0, 0), none],
  [none, some (.ireturn, 0, 0, 0)]]
def mp_77 : List (List (Option mE)) := [
  [some (.aload_n 0, 0, 0, 0), some (.iload_n 2, 0, 0, 0), some (.invokevirtual 84, 81, 0, 0), none, none, some (.ifCond .ne 5, 10, 0, 0), none, none, some (.iconst (-1), 0, 0, (-1)), some (.ireturn, 0, 0, 0), some (.iload_n 1, 0, 0, 0), some (.invokestatic 170, 83, 0, 0), none, none, some (.ifCond .ne 6, 20, 0, 0), none],
  [none, some (.bipush (-2), 0, 0, (-2)), none, some (.ireturn, 0, 0, 0), some (.aload_n 0, 0, 0, 0), some (.getfield 61, 8, 8, 0), none, none, some (.aload_n 0, 0, 0, 0), some (.getfield 72, 8, 10, 0), none, none, some (.aload_n 0, 0, 0, 0), some (.getfield 16, 8, 1, 0), none, none],
  [some (.iload_n 1, 0, 0, 0), some (.invokevirtual 173, 37, 0, 0), none, none, some (.aload_n 0, 0, 0, 0), some (.getfield 61, 8, 8, 0), none, none, some (.iload_n 2, 0, 0, 0), some (.invokevirtual 179, 36, 0, 0), none, none, some (.ireturn, 0, 0, 0)]]
def mp_78 : List (List (Option mE)) := [
  [some (.aload_n 0, 0, 0, 0), some (.iload_n 1, 0, 0, 0), some (.invokevirtual 84, 81, 0, 0), none, none, some (.ifCond .eq 11, 16, 0, 0), none, none, some (.aload_n 0, 0, 0, 0), some (.iload_n 2, 0, 0, 0), some (.invokevirtual 84, 81, 0, 0), none, none, some (.ifCond .ne 7, 20, 0, 0), none, none],
  [some (.ldc2_w 157, 0, 0, (-1)), none, none, some (.lreturn, 0, 0, 0), some (.aload_n 0, 0, 0, 0), some (.getfield 68, 8, 9, 0), none, none, some (.iload_n 1, 0, 0, 0), some (.aload_n 0, 0, 0, 0), some (.getfield 72, 8, 10, 0), none, none, some (.aload_n 0, 0, 0, 0), some (.getfield 16, 8, 1, 0), none],
  [none, some (.invokevirtual 182, 26, 0, 0), none, none, some (.aload_n 0, 0, 0, 0), some (.getfield 68, 8, 9, 0), none, none, some (.iload_n 2, 0, 0, 0), some (.invokevirtual 186, 24, 0, 0), none, none, some (.i2l, 0, 0, 0), some (.ldc2_w 189, 0, 0, 10000000), none, none],
  [some (.iload_n 3, 0, 0, 0), some (.invokestatic 153, 85, 0, 0), none, none, some (.lreturn, 0, 0, 0)]]
def mp_79 : List (List (Option mE)) := [
  [some (.aload_n 0, 0, 0, 0), some (.iload_n 1, 0, 0, 0), some (.invokevirtual 84, 81, 0, 0), none, none, some (.ifCond .ne 5, 10, 0, 0), none, none, some (.iconst (-1), 0, 0, (-1)), some (.ireturn, 0, 0, 0), some (.iload_n 2, 0, 0, 0), some (.iconst 1, 0, 0, 1), some (.if_icmp .lt 10, 22, 0, 0), none, none, some (.iload_n 2, 0, 0, 0)],
  [some (.sipush 1000, 0, 0, 1000), none, none, some (.if_icmp .le 6, 25, 0, 0), none, none, some (.bipush (-2), 0, 0, (-2)), none, some (.ireturn, 0, 0, 0), some (.aload_n 0, 0, 0, 0), some (.getfield 68, 8, 9, 0), none, none, some (.iload_n 1, 0, 0, 0), some (.aload_n 0, 0, 0, 0), some (.getfield 72, 8, 10, 0)],
  [none, none, some (.aload_n 0, 0, 0, 0), some (.getfield 16, 8, 1, 0), none, none, some (.invokevirtual 182, 26, 0, 0), none, none, some (.iconst 1, 0, 0, 1), some (.istore_n 3, 0, 0, 0), some (.aload_n 0, 0, 0, 0), some (.getfield 68, 8, 9, 0), none, none, some (.sipush 10000, 0, 0, 10000)],
  [none, none, some (.iload_n 2, 0, 0, 0), some (.imul, 0, 0, 0), some (.invokevirtual 191, 25, 0, 0), none, none, some (.iload_n 3, 0, 0, 0), some (.isub, 0, 0, 0), some (.ireturn, 0, 0, 0)]]
def mp_80 : List (List (Option mE)) := [
  [some (.iload_n 1, 0, 0, 0), some (.tableswitch 69 0 4 #[35, 40, 48, 56, 64], 70, 0, 0), none, none, none, none, none, none, none, none, none, none, none, none, none, none],
  [none, none, none, none, none, none, none, none, none, none, none, none, none, none, none, none],
  [none, none, none, none, some (.aload_n 0, 0, 0, 0), some (.getfield 72, 8, 10, 0), none, none, some (.ireturn, 0, 0, 0), some (.aload_n 0, 0, 0, 0), some (.getfield 16, 8, 1, 0), none, none, some (.invokevirtual 193, 9, 0, 0), none, none],
  [some (.ireturn, 0, 0, 0), some (.aload_n 0, 0, 0, 0), some (.getfield 16, 8, 1, 0), none, none, some (.invokevirtual 194, 8, 0, 0), none, none, some (.ireturn, 0, 0, 0), some (.aload_n 0, 0, 0, 0), some (.getfield 20, 8, 2, 0), none, none, some (.invokevirtual 193, 9, 0, 0), none, none],
  [some (.ireturn, 0, 0, 0), some (.aload_n 0, 0, 0, 0), some (.invokevirtual 197, 84, 0, 0), none, none, some (.ireturn, 0, 0, 0), some (.bipush (-2), 0, 0, (-2)), none, some (.ireturn, 0, 0, 0)]]
def mp_81 : List (List (Option mE)) := [
  [some (.iload_n 1, 0, 0, 0), some (.ifCond .lt 21, 22, 0, 0), none, none, some (.iload_n 1, 0, 0, 0), some (.aload_n 0, 0, 0, 0), some (.getfield 72, 8, 10, 0), none, none, some (.if_icmp .ge 13, 22, 0, 0), none, none, some (.iload_n 1, 0, 0, 0), some (.bipush 8, 0, 0, 8), none, some (.if_icmp .ge 7, 22, 0, 0)],
  [none, none, some (.iconst 1, 0, 0, 1), some (.goto 4, 23, 0, 0), none, none, some (.iconst 0, 0, 0, 0), some (.ireturn, 1, 0, 0)]]
def mp_82 : List (List (Option mE)) := [
  [some (.iload_n 0, 0, 0, 0), some (.iconst 1, 0, 0, 1), some (.if_icmp .lt 13, 15, 0, 0), none, none, some (.iload_n 0, 0, 0, 0), some (.bipush 20, 0, 0, 20), none, some (.if_icmp .gt 7, 15, 0, 0), none, none, some (.iconst 1, 0, 0, 1), some (.goto 4, 16, 0, 0), none, none, some (.iconst 0, 0, 0, 0)],
  [some (.ireturn, 1, 0, 0)]]
def mp_83 : List (List (Option mE)) := [
  [some (.iload_n 0, 0, 0, 0), some (.iconst 1, 0, 0, 1), some (.if_icmp .lt 13, 15, 0, 0), none, none, some (.iload_n 0, 0, 0, 0), some (.bipush 8, 0, 0, 8), none, some (.if_icmp .gt 7, 15, 0, 0), none, none, some (.iconst 1, 0, 0, 1), some (.goto 4, 16, 0, 0), none, none, some (.iconst 0, 0, 0, 0)],
  [some (.ireturn, 1, 0, 0)]]
def mp_84 : List (List (Option mE)) := [
  [some (.iconst 0, 0, 0, 0), some (.istore_n 1, 0, 0, 0), some (.aload_n 0, 0, 0, 0), some (.getfield 9, 8, 0, 0), none, none, some (.astore_n 2, 0, 0, 0), some (.aload_n 2, 0, 0, 0), some (.arraylength, 0, 0, 0), some (.istore_n 3, 0, 0, 0), some (.iconst 0, 0, 0, 0), some (.istore 4, 0, 0, 0), none, some (.iload 4, 0, 0, 0), none, some (.iload_n 3, 0, 0, 0)],
  [some (.if_icmp .ge 20, 36, 0, 0), none, none, some (.aload_n 2, 0, 0, 0), some (.iload 4, 0, 0, 0), none, some (.iaload, 0, 0, 0), some (.istore 5, 0, 0, 0), none, some (.iload_n 1, 0, 0, 0), some (.iload 5, 0, 0, 0), none, some (.iadd, 0, 0, 0), some (.istore_n 1, 0, 0, 0), some (.iinc 4 1, 0, 0, 0), none],
  [none, some (.goto (-20), 13, 0, 0), none, none, some (.iload_n 1, 0, 0, 0), some (.ireturn, 0, 0, 0)]]
def mp_85 : List (List (Option mE)) := [
  [some (.lload_n 0, 0, 0, 0), some (.lload_n 2, 0, 0, 0), some (.invokestatic 200, 86, 0, 0), none, none, some (.lstore 5, 0, 0, 0), none, some (.lload 5, 0, 0, 0), none, some (.lconst 0, 0, 0, 0), some (.lcmp, 0, 0, 0), some (.ifCond .gt 5, 16, 0, 0), none, none, some (.lconst 0, 0, 0, 0), some (.lreturn, 0, 0, 0)],
  [some (.iload 4, 0, 0, 0), none, some (.ifCond .eq 7, 25, 0, 0), none, none, some (.lload_n 0, 0, 0, 0), some (.goto 4, 26, 0, 0), none, none, some (.lload_n 2, 0, 0, 0), some (.lload 5, 0, 0, 0), none, some (.ldiv, 0, 0, 0), some (.lreturn, 0, 0, 0)]]
def mp_86 : List (List (Option mE)) := [
  [some (.lload_n 0, 0, 0, 0), some (.lstore 4, 0, 0, 0), none, some (.lload_n 2, 0, 0, 0), some (.lstore 6, 0, 0, 0), none, some (.iconst 0, 0, 0, 0), some (.istore 8, 0, 0, 0), none, some (.iload 8, 0, 0, 0), none, some (.bipush 100, 0, 0, 100), none, some (.if_icmp .ge 31, 44, 0, 0), none, none],
  [some (.lload 6, 0, 0, 0), none, some (.lconst 0, 0, 0, 0), some (.lcmp, 0, 0, 0), some (.ifCond .eq 24, 44, 0, 0), none, none, some (.lload 4, 0, 0, 0), none, some (.lload 6, 0, 0, 0), none, some (.lrem, 0, 0, 0), some (.lstore 9, 0, 0, 0), none, some (.lload 6, 0, 0, 0), none],
  [some (.lstore 4, 0, 0, 0), none, some (.lload 9, 0, 0, 0), none, some (.lstore 6, 0, 0, 0), none, some (.iinc 8 1, 0, 0, 0), none, none, some (.goto (-32), 9, 0, 0), none, none, some (.lload 4, 0, 0, 0), none, some (.lreturn, 0, 0, 0)]]
def mp_87 : List (List (Option mE)) := [
  [some (.iload_n 1, 0, 0, 0), some (.ifCond .lt 15, 16, 0, 0), none, none, some (.iload_n 1, 0, 0, 0), some (.aload_n 0, 0, 0, 0), some (.arraylength, 0, 0, 0), some (.if_icmp .ge 9, 16, 0, 0), none, none, some (.aload_n 0, 0, 0, 0), some (.iload_n 1, 0, 0, 0), some (.iaload, 0, 0, 0), some (.goto 4, 17, 0, 0), none, none],
  [some (.iconst 0, 0, 0, 0), some (.ireturn, 0, 0, 0)]]
def mp_88 : List (List (Option mE)) := [
  [some (.lload_n 0, 0, 0, 0), some (.lload_n 2, 0, 0, 0), some (.lcmp, 0, 0, 0), some (.ifCond .lt 14, 17, 0, 0), none, none, some (.lload_n 0, 0, 0, 0), some (.lload 4, 0, 0, 0), none, some (.lcmp, 0, 0, 0), some (.ifCond .gt 7, 17, 0, 0), none, none, some (.iconst 1, 0, 0, 1), some (.goto 4, 18, 0, 0), none],
  [none, some (.iconst 0, 0, 0, 0), some (.ireturn, 1, 0, 0)]]
def mp_89 : List (List (Option mE)) := [
  [some (.iload_n 1, 0, 0, 0), some (.i2l, 0, 0, 0), some (.lconst 0, 0, 0, 0), some (.aload_n 0, 0, 0, 0), some (.getfield 55, 9, 1, 0), none, none, some (.iconst 1, 0, 0, 1), some (.isub, 0, 0, 0), some (.i2l, 0, 0, 0), some (.invokestatic 58, 88, 0, 0), none, none, some (.ifCond .ne 7, 20, 0, 0), none, none],
  [some (.iconst 1, 0, 0, 1), some (.goto 4, 21, 0, 0), none, none, some (.iconst 0, 0, 0, 0), some (.ireturn, 1, 0, 0)]]
def mp_90 : List (List (Option mE)) := [
  [some (.lload_n 0, 0, 0, 0), some (.lstore 5, 0, 0, 0), none, some (.lload_n 2, 0, 0, 0), some (.lstore 7, 0, 0, 0), none, some (.lload 7, 0, 0, 0), none, some (.lconst 0, 0, 0, 0), some (.lcmp, 0, 0, 0), some (.ifCond .eq 21, 31, 0, 0), none, none, some (.lload 5, 0, 0, 0), none, some (.lload 7, 0, 0, 0)],
  [none, some (.lrem, 0, 0, 0), some (.lstore 9, 0, 0, 0), none, some (.lload 7, 0, 0, 0), none, some (.lstore 5, 0, 0, 0), none, some (.lload 9, 0, 0, 0), none, some (.lstore 7, 0, 0, 0), none, some (.goto (-22), 6, 0, 0), none, none, some (.iload 4, 0, 0, 0)],
  [none, some (.ifCond .eq 7, 40, 0, 0), none, none, some (.lload_n 0, 0, 0, 0), some (.goto 4, 41, 0, 0), none, none, some (.lload_n 2, 0, 0, 0), some (.lload 5, 0, 0, 0), none, some (.ldiv, 0, 0, 0), some (.lreturn, 0, 0, 0)]]
def mp_91 : List (List (Option mE)) := [
  [some (.aload_n 0, 0, 0, 0), some (.iconst 0, 0, 0, 0), some (.putfield 51, 9, 0, 0), none, none, some (.iload_n 1, 0, 0, 0), some (.i2l, 0, 0, 0), some (.lconst 1, 0, 0, 1), some (.ldc2_w 62, 0, 0, 20), none, none, some (.invokestatic 58, 88, 0, 0), none, none, some (.ifCond .ne 6, 20, 0, 0), none],
  [none, some (.bipush (-2), 0, 0, (-2)), none, some (.ireturn, 0, 0, 0), some (.aload_n 0, 0, 0, 0), some (.getfield 55, 9, 1, 0), none, none, some (.bipush 8, 0, 0, 8), none, some (.if_icmp .ne 6, 32, 0, 0), none, none, some (.bipush (-4), 0, 0, (-4)), none, some (.ireturn, 0, 0, 0)],
  [some (.aload_n 0, 0, 0, 0), some (.getfield 7, 9, 2, 0), none, none, some (.aload_n 0, 0, 0, 0), some (.getfield 55, 9, 1, 0), none, none, some (.iload_n 1, 0, 0, 0), some (.iastore, 0, 0, 0), some (.aload_n 0, 0, 0, 0), some (.dup, 0, 0, 0), some (.getfield 55, 9, 1, 0), none, none, some (.iconst 1, 0, 0, 1)],
  [some (.iadd, 0, 0, 0), some (.putfield 55, 9, 1, 0), none, none, some (.iconst 0, 0, 0, 0), some (.istore_n 2, 0, 0, 0), some (.iload_n 2, 0, 0, 0), some (.aload_n 0, 0, 0, 0), some (.getfield 55, 9, 1, 0), none, none, some (.if_icmp .ge 16, 75, 0, 0), none, none, some (.aload_n 0, 0, 0, 0), some (.getfield 19, 9, 5, 0)],
  [none, none, some (.iload_n 2, 0, 0, 0), some (.iload_n 2, 0, 0, 0), some (.iastore, 0, 0, 0), some (.iinc 2 1, 0, 0, 0), none, none, some (.goto (-18), 54, 0, 0), none, none, some (.aload_n 0, 0, 0, 0), some (.getfield 55, 9, 1, 0), none, none, some (.iconst 1, 0, 0, 1)],
  [some (.isub, 0, 0, 0), some (.ireturn, 0, 0, 0)]]
def mp_92 : List (List (Option mE)) := [
  [some (.aload_n 0, 0, 0, 0), some (.iconst 0, 0, 0, 0), some (.putfield 51, 9, 0, 0), none, none, some (.aload_n 0, 0, 0, 0), some (.iload_n 1, 0, 0, 0), some (.invokevirtual 64, 89, 0, 0), none, none, some (.ifCond .eq 5, 15, 0, 0), none, none, some (.iconst (-1), 0, 0, (-1)), some (.ireturn, 0, 0, 0), some (.iload_n 2, 0, 0, 0)],
  [some (.i2l, 0, 0, 0), some (.lconst 1, 0, 0, 1), some (.ldc2_w 62, 0, 0, 20), none, none, some (.invokestatic 58, 88, 0, 0), none, none, some (.ifCond .ne 6, 30, 0, 0), none, none, some (.bipush (-2), 0, 0, (-2)), none, some (.ireturn, 0, 0, 0), some (.aload_n 0, 0, 0, 0), some (.getfield 7, 9, 2, 0)],
  [none, none, some (.iload_n 1, 0, 0, 0), some (.iaload, 0, 0, 0), some (.istore_n 3, 0, 0, 0), some (.aload_n 0, 0, 0, 0), some (.getfield 7, 9, 2, 0), none, none, some (.iload_n 1, 0, 0, 0), some (.iload_n 2, 0, 0, 0), some (.iastore, 0, 0, 0), some (.iload_n 3, 0, 0, 0), some (.ireturn, 0, 0, 0)]]
def mp_93 : List (List (Option mE)) := [
  [some (.aload_n 0, 0, 0, 0), some (.iconst 0, 0, 0, 0), some (.putfield 51, 9, 0, 0), none, none, some (.aload_n 0, 0, 0, 0), some (.iload_n 1, 0, 0, 0), some (.invokevirtual 64, 89, 0, 0), none, none, some (.ifCond .ne 11, 21, 0, 0), none, none, some (.aload_n 0, 0, 0, 0), some (.iload_n 2, 0, 0, 0), some (.invokevirtual 64, 89, 0, 0)],
  [none, none, some (.ifCond .eq 5, 23, 0, 0), none, none, some (.iconst (-1), 0, 0, (-1)), some (.ireturn, 0, 0, 0), some (.iload_n 3, 0, 0, 0), some (.i2l, 0, 0, 0), some (.lconst 0, 0, 0, 0), some (.ldc2_w 68, 0, 0, 9), none, none, some (.invokestatic 58, 88, 0, 0), none, none],
  [some (.ifCond .ne 6, 38, 0, 0), none, none, some (.bipush (-2), 0, 0, (-2)), none, some (.ireturn, 0, 0, 0), some (.iload_n 1, 0, 0, 0), some (.iload_n 2, 0, 0, 0), some (.if_icmp .ne 6, 46, 0, 0), none, none, some (.bipush (-3), 0, 0, (-3)), none, some (.ireturn, 0, 0, 0), some (.aload_n 0, 0, 0, 0), some (.getfield 13, 9, 3, 0)],
  [none, none, some (.bipush 8, 0, 0, 8), none, some (.iload_n 1, 0, 0, 0), some (.imul, 0, 0, 0), some (.iload_n 2, 0, 0, 0), some (.iadd, 0, 0, 0), some (.iaload, 0, 0, 0), some (.istore 4, 0, 0, 0), none, some (.aload_n 0, 0, 0, 0), some (.getfield 13, 9, 3, 0), none, none, some (.bipush 8, 0, 0, 8)],
  [none, some (.iload_n 1, 0, 0, 0), some (.imul, 0, 0, 0), some (.iload_n 2, 0, 0, 0), some (.iadd, 0, 0, 0), some (.iload_n 3, 0, 0, 0), some (.iastore, 0, 0, 0), some (.iload 4, 0, 0, 0), none, some (.ireturn, 0, 0, 0)]]
def mp_94 : List (List (Option mE)) := [
  [some (.aload_n 0, 0, 0, 0), some (.iconst 0, 0, 0, 0), some (.putfield 51, 9, 0, 0), none, none, some (.aload_n 0, 0, 0, 0), some (.iload_n 1, 0, 0, 0), some (.invokevirtual 64, 89, 0, 0), none, none, some (.ifCond .ne 11, 21, 0, 0), none, none, some (.aload_n 0, 0, 0, 0), some (.iload_n 2, 0, 0, 0), some (.invokevirtual 64, 89, 0, 0)],
  [none, none, some (.ifCond .eq 7, 25, 0, 0), none, none, some (.iconst (-1), 0, 0, (-1)), some (.goto 14, 36, 0, 0), none, none, some (.aload_n 0, 0, 0, 0), some (.getfield 13, 9, 3, 0), none, none, some (.bipush 8, 0, 0, 8), none, some (.iload_n 1, 0, 0, 0)],
  [some (.imul, 0, 0, 0), some (.iload_n 2, 0, 0, 0), some (.iadd, 0, 0, 0), some (.iaload, 0, 0, 0), some (.ireturn, 0, 0, 0)]]
def mp_95 : List (List (Option mE)) := [
  [some (.iconst 0, 0, 0, 0), some (.istore_n 1, 0, 0, 0), some (.iload_n 1, 0, 0, 0), some (.bipush 64, 0, 0, 64), none, some (.if_icmp .ge 29, 34, 0, 0), none, none, some (.aload_n 0, 0, 0, 0), some (.getfield 25, 9, 7, 0), none, none, some (.iload_n 1, 0, 0, 0), some (.aload_n 0, 0, 0, 0), some (.getfield 13, 9, 3, 0), none],
  [none, some (.iload_n 1, 0, 0, 0), some (.iaload, 0, 0, 0), some (.ifCond .le 7, 26, 0, 0), none, none, some (.iconst 1, 0, 0, 1), some (.goto 4, 27, 0, 0), none, none, some (.iconst 0, 0, 0, 0), some (.bastore, 0, 0, 0), some (.iinc 1 1, 0, 0, 0), none, none, some (.goto (-29), 2, 0, 0)],
  [none, none, some (.iconst 0, 0, 0, 0), some (.istore_n 1, 0, 0, 0), some (.iload_n 1, 0, 0, 0), some (.bipush 8, 0, 0, 8), none, some (.if_icmp .ge 95, 134, 0, 0), none, none, some (.iconst 0, 0, 0, 0), some (.istore_n 2, 0, 0, 0), some (.iload_n 2, 0, 0, 0), some (.bipush 8, 0, 0, 8), none, some (.if_icmp .ge 81, 128, 0, 0)],
  [none, none, some (.iconst 0, 0, 0, 0), some (.istore_n 3, 0, 0, 0), some (.iload_n 3, 0, 0, 0), some (.bipush 8, 0, 0, 8), none, some (.if_icmp .ge 67, 122, 0, 0), none, none, some (.aload_n 0, 0, 0, 0), some (.getfield 25, 9, 7, 0), none, none, some (.bipush 8, 0, 0, 8), none],
  [some (.iload_n 2, 0, 0, 0), some (.imul, 0, 0, 0), some (.iload_n 3, 0, 0, 0), some (.iadd, 0, 0, 0), some (.aload_n 0, 0, 0, 0), some (.getfield 25, 9, 7, 0), none, none, some (.bipush 8, 0, 0, 8), none, some (.iload_n 2, 0, 0, 0), some (.imul, 0, 0, 0), some (.iload_n 3, 0, 0, 0), some (.iadd, 0, 0, 0), some (.baload, 0, 0, 0), some (.ifCond .ne 31, 110, 0, 0)],
  [none, none, some (.aload_n 0, 0, 0, 0), some (.getfield 25, 9, 7, 0), none, none, some (.bipush 8, 0, 0, 8), none, some (.iload_n 2, 0, 0, 0), some (.imul, 0, 0, 0), some (.iload_n 1, 0, 0, 0), some (.iadd, 0, 0, 0), some (.baload, 0, 0, 0), some (.ifCond .eq 21, 114, 0, 0), none, none],
  [some (.aload_n 0, 0, 0, 0), some (.getfield 25, 9, 7, 0), none, none, some (.bipush 8, 0, 0, 8), none, some (.iload_n 1, 0, 0, 0), some (.imul, 0, 0, 0), some (.iload_n 3, 0, 0, 0), some (.iadd, 0, 0, 0), some (.baload, 0, 0, 0), some (.ifCond .eq 7, 114, 0, 0), none, none, some (.iconst 1, 0, 0, 1), some (.goto 4, 115, 0, 0)],
  [none, none, some (.iconst 0, 0, 0, 0), some (.bastore, 0, 0, 0), some (.iinc 3 1, 0, 0, 0), none, none, some (.goto (-67), 52, 0, 0), none, none, some (.iinc 2 1, 0, 0, 0), none, none, some (.goto (-81), 44, 0, 0), none, none],
  [some (.iinc 1 1, 0, 0, 0), none, none, some (.goto (-95), 36, 0, 0), none, none, some (.return_, 0, 0, 0)]]
def mp_96 : List (List (Option mE)) := [
  [some (.aload_n 0, 0, 0, 0), some (.iconst 0, 0, 0, 0), some (.putfield 51, 9, 0, 0), none, none, some (.aload_n 0, 0, 0, 0), some (.iload_n 1, 0, 0, 0), some (.invokevirtual 64, 89, 0, 0), none, none, some (.ifCond .ne 11, 21, 0, 0), none, none, some (.aload_n 0, 0, 0, 0), some (.iload_n 2, 0, 0, 0), some (.invokevirtual 64, 89, 0, 0)],
  [none, none, some (.ifCond .eq 5, 23, 0, 0), none, none, some (.iconst (-1), 0, 0, (-1)), some (.ireturn, 0, 0, 0), some (.aload_n 0, 0, 0, 0), some (.invokevirtual 70, 95, 0, 0), none, none, some (.aload_n 0, 0, 0, 0), some (.getfield 25, 9, 7, 0), none, none, some (.bipush 8, 0, 0, 8)],
  [none, some (.iload_n 1, 0, 0, 0), some (.imul, 0, 0, 0), some (.iload_n 2, 0, 0, 0), some (.iadd, 0, 0, 0), some (.baload, 0, 0, 0), some (.ifCond .eq 7, 45, 0, 0), none, none, some (.iconst 1, 0, 0, 1), some (.goto 4, 46, 0, 0), none, none, some (.iconst 0, 0, 0, 0), some (.ireturn, 0, 0, 0)]]
def mp_97 : List (List (Option mE)) := [
  [some (.iload_n 1, 0, 0, 0), some (.iload_n 2, 0, 0, 0), some (.if_icmp .eq 31, 33, 0, 0), none, none, some (.aload_n 0, 0, 0, 0), some (.getfield 25, 9, 7, 0), none, none, some (.bipush 8, 0, 0, 8), none, some (.iload_n 1, 0, 0, 0), some (.imul, 0, 0, 0), some (.iload_n 2, 0, 0, 0), some (.iadd, 0, 0, 0), some (.baload, 0, 0, 0)],
  [some (.ifCond .eq 21, 37, 0, 0), none, none, some (.aload_n 0, 0, 0, 0), some (.getfield 25, 9, 7, 0), none, none, some (.bipush 8, 0, 0, 8), none, some (.iload_n 2, 0, 0, 0), some (.imul, 0, 0, 0), some (.iload_n 1, 0, 0, 0), some (.iadd, 0, 0, 0), some (.baload, 0, 0, 0), some (.ifCond .eq 7, 37, 0, 0), none],
  [none, some (.iconst 1, 0, 0, 1), some (.goto 4, 38, 0, 0), none, none, some (.iconst 0, 0, 0, 0), some (.ireturn, 1, 0, 0)]]
def mp_98 : List (List (Option mE)) := [
  [some (.iconst 1, 0, 0, 1), some (.istore_n 2, 0, 0, 0), some (.iconst 0, 0, 0, 0), some (.istore_n 3, 0, 0, 0), some (.iload_n 3, 0, 0, 0), some (.aload_n 0, 0, 0, 0), some (.getfield 55, 9, 1, 0), none, none, some (.if_icmp .ge 83, 92, 0, 0), none, none, some (.iconst 0, 0, 0, 0), some (.istore 4, 0, 0, 0), none, some (.iload 4, 0, 0, 0)],
  [none, some (.aload_n 0, 0, 0, 0), some (.getfield 55, 9, 1, 0), none, none, some (.if_icmp .ge 65, 86, 0, 0), none, none, some (.iload_n 2, 0, 0, 0), some (.ifCond .eq 53, 78, 0, 0), none, none, some (.aload_n 0, 0, 0, 0), some (.iload_n 1, 0, 0, 0), some (.iload_n 3, 0, 0, 0), some (.invokevirtual 73, 97, 0, 0)],
  [none, none, some (.ifCond .eq 40, 74, 0, 0), none, none, some (.aload_n 0, 0, 0, 0), some (.iload_n 1, 0, 0, 0), some (.iload 4, 0, 0, 0), none, some (.invokevirtual 73, 97, 0, 0), none, none, some (.ifCond .ne 30, 74, 0, 0), none, none, some (.aload_n 0, 0, 0, 0)],
  [some (.getfield 29, 9, 8, 0), none, none, some (.iload 4, 0, 0, 0), none, some (.iaload, 0, 0, 0), some (.bipush (-9), 0, 0, (-9)), none, some (.if_icmp .ne 18, 74, 0, 0), none, none, some (.aload_n 0, 0, 0, 0), some (.getfield 13, 9, 3, 0), none, none, some (.bipush 8, 0, 0, 8)],
  [none, some (.iload_n 3, 0, 0, 0), some (.imul, 0, 0, 0), some (.iload 4, 0, 0, 0), none, some (.iadd, 0, 0, 0), some (.iaload, 0, 0, 0), some (.ifCond .gt 7, 78, 0, 0), none, none, some (.iconst 1, 0, 0, 1), some (.goto 4, 79, 0, 0), none, none, some (.iconst 0, 0, 0, 0), some (.istore_n 2, 0, 0, 0)],
  [some (.iinc 4 1, 0, 0, 0), none, none, some (.goto (-68), 15, 0, 0), none, none, some (.iinc 3 1, 0, 0, 0), none, none, some (.goto (-85), 4, 0, 0), none, none, some (.iload_n 2, 0, 0, 0), some (.ireturn, 1, 0, 0)]]
def mp_99 : List (List (Option mE)) := [
  [some (.aload_n 0, 0, 0, 0), some (.invokevirtual 70, 95, 0, 0), none, none, some (.iconst 0, 0, 0, 0), some (.istore_n 1, 0, 0, 0), some (.iload_n 1, 0, 0, 0), some (.bipush 8, 0, 0, 8), none, some (.if_icmp .ge 17, 26, 0, 0), none, none, some (.aload_n 0, 0, 0, 0), some (.getfield 29, 9, 8, 0), none, none],
  [some (.iload_n 1, 0, 0, 0), some (.bipush (-9), 0, 0, (-9)), none, some (.iastore, 0, 0, 0), some (.iinc 1 1, 0, 0, 0), none, none, some (.goto (-17), 6, 0, 0), none, none, some (.iconst 0, 0, 0, 0), some (.istore_n 1, 0, 0, 0), some (.iconst 0, 0, 0, 0), some (.istore_n 2, 0, 0, 0), some (.iload_n 2, 0, 0, 0), some (.aload_n 0, 0, 0, 0)],
  [some (.getfield 55, 9, 1, 0), none, none, some (.if_icmp .ge 114, 149, 0, 0), none, none, some (.bipush (-9), 0, 0, (-9)), none, some (.istore_n 3, 0, 0, 0), some (.aload_n 0, 0, 0, 0), some (.getfield 55, 9, 1, 0), none, none, some (.iconst 1, 0, 0, 1), some (.isub, 0, 0, 0), some (.istore 4, 0, 0, 0)],
  [none, some (.iload 4, 0, 0, 0), none, some (.ifCond .lt 37, 88, 0, 0), none, none, some (.aload_n 0, 0, 0, 0), some (.getfield 29, 9, 8, 0), none, none, some (.iload 4, 0, 0, 0), none, some (.iaload, 0, 0, 0), some (.bipush (-9), 0, 0, (-9)), none, some (.if_icmp .ne 17, 80, 0, 0)],
  [none, none, some (.aload_n 0, 0, 0, 0), some (.iload 4, 0, 0, 0), none, some (.invokevirtual 77, 98, 0, 0), none, none, some (.ifCond .eq 8, 80, 0, 0), none, none, some (.iload 4, 0, 0, 0), none, some (.goto 4, 81, 0, 0), none, none],
  [some (.iload_n 3, 0, 0, 0), some (.istore_n 3, 0, 0, 0), some (.iinc 4 (-1), 0, 0, 0), none, none, some (.goto (-36), 49, 0, 0), none, none, some (.iload_n 3, 0, 0, 0), some (.bipush (-9), 0, 0, (-9)), none, some (.if_icmp .eq 52, 143, 0, 0), none, none, some (.iconst 0, 0, 0, 0), some (.istore 4, 0, 0, 0)],
  [none, some (.iload 4, 0, 0, 0), none, some (.aload_n 0, 0, 0, 0), some (.getfield 55, 9, 1, 0), none, none, some (.if_icmp .ge 37, 140, 0, 0), none, none, some (.aload_n 0, 0, 0, 0), some (.getfield 29, 9, 8, 0), none, none, some (.iload 4, 0, 0, 0), none],
  [some (.aload_n 0, 0, 0, 0), some (.iload_n 3, 0, 0, 0), some (.iload 4, 0, 0, 0), none, some (.invokevirtual 73, 97, 0, 0), none, none, some (.ifCond .eq 7, 126, 0, 0), none, none, some (.iload_n 1, 0, 0, 0), some (.goto 10, 133, 0, 0), none, none, some (.aload_n 0, 0, 0, 0), some (.getfield 29, 9, 8, 0)],
  [none, none, some (.iload 4, 0, 0, 0), none, some (.iaload, 0, 0, 0), some (.iastore, 0, 0, 0), some (.iinc 4 1, 0, 0, 0), none, none, some (.goto (-40), 97, 0, 0), none, none, some (.iinc 1 1, 0, 0, 0), none, none, some (.iinc 2 1, 0, 0, 0)],
  [none, none, some (.goto (-116), 30, 0, 0), none, none, some (.iload_n 1, 0, 0, 0), some (.ireturn, 0, 0, 0)]]
def mp_100 : List (List (Option mE)) := [
  [some (.aload_n 0, 0, 0, 0), some (.iconst 0, 0, 0, 0), some (.putfield 51, 9, 0, 0), none, none, some (.aload_n 0, 0, 0, 0), some (.invokevirtual 80, 99, 0, 0), none, none, some (.ireturn, 0, 0, 0)]]
def mp_101 : List (List (Option mE)) := [
  [some (.aload_n 0, 0, 0, 0), some (.iconst 0, 0, 0, 0), some (.putfield 51, 9, 0, 0), none, none, some (.aload_n 0, 0, 0, 0), some (.iload_n 1, 0, 0, 0), some (.invokevirtual 64, 89, 0, 0), none, none, some (.ifCond .eq 5, 15, 0, 0), none, none, some (.iconst (-1), 0, 0, (-1)), some (.ireturn, 0, 0, 0), some (.aload_n 0, 0, 0, 0)],
  [some (.invokevirtual 80, 99, 0, 0), none, none, some (.pop, 0, 0, 0), some (.aload_n 0, 0, 0, 0), some (.getfield 29, 9, 8, 0), none, none, some (.iload_n 1, 0, 0, 0), some (.iaload, 0, 0, 0), some (.ireturn, 0, 0, 0)]]
def mp_102 : List (List (Option mE)) := [
  [some (.iconst 0, 0, 0, 0), some (.istore_n 3, 0, 0, 0), some (.iconst 0, 0, 0, 0), some (.istore 4, 0, 0, 0), none, some (.iload 4, 0, 0, 0), none, some (.aload_n 0, 0, 0, 0), some (.getfield 55, 9, 1, 0), none, none, some (.if_icmp .ge 43, 54, 0, 0), none, none, some (.iload_n 3, 0, 0, 0), some (.iload_n 2, 0, 0, 0)],
  [some (.iload 4, 0, 0, 0), none, some (.ishr, 0, 0, 0), some (.iconst 1, 0, 0, 1), some (.iand, 0, 0, 0), some (.ifCond .ne 24, 45, 0, 0), none, none, some (.iload 4, 0, 0, 0), none, some (.iload_n 1, 0, 0, 0), some (.if_icmp .eq 18, 45, 0, 0), none, none, some (.aload_n 0, 0, 0, 0), some (.getfield 13, 9, 3, 0)],
  [none, none, some (.bipush 8, 0, 0, 8), none, some (.iload_n 1, 0, 0, 0), some (.imul, 0, 0, 0), some (.iload 4, 0, 0, 0), none, some (.iadd, 0, 0, 0), some (.iaload, 0, 0, 0), some (.goto 4, 46, 0, 0), none, none, some (.iconst 0, 0, 0, 0), some (.iadd, 0, 0, 0), some (.istore_n 3, 0, 0, 0)],
  [some (.iinc 4 1, 0, 0, 0), none, none, some (.goto (-46), 5, 0, 0), none, none, some (.iload_n 3, 0, 0, 0), some (.ireturn, 0, 0, 0)]]
def mp_103 : List (List (Option mE)) := [
  [some (.iconst 1, 0, 0, 1), some (.aload_n 0, 0, 0, 0), some (.getfield 55, 9, 1, 0), none, none, some (.ishl, 0, 0, 0), some (.iconst 1, 0, 0, 1), some (.isub, 0, 0, 0), some (.istore_n 1, 0, 0, 0), some (.iload_n 1, 0, 0, 0), some (.istore_n 2, 0, 0, 0), some (.iload_n 2, 0, 0, 0), some (.ifCond .lt 108, 120, 0, 0), none, none, some (.aload_n 0, 0, 0, 0)],
  [some (.getfield 22, 9, 6, 0), none, none, some (.iload_n 2, 0, 0, 0), some (.iload_n 2, 0, 0, 0), some (.iload_n 1, 0, 0, 0), some (.if_icmp .ne 7, 29, 0, 0), none, none, some (.iconst 0, 0, 0, 0), some (.goto 5, 31, 0, 0), none, none, some (.bipush (-9), 0, 0, (-9)), none, some (.iastore, 0, 0, 0)],
  [some (.iconst 0, 0, 0, 0), some (.istore_n 3, 0, 0, 0), some (.iload_n 3, 0, 0, 0), some (.aload_n 0, 0, 0, 0), some (.getfield 55, 9, 1, 0), none, none, some (.if_icmp .ge 75, 114, 0, 0), none, none, some (.iload_n 2, 0, 0, 0), some (.iload_n 3, 0, 0, 0), some (.ishr, 0, 0, 0), some (.iconst 1, 0, 0, 1), some (.iand, 0, 0, 0), some (.ifCond .ne 61, 108, 0, 0)],
  [none, none, some (.aload_n 0, 0, 0, 0), some (.iload_n 3, 0, 0, 0), some (.iload_n 2, 0, 0, 0), some (.invokevirtual 84, 102, 0, 0), none, none, some (.aload_n 0, 0, 0, 0), some (.getfield 22, 9, 6, 0), none, none, some (.iload_n 2, 0, 0, 0), some (.iconst 1, 0, 0, 1), some (.iload_n 3, 0, 0, 0), some (.ishl, 0, 0, 0)],
  [some (.ior, 0, 0, 0), some (.iaload, 0, 0, 0), some (.iadd, 0, 0, 0), some (.istore 4, 0, 0, 0), none, some (.aload_n 0, 0, 0, 0), some (.getfield 22, 9, 6, 0), none, none, some (.iload_n 2, 0, 0, 0), some (.aload_n 0, 0, 0, 0), some (.getfield 22, 9, 6, 0), none, none, some (.iload_n 2, 0, 0, 0), some (.iaload, 0, 0, 0)],
  [some (.bipush (-9), 0, 0, (-9)), none, some (.if_icmp .eq 14, 96, 0, 0), none, none, some (.iload 4, 0, 0, 0), none, some (.aload_n 0, 0, 0, 0), some (.getfield 22, 9, 6, 0), none, none, some (.iload_n 2, 0, 0, 0), some (.iaload, 0, 0, 0), some (.if_icmp .ge 8, 101, 0, 0), none, none],
  [some (.iload 4, 0, 0, 0), none, some (.goto 9, 107, 0, 0), none, none, some (.aload_n 0, 0, 0, 0), some (.getfield 22, 9, 6, 0), none, none, some (.iload_n 2, 0, 0, 0), some (.iaload, 0, 0, 0), some (.iastore, 0, 0, 0), some (.iinc 3 1, 0, 0, 0), none, none, some (.goto (-77), 34, 0, 0)],
  [none, none, some (.iinc 2 (-1), 0, 0, 0), none, none, some (.goto (-106), 11, 0, 0), none, none, some (.aload_n 0, 0, 0, 0), some (.getfield 22, 9, 6, 0), none, none, some (.iconst 0, 0, 0, 0), some (.iaload, 0, 0, 0), some (.ireturn, 0, 0, 0)]]
def mp_104 : List (List (Option mE)) := [
  [some (.aload_n 0, 0, 0, 0), some (.invokevirtual 88, 103, 0, 0), none, none, some (.pop, 0, 0, 0), some (.iconst 0, 0, 0, 0), some (.istore_n 1, 0, 0, 0), some (.iconst 0, 0, 0, 0), some (.istore_n 2, 0, 0, 0), some (.iload_n 2, 0, 0, 0), some (.aload_n 0, 0, 0, 0), some (.getfield 55, 9, 1, 0), none, none, some (.if_icmp .ge 88, 102, 0, 0), none],
  [none, some (.bipush (-9), 0, 0, (-9)), none, some (.istore_n 3, 0, 0, 0), some (.aload_n 0, 0, 0, 0), some (.getfield 55, 9, 1, 0), none, none, some (.iconst 1, 0, 0, 1), some (.isub, 0, 0, 0), some (.istore 4, 0, 0, 0), none, some (.iload 4, 0, 0, 0), none, some (.ifCond .lt 53, 83, 0, 0), none],
  [none, some (.iload_n 1, 0, 0, 0), some (.iload 4, 0, 0, 0), none, some (.ishr, 0, 0, 0), some (.iconst 1, 0, 0, 1), some (.iand, 0, 0, 0), some (.ifCond .ne 36, 75, 0, 0), none, none, some (.aload_n 0, 0, 0, 0), some (.iload 4, 0, 0, 0), none, some (.iload_n 1, 0, 0, 0), some (.invokevirtual 84, 102, 0, 0), none],
  [none, some (.aload_n 0, 0, 0, 0), some (.getfield 22, 9, 6, 0), none, none, some (.iload_n 1, 0, 0, 0), some (.iconst 1, 0, 0, 1), some (.iload 4, 0, 0, 0), none, some (.ishl, 0, 0, 0), some (.ior, 0, 0, 0), some (.iaload, 0, 0, 0), some (.iadd, 0, 0, 0), some (.aload_n 0, 0, 0, 0), some (.getfield 22, 9, 6, 0), none],
  [none, some (.iload_n 1, 0, 0, 0), some (.iaload, 0, 0, 0), some (.if_icmp .ne 8, 75, 0, 0), none, none, some (.iload 4, 0, 0, 0), none, some (.goto 4, 76, 0, 0), none, none, some (.iload_n 3, 0, 0, 0), some (.istore_n 3, 0, 0, 0), some (.iinc 4 (-1), 0, 0, 0), none, none],
  [some (.goto (-52), 28, 0, 0), none, none, some (.aload_n 0, 0, 0, 0), some (.getfield 42, 9, 12, 0), none, none, some (.iload_n 2, 0, 0, 0), some (.iload_n 3, 0, 0, 0), some (.iastore, 0, 0, 0), some (.iload_n 1, 0, 0, 0), some (.iconst 1, 0, 0, 1), some (.iload_n 3, 0, 0, 0), some (.ishl, 0, 0, 0), some (.ior, 0, 0, 0), some (.istore_n 1, 0, 0, 0)],
  [some (.iinc 2 1, 0, 0, 0), none, none, some (.goto (-90), 9, 0, 0), none, none, some (.return_, 0, 0, 0)]]
def mp_105 : List (List (Option mE)) := [
  [some (.aload_n 0, 0, 0, 0), some (.iconst 0, 0, 0, 0), some (.putfield 51, 9, 0, 0), none, none, some (.aload_n 0, 0, 0, 0), some (.invokevirtual 88, 103, 0, 0), none, none, some (.ireturn, 0, 0, 0)]]
def mp_106 : List (List (Option mE)) := [
  [some (.aload_n 0, 0, 0, 0), some (.iconst 0, 0, 0, 0), some (.putfield 51, 9, 0, 0), none, none, some (.iload_n 1, 0, 0, 0), some (.i2l, 0, 0, 0), some (.lconst 0, 0, 0, 0), some (.aload_n 0, 0, 0, 0), some (.getfield 55, 9, 1, 0), none, none, some (.iconst 1, 0, 0, 1), some (.isub, 0, 0, 0), some (.i2l, 0, 0, 0), some (.invokestatic 58, 88, 0, 0)],
  [none, none, some (.ifCond .ne 6, 24, 0, 0), none, none, some (.bipush (-9), 0, 0, (-9)), none, some (.ireturn, 0, 0, 0), some (.aload_n 0, 0, 0, 0), some (.invokevirtual 91, 104, 0, 0), none, none, some (.aload_n 0, 0, 0, 0), some (.getfield 42, 9, 12, 0), none, none],
  [some (.iload_n 1, 0, 0, 0), some (.iaload, 0, 0, 0), some (.ireturn, 0, 0, 0)]]
def mp_107 : List (List (Option mE)) := [
  [some (.aload_n 0, 0, 0, 0), some (.iconst 0, 0, 0, 0), some (.putfield 51, 9, 0, 0), none, none, some (.aload_n 0, 0, 0, 0), some (.iload_n 1, 0, 0, 0), some (.invokevirtual 64, 89, 0, 0), none, none, some (.ifCond .ne 11, 21, 0, 0), none, none, some (.aload_n 0, 0, 0, 0), some (.iload_n 2, 0, 0, 0), some (.invokevirtual 64, 89, 0, 0)],
  [none, none, some (.ifCond .eq 5, 23, 0, 0), none, none, some (.iconst (-1), 0, 0, (-1)), some (.ireturn, 0, 0, 0), some (.aload_n 0, 0, 0, 0), some (.invokevirtual 88, 103, 0, 0), none, none, some (.istore_n 3, 0, 0, 0), some (.aload_n 0, 0, 0, 0), some (.getfield 13, 9, 3, 0), none, none],
  [some (.bipush 8, 0, 0, 8), none, some (.iload_n 1, 0, 0, 0), some (.imul, 0, 0, 0), some (.iload_n 2, 0, 0, 0), some (.iadd, 0, 0, 0), some (.iaload, 0, 0, 0), some (.istore 4, 0, 0, 0), none, some (.aload_n 0, 0, 0, 0), some (.getfield 13, 9, 3, 0), none, none, some (.bipush 8, 0, 0, 8), none, some (.iload_n 1, 0, 0, 0)],
  [some (.imul, 0, 0, 0), some (.iload_n 2, 0, 0, 0), some (.iadd, 0, 0, 0), some (.iconst 0, 0, 0, 0), some (.iastore, 0, 0, 0), some (.aload_n 0, 0, 0, 0), some (.invokevirtual 88, 103, 0, 0), none, none, some (.istore 5, 0, 0, 0), none, some (.aload_n 0, 0, 0, 0), some (.getfield 13, 9, 3, 0), none, none, some (.bipush 8, 0, 0, 8)],
  [none, some (.iload_n 1, 0, 0, 0), some (.imul, 0, 0, 0), some (.iload_n 2, 0, 0, 0), some (.iadd, 0, 0, 0), some (.iload 4, 0, 0, 0), none, some (.iastore, 0, 0, 0), some (.iload_n 3, 0, 0, 0), some (.iload 5, 0, 0, 0), none, some (.isub, 0, 0, 0), some (.ireturn, 0, 0, 0)]]
def mp_108 : List (List (Option mE)) := [
  [some (.aload_n 0, 0, 0, 0), some (.iconst 0, 0, 0, 0), some (.putfield 51, 9, 0, 0), none, none, some (.iload_n 1, 0, 0, 0), some (.i2l, 0, 0, 0), some (.lconst 0, 0, 0, 0), some (.aload_n 0, 0, 0, 0), some (.getfield 55, 9, 1, 0), none, none, some (.iconst 1, 0, 0, 1), some (.isub, 0, 0, 0), some (.i2l, 0, 0, 0), some (.invokestatic 58, 88, 0, 0)],
  [none, none, some (.ifCond .eq 12, 30, 0, 0), none, none, some (.aload_n 0, 0, 0, 0), some (.getfield 19, 9, 5, 0), none, none, some (.iload_n 1, 0, 0, 0), some (.iaload, 0, 0, 0), some (.goto 5, 32, 0, 0), none, none, some (.bipush (-9), 0, 0, (-9)), none],
  [some (.ireturn, 0, 0, 0)]]
def mp_109 : List (List (Option mE)) := [
  [some (.iconst 0, 0, 0, 0), some (.istore_n 1, 0, 0, 0), some (.iconst 0, 0, 0, 0), some (.istore_n 2, 0, 0, 0), some (.iconst 0, 0, 0, 0), some (.istore_n 3, 0, 0, 0), some (.iload_n 3, 0, 0, 0), some (.aload_n 0, 0, 0, 0), some (.getfield 55, 9, 1, 0), none, none, some (.if_icmp .ge 34, 45, 0, 0), none, none, some (.iload_n 1, 0, 0, 0), some (.aload_n 0, 0, 0, 0)],
  [some (.aload_n 0, 0, 0, 0), some (.getfield 19, 9, 5, 0), none, none, some (.iload_n 3, 0, 0, 0), some (.iaload, 0, 0, 0), some (.iload_n 2, 0, 0, 0), some (.invokevirtual 84, 102, 0, 0), none, none, some (.iadd, 0, 0, 0), some (.istore_n 1, 0, 0, 0), some (.iload_n 2, 0, 0, 0), some (.iconst 1, 0, 0, 1), some (.aload_n 0, 0, 0, 0), some (.getfield 19, 9, 5, 0)],
  [none, none, some (.iload_n 3, 0, 0, 0), some (.iaload, 0, 0, 0), some (.ishl, 0, 0, 0), some (.ior, 0, 0, 0), some (.istore_n 2, 0, 0, 0), some (.iinc 3 1, 0, 0, 0), none, none, some (.goto (-36), 6, 0, 0), none, none, some (.iload_n 1, 0, 0, 0), some (.ireturn, 0, 0, 0)]]
def mp_110 : List (List (Option mE)) := [
  [some (.aload_n 0, 0, 0, 0), some (.iconst 0, 0, 0, 0), some (.putfield 51, 9, 0, 0), none, none, some (.iload_n 1, 0, 0, 0), some (.i2l, 0, 0, 0), some (.lconst 0, 0, 0, 0), some (.aload_n 0, 0, 0, 0), some (.getfield 55, 9, 1, 0), none, none, some (.iconst 1, 0, 0, 1), some (.isub, 0, 0, 0), some (.i2l, 0, 0, 0), some (.invokestatic 58, 88, 0, 0)],
  [none, none, some (.ifCond .eq 19, 37, 0, 0), none, none, some (.iload_n 2, 0, 0, 0), some (.i2l, 0, 0, 0), some (.lconst 0, 0, 0, 0), some (.aload_n 0, 0, 0, 0), some (.getfield 55, 9, 1, 0), none, none, some (.iconst 1, 0, 0, 1), some (.isub, 0, 0, 0), some (.i2l, 0, 0, 0), some (.invokestatic 58, 88, 0, 0)],
  [none, none, some (.ifCond .ne 6, 40, 0, 0), none, none, some (.bipush (-2), 0, 0, (-2)), none, some (.ireturn, 0, 0, 0), some (.aload_n 0, 0, 0, 0), some (.getfield 19, 9, 5, 0), none, none, some (.iload_n 1, 0, 0, 0), some (.iaload, 0, 0, 0), some (.istore_n 3, 0, 0, 0), some (.aload_n 0, 0, 0, 0)],
  [some (.getfield 19, 9, 5, 0), none, none, some (.iload_n 1, 0, 0, 0), some (.aload_n 0, 0, 0, 0), some (.getfield 19, 9, 5, 0), none, none, some (.iload_n 2, 0, 0, 0), some (.iaload, 0, 0, 0), some (.iastore, 0, 0, 0), some (.aload_n 0, 0, 0, 0), some (.getfield 19, 9, 5, 0), none, none, some (.iload_n 2, 0, 0, 0)],
  [some (.iload_n 3, 0, 0, 0), some (.iastore, 0, 0, 0), some (.aload_n 0, 0, 0, 0), some (.invokevirtual 94, 109, 0, 0), none, none, some (.ireturn, 0, 0, 0)]]
def mp_111 : List (List (Option mE)) := [
  [some (.aload_n 0, 0, 0, 0), some (.iconst 0, 0, 0, 0), some (.putfield 51, 9, 0, 0), none, none, some (.aload_n 0, 0, 0, 0), some (.invokevirtual 91, 104, 0, 0), none, none, some (.iconst 0, 0, 0, 0), some (.istore_n 1, 0, 0, 0), some (.iload_n 1, 0, 0, 0), some (.aload_n 0, 0, 0, 0), some (.getfield 55, 9, 1, 0), none, none],
  [some (.if_icmp .ge 21, 37, 0, 0), none, none, some (.aload_n 0, 0, 0, 0), some (.getfield 19, 9, 5, 0), none, none, some (.iload_n 1, 0, 0, 0), some (.aload_n 0, 0, 0, 0), some (.getfield 42, 9, 12, 0), none, none, some (.iload_n 1, 0, 0, 0), some (.iaload, 0, 0, 0), some (.iastore, 0, 0, 0), some (.iinc 1 1, 0, 0, 0)],
  [none, none, some (.goto (-23), 11, 0, 0), none, none, some (.aload_n 0, 0, 0, 0), some (.invokevirtual 94, 109, 0, 0), none, none, some (.ireturn, 0, 0, 0)]]
def mp_112 : List (List (Option mE)) := [
  [some (.aload_n 0, 0, 0, 0), some (.iconst 0, 0, 0, 0), some (.putfield 51, 9, 0, 0), none, none, some (.aload_n 0, 0, 0, 0), some (.invokevirtual 94, 109, 0, 0), none, none, some (.ireturn, 0, 0, 0)]]
def mp_113 : List (List (Option mE)) := [
  [some (.iconst 0, 0, 0, 0), some (.istore_n 2, 0, 0, 0), some (.iconst 0, 0, 0, 0), some (.istore_n 3, 0, 0, 0), some (.iload_n 3, 0, 0, 0), some (.aload_n 0, 0, 0, 0), some (.getfield 55, 9, 1, 0), none, none, some (.if_icmp .ge 25, 34, 0, 0), none, none, some (.aload_n 0, 0, 0, 0), some (.getfield 19, 9, 5, 0), none, none],
  [some (.iload_n 3, 0, 0, 0), some (.iaload, 0, 0, 0), some (.iload_n 1, 0, 0, 0), some (.if_icmp .ne 7, 26, 0, 0), none, none, some (.iload_n 3, 0, 0, 0), some (.goto 4, 27, 0, 0), none, none, some (.iload_n 2, 0, 0, 0), some (.istore_n 2, 0, 0, 0), some (.iinc 3 1, 0, 0, 0), none, none, some (.goto (-27), 4, 0, 0)],
  [none, none, some (.iload_n 2, 0, 0, 0), some (.ireturn, 0, 0, 0)]]
def mp_114 : List (List (Option mE)) := [
  [some (.aload_n 0, 0, 0, 0), some (.iconst 0, 0, 0, 0), some (.putfield 51, 9, 0, 0), none, none, some (.aload_n 0, 0, 0, 0), some (.iload_n 1, 0, 0, 0), some (.invokevirtual 64, 89, 0, 0), none, none, some (.ifCond .ne 11, 21, 0, 0), none, none, some (.aload_n 0, 0, 0, 0), some (.iload_n 2, 0, 0, 0), some (.invokevirtual 64, 89, 0, 0)],
  [none, none, some (.ifCond .eq 7, 25, 0, 0), none, none, some (.iconst (-1), 0, 0, (-1)), some (.goto 35, 57, 0, 0), none, none, some (.aload_n 0, 0, 0, 0), some (.getfield 13, 9, 3, 0), none, none, some (.bipush 8, 0, 0, 8), none, some (.iload_n 1, 0, 0, 0)],
  [some (.imul, 0, 0, 0), some (.iload_n 2, 0, 0, 0), some (.iadd, 0, 0, 0), some (.iaload, 0, 0, 0), some (.ifCond .le 20, 56, 0, 0), none, none, some (.aload_n 0, 0, 0, 0), some (.iload_n 2, 0, 0, 0), some (.invokevirtual 97, 113, 0, 0), none, none, some (.aload_n 0, 0, 0, 0), some (.iload_n 1, 0, 0, 0), some (.invokevirtual 97, 113, 0, 0), none],
  [none, some (.if_icmp .le 7, 56, 0, 0), none, none, some (.iconst 1, 0, 0, 1), some (.goto 4, 57, 0, 0), none, none, some (.iconst 0, 0, 0, 0), some (.ireturn, 0, 0, 0)]]
def mp_115 : List (List (Option mE)) := [
  [some (.aload_n 0, 0, 0, 0), some (.iconst 0, 0, 0, 0), some (.putfield 51, 9, 0, 0), none, none, some (.aload_n 0, 0, 0, 0), some (.iload_n 1, 0, 0, 0), some (.invokevirtual 64, 89, 0, 0), none, none, some (.ifCond .ne 11, 21, 0, 0), none, none, some (.aload_n 0, 0, 0, 0), some (.iload_n 2, 0, 0, 0), some (.invokevirtual 64, 89, 0, 0)],
  [none, none, some (.ifCond .eq 5, 23, 0, 0), none, none, some (.iconst (-1), 0, 0, (-1)), some (.ireturn, 0, 0, 0), some (.iload_n 3, 0, 0, 0), some (.i2l, 0, 0, 0), some (.lconst 0, 0, 0, 0), some (.ldc2_w 101, 0, 0, 8), none, none, some (.invokestatic 58, 88, 0, 0), none, none],
  [some (.ifCond .ne 6, 38, 0, 0), none, none, some (.bipush (-2), 0, 0, (-2)), none, some (.ireturn, 0, 0, 0), some (.iload_n 3, 0, 0, 0), some (.istore 4, 0, 0, 0), none, some (.iconst 0, 0, 0, 0), some (.istore 5, 0, 0, 0), none, some (.iload 5, 0, 0, 0), none, some (.bipush 8, 0, 0, 8), none],
  [some (.if_icmp .ge 36, 84, 0, 0), none, none, some (.iload 4, 0, 0, 0), none, some (.iload 5, 0, 0, 0), none, some (.iload_n 2, 0, 0, 0), some (.if_icmp .ne 7, 63, 0, 0), none, none, some (.iconst 0, 0, 0, 0), some (.goto 15, 75, 0, 0), none, none, some (.aload_n 0, 0, 0, 0)],
  [some (.getfield 16, 9, 4, 0), none, none, some (.bipush 8, 0, 0, 8), none, some (.iload_n 1, 0, 0, 0), some (.imul, 0, 0, 0), some (.iload 5, 0, 0, 0), none, some (.iadd, 0, 0, 0), some (.iaload, 0, 0, 0), some (.iadd, 0, 0, 0), some (.istore 4, 0, 0, 0), none, some (.iinc 5 1, 0, 0, 0), none],
  [none, some (.goto (-37), 44, 0, 0), none, none, some (.iload_n 1, 0, 0, 0), some (.iload_n 2, 0, 0, 0), some (.if_icmp .eq 10, 96, 0, 0), none, none, some (.iload 4, 0, 0, 0), none, some (.bipush 8, 0, 0, 8), none, some (.if_icmp .le 6, 99, 0, 0), none, none],
  [some (.bipush (-3), 0, 0, (-3)), none, some (.ireturn, 0, 0, 0), some (.aload_n 0, 0, 0, 0), some (.getfield 16, 9, 4, 0), none, none, some (.bipush 8, 0, 0, 8), none, some (.iload_n 1, 0, 0, 0), some (.imul, 0, 0, 0), some (.iload_n 2, 0, 0, 0), some (.iadd, 0, 0, 0), some (.iaload, 0, 0, 0), some (.istore 5, 0, 0, 0), none],
  [some (.aload_n 0, 0, 0, 0), some (.getfield 16, 9, 4, 0), none, none, some (.bipush 8, 0, 0, 8), none, some (.iload_n 1, 0, 0, 0), some (.imul, 0, 0, 0), some (.iload_n 2, 0, 0, 0), some (.iadd, 0, 0, 0), some (.iload_n 3, 0, 0, 0), some (.iastore, 0, 0, 0), some (.iload 5, 0, 0, 0), none, some (.ireturn, 0, 0, 0)]]
def mp_116 : List (List (Option mE)) := [
  [some (.aload_n 0, 0, 0, 0), some (.getfield 36, 9, 10, 0), none, none, some (.iconst 0, 0, 0, 0), some (.lconst 1, 0, 0, 1), some (.lastore, 0, 0, 0), some (.iconst 0, 0, 0, 0), some (.istore_n 3, 0, 0, 0), some (.iload_n 3, 0, 0, 0), some (.aload_n 0, 0, 0, 0), some (.getfield 55, 9, 1, 0), none, none, some (.if_icmp .ge 181, 195, 0, 0), none],
  [none, some (.aload_n 0, 0, 0, 0), some (.getfield 19, 9, 5, 0), none, none, some (.iload_n 3, 0, 0, 0), some (.iaload, 0, 0, 0), some (.istore 4, 0, 0, 0), none, some (.iconst 0, 0, 0, 0), some (.istore 5, 0, 0, 0), none, some (.ldc2_w 103, 0, 0, 10), none, none, some (.iload_n 1, 0, 0, 0)],
  [some (.bipush (-9), 0, 0, (-9)), none, some (.if_icmp .ne 13, 47, 0, 0), none, none, some (.aload_n 0, 0, 0, 0), some (.getfield 7, 9, 2, 0), none, none, some (.iload 4, 0, 0, 0), none, some (.iaload, 0, 0, 0), some (.goto 14, 58, 0, 0), none, none, some (.iload_n 1, 0, 0, 0)],
  [some (.iload 4, 0, 0, 0), none, some (.if_icmp .ne 7, 57, 0, 0), none, none, some (.iconst 1, 0, 0, 1), some (.goto 4, 58, 0, 0), none, none, some (.iconst 0, 0, 0, 0), some (.i2l, 0, 0, 0), some (.lmul, 0, 0, 0), some (.aload_n 0, 0, 0, 0), some (.getfield 36, 9, 10, 0), none, none],
  [some (.iload_n 3, 0, 0, 0), some (.laload, 0, 0, 0), some (.lmul, 0, 0, 0), some (.lstore 6, 0, 0, 0), none, some (.iconst 0, 0, 0, 0), some (.istore 8, 0, 0, 0), none, some (.iload 8, 0, 0, 0), none, some (.iload_n 3, 0, 0, 0), some (.if_icmp .ge 85, 160, 0, 0), none, none, some (.aload_n 0, 0, 0, 0), some (.getfield 16, 9, 4, 0)],
  [none, none, some (.bipush 8, 0, 0, 8), none, some (.iload 4, 0, 0, 0), none, some (.imul, 0, 0, 0), some (.aload_n 0, 0, 0, 0), some (.getfield 19, 9, 5, 0), none, none, some (.iload 8, 0, 0, 0), none, some (.iaload, 0, 0, 0), some (.iadd, 0, 0, 0), some (.iaload, 0, 0, 0)],
  [some (.istore 9, 0, 0, 0), none, some (.iload 5, 0, 0, 0), none, some (.iload 9, 0, 0, 0), none, some (.iadd, 0, 0, 0), some (.istore 5, 0, 0, 0), none, some (.iload 8, 0, 0, 0), none, some (.istore 10, 0, 0, 0), none, some (.iload 10, 0, 0, 0), none, some (.iload_n 3, 0, 0, 0)],
  [some (.if_icmp .ge 42, 154, 0, 0), none, none, some (.lload 6, 0, 0, 0), none, some (.iload 9, 0, 0, 0), none, some (.i2l, 0, 0, 0), some (.aload_n 0, 0, 0, 0), some (.getfield 32, 9, 9, 0), none, none, some (.iload 10, 0, 0, 0), none, some (.laload, 0, 0, 0), some (.lmul, 0, 0, 0)],
  [some (.aload_n 0, 0, 0, 0), some (.getfield 36, 9, 10, 0), none, none, some (.iload_n 3, 0, 0, 0), some (.laload, 0, 0, 0), some (.aload_n 0, 0, 0, 0), some (.getfield 36, 9, 10, 0), none, none, some (.iload 10, 0, 0, 0), none, some (.iconst 1, 0, 0, 1), some (.iadd, 0, 0, 0), some (.laload, 0, 0, 0), some (.ldiv, 0, 0, 0)],
  [some (.lmul, 0, 0, 0), some (.ladd, 0, 0, 0), some (.lstore 6, 0, 0, 0), none, some (.iinc 10 1, 0, 0, 0), none, none, some (.goto (-42), 109, 0, 0), none, none, some (.iinc 8 1, 0, 0, 0), none, none, some (.goto (-85), 72, 0, 0), none, none],
  [some (.aload_n 0, 0, 0, 0), some (.getfield 32, 9, 9, 0), none, none, some (.iload_n 3, 0, 0, 0), some (.lload 6, 0, 0, 0), none, some (.lastore, 0, 0, 0), some (.aload_n 0, 0, 0, 0), some (.getfield 36, 9, 10, 0), none, none, some (.iload_n 3, 0, 0, 0), some (.iconst 1, 0, 0, 1), some (.iadd, 0, 0, 0), some (.aload_n 0, 0, 0, 0)],
  [some (.getfield 36, 9, 10, 0), none, none, some (.iload_n 3, 0, 0, 0), some (.laload, 0, 0, 0), some (.bipush 10, 0, 0, 10), none, some (.iload 5, 0, 0, 0), none, some (.isub, 0, 0, 0), some (.i2l, 0, 0, 0), some (.lmul, 0, 0, 0), some (.lastore, 0, 0, 0), some (.iinc 3 1, 0, 0, 0), none, none],
  [some (.goto (-183), 9, 0, 0), none, none, some (.lconst 0, 0, 0, 0), some (.lstore_n 3, 0, 0, 0), some (.iconst 0, 0, 0, 0), some (.istore 5, 0, 0, 0), none, some (.iload 5, 0, 0, 0), none, some (.aload_n 0, 0, 0, 0), some (.getfield 55, 9, 1, 0), none, none, some (.if_icmp .ge 39, 245, 0, 0), none],
  [none, some (.lload_n 3, 0, 0, 0), some (.aload_n 0, 0, 0, 0), some (.getfield 32, 9, 9, 0), none, none, some (.iload 5, 0, 0, 0), none, some (.laload, 0, 0, 0), some (.aload_n 0, 0, 0, 0), some (.getfield 36, 9, 10, 0), none, none, some (.aload_n 0, 0, 0, 0), some (.getfield 55, 9, 1, 0), none],
  [none, some (.laload, 0, 0, 0), some (.aload_n 0, 0, 0, 0), some (.getfield 36, 9, 10, 0), none, none, some (.iload 5, 0, 0, 0), none, some (.iconst 1, 0, 0, 1), some (.iadd, 0, 0, 0), some (.laload, 0, 0, 0), some (.ldiv, 0, 0, 0), some (.lmul, 0, 0, 0), some (.ladd, 0, 0, 0), some (.lstore_n 3, 0, 0, 0), some (.iinc 5 1, 0, 0, 0)],
  [none, none, some (.goto (-42), 200, 0, 0), none, none, some (.lload_n 3, 0, 0, 0), some (.aload_n 0, 0, 0, 0), some (.getfield 36, 9, 10, 0), none, none, some (.aload_n 0, 0, 0, 0), some (.getfield 55, 9, 1, 0), none, none, some (.laload, 0, 0, 0), some (.iload_n 2, 0, 0, 0)],
  [some (.invokestatic 105, 90, 0, 0), none, none, some (.lreturn, 0, 0, 0)]]
def mp_117 : List (List (Option mE)) := [
  [some (.aload_n 0, 0, 0, 0), some (.iconst 0, 0, 0, 0), some (.putfield 51, 9, 0, 0), none, none, some (.aload_n 0, 0, 0, 0), some (.bipush (-9), 0, 0, (-9)), none, some (.iload_n 1, 0, 0, 0), some (.invokevirtual 109, 116, 0, 0), none, none, some (.lreturn, 0, 0, 0)]]
def mp_118 : List (List (Option mE)) := [
  [some (.aload_n 0, 0, 0, 0), some (.iconst 0, 0, 0, 0), some (.putfield 51, 9, 0, 0), none, none, some (.aload_n 0, 0, 0, 0), some (.iload_n 1, 0, 0, 0), some (.invokevirtual 64, 89, 0, 0), none, none, some (.ifCond .eq 9, 19, 0, 0), none, none, some (.ldc2_w 113, 0, 0, (-1)), none, none],
  [some (.goto 9, 25, 0, 0), none, none, some (.aload_n 0, 0, 0, 0), some (.iload_n 1, 0, 0, 0), some (.iload_n 2, 0, 0, 0), some (.invokevirtual 109, 116, 0, 0), none, none, some (.lreturn, 0, 0, 0)]]
def mp_119 : List (List (Option mE)) := [
  [some (.iconst 0, 0, 0, 0), some (.istore_n 1, 0, 0, 0), some (.iconst 0, 0, 0, 0), some (.istore_n 2, 0, 0, 0), some (.iload_n 2, 0, 0, 0), some (.aload_n 0, 0, 0, 0), some (.getfield 55, 9, 1, 0), none, none, some (.if_icmp .ge 126, 135, 0, 0), none, none, some (.aload_n 0, 0, 0, 0), some (.getfield 19, 9, 5, 0), none, none],
  [some (.iload_n 2, 0, 0, 0), some (.iaload, 0, 0, 0), some (.istore_n 3, 0, 0, 0), some (.iconst 0, 0, 0, 0), some (.istore 4, 0, 0, 0), none, some (.iconst 0, 0, 0, 0), some (.istore 5, 0, 0, 0), none, some (.iload 5, 0, 0, 0), none, some (.iload_n 2, 0, 0, 0), some (.if_icmp .ge 65, 93, 0, 0), none, none, some (.aload_n 0, 0, 0, 0)],
  [some (.getfield 13, 9, 3, 0), none, none, some (.bipush 8, 0, 0, 8), none, some (.iload_n 3, 0, 0, 0), some (.imul, 0, 0, 0), some (.aload_n 0, 0, 0, 0), some (.getfield 19, 9, 5, 0), none, none, some (.iload 5, 0, 0, 0), none, some (.iaload, 0, 0, 0), some (.iadd, 0, 0, 0), some (.iaload, 0, 0, 0)],
  [some (.ifCond .le 35, 83, 0, 0), none, none, some (.aload_n 0, 0, 0, 0), some (.getfield 39, 9, 11, 0), none, none, some (.aload_n 0, 0, 0, 0), some (.getfield 19, 9, 5, 0), none, none, some (.iload 5, 0, 0, 0), none, some (.iaload, 0, 0, 0), some (.iaload, 0, 0, 0), some (.iload 4, 0, 0, 0)],
  [none, some (.if_icmp .le 18, 83, 0, 0), none, none, some (.aload_n 0, 0, 0, 0), some (.getfield 39, 9, 11, 0), none, none, some (.aload_n 0, 0, 0, 0), some (.getfield 19, 9, 5, 0), none, none, some (.iload 5, 0, 0, 0), none, some (.iaload, 0, 0, 0), some (.iaload, 0, 0, 0)],
  [some (.goto 5, 85, 0, 0), none, none, some (.iload 4, 0, 0, 0), none, some (.istore 4, 0, 0, 0), none, some (.iinc 5 1, 0, 0, 0), none, none, some (.goto (-65), 25, 0, 0), none, none, some (.aload_n 0, 0, 0, 0), some (.getfield 39, 9, 11, 0), none],
  [none, some (.iload_n 3, 0, 0, 0), some (.iload 4, 0, 0, 0), none, some (.aload_n 0, 0, 0, 0), some (.getfield 7, 9, 2, 0), none, none, some (.iload_n 3, 0, 0, 0), some (.iaload, 0, 0, 0), some (.iadd, 0, 0, 0), some (.iastore, 0, 0, 0), some (.aload_n 0, 0, 0, 0), some (.getfield 39, 9, 11, 0), none, none],
  [some (.iload_n 3, 0, 0, 0), some (.iaload, 0, 0, 0), some (.iload_n 1, 0, 0, 0), some (.if_icmp .le 12, 127, 0, 0), none, none, some (.aload_n 0, 0, 0, 0), some (.getfield 39, 9, 11, 0), none, none, some (.iload_n 3, 0, 0, 0), some (.iaload, 0, 0, 0), some (.goto 4, 128, 0, 0), none, none, some (.iload_n 1, 0, 0, 0)],
  [some (.istore_n 1, 0, 0, 0), some (.iinc 2 1, 0, 0, 0), none, none, some (.goto (-128), 4, 0, 0), none, none, some (.iload_n 1, 0, 0, 0), some (.ireturn, 0, 0, 0)]]
def mp_120 : List (List (Option mE)) := [
  [some (.aload_n 0, 0, 0, 0), some (.iconst 0, 0, 0, 0), some (.putfield 51, 9, 0, 0), none, none, some (.aload_n 0, 0, 0, 0), some (.iload_n 1, 0, 0, 0), some (.invokevirtual 64, 89, 0, 0), none, none, some (.ifCond .eq 5, 15, 0, 0), none, none, some (.iconst (-1), 0, 0, (-1)), some (.ireturn, 0, 0, 0), some (.aload_n 0, 0, 0, 0)],
  [some (.invokevirtual 115, 119, 0, 0), none, none, some (.pop, 0, 0, 0), some (.aload_n 0, 0, 0, 0), some (.getfield 39, 9, 11, 0), none, none, some (.iload_n 1, 0, 0, 0), some (.iaload, 0, 0, 0), some (.ireturn, 0, 0, 0)]]
def mp_121 : List (List (Option mE)) := [
  [some (.aload_n 0, 0, 0, 0), some (.iconst 0, 0, 0, 0), some (.putfield 51, 9, 0, 0), none, none, some (.aload_n 0, 0, 0, 0), some (.invokevirtual 115, 119, 0, 0), none, none, some (.ireturn, 0, 0, 0)]]
def mp_122 : List (List (Option mE)) := [
  [some (.iconst 0, 0, 0, 0), some (.istore_n 1, 0, 0, 0), some (.iconst 0, 0, 0, 0), some (.istore_n 2, 0, 0, 0), some (.iload_n 2, 0, 0, 0), some (.aload_n 0, 0, 0, 0), some (.getfield 55, 9, 1, 0), none, none, some (.if_icmp .ge 58, 67, 0, 0), none, none, some (.iconst 0, 0, 0, 0), some (.istore_n 3, 0, 0, 0), some (.iload_n 3, 0, 0, 0), some (.aload_n 0, 0, 0, 0)],
  [some (.getfield 55, 9, 1, 0), none, none, some (.if_icmp .ge 42, 61, 0, 0), none, none, some (.iload_n 1, 0, 0, 0), some (.aload_n 0, 0, 0, 0), some (.getfield 42, 9, 12, 0), none, none, some (.iload_n 2, 0, 0, 0), some (.iaload, 0, 0, 0), some (.aload_n 0, 0, 0, 0), some (.getfield 42, 9, 12, 0), none],
  [none, some (.iload_n 3, 0, 0, 0), some (.iaload, 0, 0, 0), some (.if_icmp .eq 17, 52, 0, 0), none, none, some (.aload_n 0, 0, 0, 0), some (.getfield 13, 9, 3, 0), none, none, some (.bipush 8, 0, 0, 8), none, some (.iload_n 2, 0, 0, 0), some (.imul, 0, 0, 0), some (.iload_n 3, 0, 0, 0), some (.iadd, 0, 0, 0)],
  [some (.iaload, 0, 0, 0), some (.goto 4, 53, 0, 0), none, none, some (.iconst 0, 0, 0, 0), some (.iadd, 0, 0, 0), some (.istore_n 1, 0, 0, 0), some (.iinc 3 1, 0, 0, 0), none, none, some (.goto (-44), 14, 0, 0), none, none, some (.iinc 2 1, 0, 0, 0), none, none],
  [some (.goto (-60), 4, 0, 0), none, none, some (.iload_n 1, 0, 0, 0), some (.ireturn, 0, 0, 0)]]
def mp_123 : List (List (Option mE)) := [
  [some (.iconst 0, 0, 0, 0), some (.istore_n 2, 0, 0, 0), some (.iconst 0, 0, 0, 0), some (.istore_n 3, 0, 0, 0), some (.iload_n 3, 0, 0, 0), some (.aload_n 0, 0, 0, 0), some (.getfield 55, 9, 1, 0), none, none, some (.if_icmp .ge 75, 84, 0, 0), none, none, some (.iconst 0, 0, 0, 0), some (.istore 4, 0, 0, 0), none, some (.iconst 0, 0, 0, 0)],
  [some (.istore 5, 0, 0, 0), none, some (.iload 5, 0, 0, 0), none, some (.aload_n 0, 0, 0, 0), some (.getfield 55, 9, 1, 0), none, none, some (.if_icmp .ge 30, 54, 0, 0), none, none, some (.iload 4, 0, 0, 0), none, some (.aload_n 0, 0, 0, 0), some (.getfield 42, 9, 12, 0), none],
  [none, some (.iload 5, 0, 0, 0), none, some (.iaload, 0, 0, 0), some (.iload_n 3, 0, 0, 0), some (.if_icmp .ne 7, 44, 0, 0), none, none, some (.iconst 1, 0, 0, 1), some (.goto 4, 45, 0, 0), none, none, some (.iconst 0, 0, 0, 0), some (.iadd, 0, 0, 0), some (.istore 4, 0, 0, 0), none],
  [some (.iinc 5 1, 0, 0, 0), none, none, some (.goto (-33), 18, 0, 0), none, none, some (.iload_n 2, 0, 0, 0), some (.iload 4, 0, 0, 0), none, some (.ifCond .ne 7, 64, 0, 0), none, none, some (.iconst 0, 0, 0, 0), some (.goto 15, 76, 0, 0), none, none],
  [some (.iload 4, 0, 0, 0), none, some (.iload_n 1, 0, 0, 0), some (.if_icmp .le 8, 75, 0, 0), none, none, some (.bipush 100, 0, 0, 100), none, some (.goto 4, 76, 0, 0), none, none, some (.iconst 1, 0, 0, 1), some (.iadd, 0, 0, 0), some (.istore_n 2, 0, 0, 0), some (.iinc 3 1, 0, 0, 0), none],
  [none, some (.goto (-77), 4, 0, 0), none, none, some (.iload_n 2, 0, 0, 0), some (.ireturn, 0, 0, 0)]]
def mp_124 : List (List (Option mE)) := [
  [some (.aload_n 0, 0, 0, 0), some (.getfield 55, 9, 1, 0), none, none, some (.iconst 1, 0, 0, 1), some (.isub, 0, 0, 0), some (.istore_n 1, 0, 0, 0), some (.iload_n 1, 0, 0, 0), some (.ifCond .le 23, 31, 0, 0), none, none, some (.aload_n 0, 0, 0, 0), some (.getfield 42, 9, 12, 0), none, none, some (.iload_n 1, 0, 0, 0)],
  [some (.iaload, 0, 0, 0), some (.aload_n 0, 0, 0, 0), some (.iload_n 1, 0, 0, 0), some (.invokevirtual 118, 125, 0, 0), none, none, some (.if_icmp .le 9, 31, 0, 0), none, none, some (.iinc 1 (-1), 0, 0, 0), none, none, some (.goto (-21), 7, 0, 0), none, none, some (.iload_n 1, 0, 0, 0)],
  [some (.ifCond .gt 5, 37, 0, 0), none, none, some (.iconst 0, 0, 0, 0), some (.ireturn, 1, 0, 0), some (.aload_n 0, 0, 0, 0), some (.getfield 42, 9, 12, 0), none, none, some (.iload_n 1, 0, 0, 0), some (.dup2, 0, 0, 0), some (.iaload, 0, 0, 0), some (.iconst 1, 0, 0, 1), some (.iadd, 0, 0, 0), some (.iastore, 0, 0, 0), some (.iload_n 1, 0, 0, 0)],
  [some (.iconst 1, 0, 0, 1), some (.iadd, 0, 0, 0), some (.istore_n 2, 0, 0, 0), some (.iload_n 2, 0, 0, 0), some (.aload_n 0, 0, 0, 0), some (.getfield 55, 9, 1, 0), none, none, some (.if_icmp .ge 16, 72, 0, 0), none, none, some (.aload_n 0, 0, 0, 0), some (.getfield 42, 9, 12, 0), none, none, some (.iload_n 2, 0, 0, 0)],
  [some (.iconst 0, 0, 0, 0), some (.iastore, 0, 0, 0), some (.iinc 2 1, 0, 0, 0), none, none, some (.goto (-18), 51, 0, 0), none, none, some (.iconst 1, 0, 0, 1), some (.ireturn, 1, 0, 0)]]
def mp_125 : List (List (Option mE)) := [
  [some (.iconst 0, 0, 0, 0), some (.istore_n 2, 0, 0, 0), some (.iconst 0, 0, 0, 0), some (.istore_n 3, 0, 0, 0), some (.iload_n 3, 0, 0, 0), some (.iload_n 1, 0, 0, 0), some (.if_icmp .ge 30, 36, 0, 0), none, none, some (.aload_n 0, 0, 0, 0), some (.getfield 42, 9, 12, 0), none, none, some (.iload_n 3, 0, 0, 0), some (.iaload, 0, 0, 0), some (.iload_n 2, 0, 0, 0)],
  [some (.if_icmp .le 12, 28, 0, 0), none, none, some (.aload_n 0, 0, 0, 0), some (.getfield 42, 9, 12, 0), none, none, some (.iload_n 3, 0, 0, 0), some (.iaload, 0, 0, 0), some (.goto 4, 29, 0, 0), none, none, some (.iload_n 2, 0, 0, 0), some (.istore_n 2, 0, 0, 0), some (.iinc 3 1, 0, 0, 0), none],
  [none, some (.goto (-29), 4, 0, 0), none, none, some (.iload_n 2, 0, 0, 0), some (.ireturn, 0, 0, 0)]]
def mp_126 : List (List (Option mE)) := [
  [some (.iconst 0, 0, 0, 0), some (.istore_n 2, 0, 0, 0), some (.iload_n 2, 0, 0, 0), some (.bipush 8, 0, 0, 8), none, some (.if_icmp .ge 23, 28, 0, 0), none, none, some (.aload_n 0, 0, 0, 0), some (.getfield 42, 9, 12, 0), none, none, some (.iload_n 2, 0, 0, 0), some (.iconst 0, 0, 0, 0), some (.iastore, 0, 0, 0), some (.aload_n 0, 0, 0, 0)],
  [some (.getfield 45, 9, 13, 0), none, none, some (.iload_n 2, 0, 0, 0), some (.iconst 0, 0, 0, 0), some (.iastore, 0, 0, 0), some (.iinc 2 1, 0, 0, 0), none, none, some (.goto (-23), 2, 0, 0), none, none, some (.aload_n 0, 0, 0, 0), some (.bipush (-9), 0, 0, (-9)), none, some (.putfield 121, 9, 14, 0)],
  [none, none, some (.iconst 0, 0, 0, 0), some (.istore_n 2, 0, 0, 0), some (.iconst 1, 0, 0, 1), some (.istore_n 3, 0, 0, 0), some (.iload_n 3, 0, 0, 0), some (.ifCond .eq 105, 144, 0, 0), none, none, some (.aload_n 0, 0, 0, 0), some (.iload_n 1, 0, 0, 0), some (.invokevirtual 124, 123, 0, 0), none, none, some (.istore 4, 0, 0, 0)],
  [none, some (.aload_n 0, 0, 0, 0), some (.invokevirtual 127, 122, 0, 0), none, none, some (.istore 5, 0, 0, 0), none, some (.iload 4, 0, 0, 0), none, some (.bipush 100, 0, 0, 100), none, some (.if_icmp .ge 77, 136, 0, 0), none, none, some (.aload_n 0, 0, 0, 0), some (.getfield 121, 9, 14, 0)],
  [none, none, some (.bipush (-9), 0, 0, (-9)), none, some (.if_icmp .eq 27, 95, 0, 0), none, none, some (.iload 5, 0, 0, 0), none, some (.aload_n 0, 0, 0, 0), some (.getfield 121, 9, 14, 0), none, none, some (.if_icmp .lt 18, 95, 0, 0), none, none],
  [some (.iload 5, 0, 0, 0), none, some (.aload_n 0, 0, 0, 0), some (.getfield 121, 9, 14, 0), none, none, some (.if_icmp .ne 50, 136, 0, 0), none, none, some (.iload 4, 0, 0, 0), none, some (.iload_n 2, 0, 0, 0), some (.if_icmp .ge 44, 136, 0, 0), none, none, some (.aload_n 0, 0, 0, 0)],
  [some (.iload 5, 0, 0, 0), none, some (.putfield 121, 9, 14, 0), none, none, some (.iload 4, 0, 0, 0), none, some (.istore_n 2, 0, 0, 0), some (.iconst 0, 0, 0, 0), some (.istore 6, 0, 0, 0), none, some (.iload 6, 0, 0, 0), none, some (.aload_n 0, 0, 0, 0), some (.getfield 55, 9, 1, 0), none],
  [none, some (.if_icmp .ge 23, 136, 0, 0), none, none, some (.aload_n 0, 0, 0, 0), some (.getfield 45, 9, 13, 0), none, none, some (.iload 6, 0, 0, 0), none, some (.aload_n 0, 0, 0, 0), some (.getfield 42, 9, 12, 0), none, none, some (.iload 6, 0, 0, 0), none],
  [some (.iaload, 0, 0, 0), some (.iastore, 0, 0, 0), some (.iinc 6 1, 0, 0, 0), none, none, some (.goto (-26), 107, 0, 0), none, none, some (.aload_n 0, 0, 0, 0), some (.invokevirtual 130, 124, 0, 0), none, none, some (.istore_n 3, 0, 0, 0), some (.goto (-103), 38, 0, 0), none, none],
  [some (.return_, 0, 0, 0)]]
def mp_127 : List (List (Option mE)) := [
  [some (.aload_n 0, 0, 0, 0), some (.iconst 0, 0, 0, 0), some (.putfield 51, 9, 0, 0), none, none, some (.iload_n 1, 0, 0, 0), some (.i2l, 0, 0, 0), some (.lconst 1, 0, 0, 1), some (.ldc2_w 101, 0, 0, 8), none, none, some (.invokestatic 58, 88, 0, 0), none, none, some (.ifCond .ne 6, 20, 0, 0), none],
  [none, some (.bipush (-2), 0, 0, (-2)), none, some (.ireturn, 0, 0, 0), some (.aload_n 0, 0, 0, 0), some (.iload_n 1, 0, 0, 0), some (.invokevirtual 134, 126, 0, 0), none, none, some (.aload_n 0, 0, 0, 0), some (.getfield 121, 9, 14, 0), none, none, some (.ireturn, 0, 0, 0)]]
def mp_128 : List (List (Option mE)) := [
  [some (.aload_n 0, 0, 0, 0), some (.iconst 0, 0, 0, 0), some (.putfield 51, 9, 0, 0), none, none, some (.aload_n 0, 0, 0, 0), some (.iload_n 2, 0, 0, 0), some (.invokevirtual 64, 89, 0, 0), none, none, some (.ifCond .eq 5, 15, 0, 0), none, none, some (.iconst (-1), 0, 0, (-1)), some (.ireturn, 0, 0, 0), some (.iload_n 1, 0, 0, 0)],
  [some (.i2l, 0, 0, 0), some (.lconst 1, 0, 0, 1), some (.ldc2_w 101, 0, 0, 8), none, none, some (.invokestatic 58, 88, 0, 0), none, none, some (.ifCond .ne 6, 30, 0, 0), none, none, some (.bipush (-2), 0, 0, (-2)), none, some (.ireturn, 0, 0, 0), some (.aload_n 0, 0, 0, 0), some (.iload_n 1, 0, 0, 0)],
  [some (.invokevirtual 134, 126, 0, 0), none, none, some (.aload_n 0, 0, 0, 0), some (.getfield 45, 9, 13, 0), none, none, some (.iload_n 2, 0, 0, 0), some (.iaload, 0, 0, 0), some (.ireturn, 0, 0, 0)]]
def mp_129 : List (List (Option mE)) := [
  [some (.iconst 0, 0, 0, 0), some (.istore_n 2, 0, 0, 0), some (.iload_n 2, 0, 0, 0), some (.bipush 8, 0, 0, 8), none, some (.if_icmp .ge 27, 32, 0, 0), none, none, some (.aload_n 0, 0, 0, 0), some (.getfield 48, 9, 15, 0), none, none, some (.iload_n 2, 0, 0, 0), some (.iload_n 2, 0, 0, 0), some (.iload_n 1, 0, 0, 0), some (.if_icmp .ne 9, 24, 0, 0)],
  [none, none, some (.ldc2_w 138, 0, 0, 10000000), none, none, some (.goto 4, 25, 0, 0), none, none, some (.lconst 0, 0, 0, 0), some (.lastore, 0, 0, 0), some (.iinc 2 1, 0, 0, 0), none, none, some (.goto (-27), 2, 0, 0), none, none],
  [some (.iconst 0, 0, 0, 0), some (.istore_n 2, 0, 0, 0), some (.iload_n 2, 0, 0, 0), some (.bipush 8, 0, 0, 8), none, some (.if_icmp .ge 101, 138, 0, 0), none, none, some (.iconst 0, 0, 0, 0), some (.istore_n 3, 0, 0, 0), some (.iload_n 3, 0, 0, 0), some (.aload_n 0, 0, 0, 0), some (.getfield 55, 9, 1, 0), none, none, some (.if_icmp .ge 85, 132, 0, 0)],
  [none, none, some (.iconst 0, 0, 0, 0), some (.istore 4, 0, 0, 0), none, some (.iload 4, 0, 0, 0), none, some (.aload_n 0, 0, 0, 0), some (.getfield 55, 9, 1, 0), none, none, some (.if_icmp .ge 67, 126, 0, 0), none, none, some (.aload_n 0, 0, 0, 0), some (.getfield 48, 9, 15, 0)],
  [none, none, some (.iload_n 3, 0, 0, 0), some (.laload, 0, 0, 0), some (.aload_n 0, 0, 0, 0), some (.getfield 13, 9, 3, 0), none, none, some (.bipush 8, 0, 0, 8), none, some (.iload 4, 0, 0, 0), none, some (.imul, 0, 0, 0), some (.iload_n 3, 0, 0, 0), some (.iadd, 0, 0, 0), some (.iaload, 0, 0, 0)],
  [some (.i2l, 0, 0, 0), some (.lmul, 0, 0, 0), some (.ldc2_w 103, 0, 0, 10), none, none, some (.ldiv, 0, 0, 0), some (.lstore 5, 0, 0, 0), none, some (.aload_n 0, 0, 0, 0), some (.getfield 48, 9, 15, 0), none, none, some (.iload 4, 0, 0, 0), none, some (.lload 5, 0, 0, 0), none],
  [some (.aload_n 0, 0, 0, 0), some (.getfield 48, 9, 15, 0), none, none, some (.iload 4, 0, 0, 0), none, some (.laload, 0, 0, 0), some (.lcmp, 0, 0, 0), some (.ifCond .le 8, 112, 0, 0), none, none, some (.lload 5, 0, 0, 0), none, some (.goto 10, 119, 0, 0), none, none],
  [some (.aload_n 0, 0, 0, 0), some (.getfield 48, 9, 15, 0), none, none, some (.iload 4, 0, 0, 0), none, some (.laload, 0, 0, 0), some (.lastore, 0, 0, 0), some (.iinc 4 1, 0, 0, 0), none, none, some (.goto (-70), 53, 0, 0), none, none, some (.iinc 3 1, 0, 0, 0), none],
  [none, some (.goto (-87), 42, 0, 0), none, none, some (.iinc 2 1, 0, 0, 0), none, none, some (.goto (-101), 34, 0, 0), none, none, some (.return_, 0, 0, 0)]]
def mp_130 : List (List (Option mE)) := [
  [some (.aload_n 0, 0, 0, 0), some (.iconst 0, 0, 0, 0), some (.putfield 51, 9, 0, 0), none, none, some (.aload_n 0, 0, 0, 0), some (.iload_n 1, 0, 0, 0), some (.invokevirtual 64, 89, 0, 0), none, none, some (.ifCond .ne 11, 21, 0, 0), none, none, some (.aload_n 0, 0, 0, 0), some (.iload_n 2, 0, 0, 0), some (.invokevirtual 64, 89, 0, 0)],
  [none, none, some (.ifCond .eq 7, 25, 0, 0), none, none, some (.ldc2_w 113, 0, 0, (-1)), none, none, some (.lreturn, 0, 0, 0), some (.aload_n 0, 0, 0, 0), some (.iload_n 1, 0, 0, 0), some (.invokevirtual 140, 129, 0, 0), none, none, some (.aload_n 0, 0, 0, 0), some (.getfield 48, 9, 15, 0)],
  [none, none, some (.iload_n 2, 0, 0, 0), some (.laload, 0, 0, 0), some (.ldc2_w 138, 0, 0, 10000000), none, none, some (.iload_n 3, 0, 0, 0), some (.invokestatic 105, 90, 0, 0), none, none, some (.lreturn, 0, 0, 0)]]
def mp_131 : List (List (Option mE)) := [
  [some (.aload_n 0, 0, 0, 0), some (.iconst 0, 0, 0, 0), some (.putfield 51, 9, 0, 0), none, none, some (.aload_n 0, 0, 0, 0), some (.iload_n 1, 0, 0, 0), some (.invokevirtual 64, 89, 0, 0), none, none, some (.ifCond .eq 5, 15, 0, 0), none, none, some (.iconst (-1), 0, 0, (-1)), some (.ireturn, 0, 0, 0), some (.iload_n 2, 0, 0, 0)],
  [some (.i2l, 0, 0, 0), some (.lconst 1, 0, 0, 1), some (.ldc2_w 143, 0, 0, 1000), none, none, some (.invokestatic 58, 88, 0, 0), none, none, some (.ifCond .ne 6, 30, 0, 0), none, none, some (.bipush (-2), 0, 0, (-2)), none, some (.ireturn, 0, 0, 0), some (.aload_n 0, 0, 0, 0), some (.iload_n 1, 0, 0, 0)],
  [some (.invokevirtual 140, 129, 0, 0), none, none, some (.iconst 0, 0, 0, 0), some (.istore_n 3, 0, 0, 0), some (.iconst 0, 0, 0, 0), some (.istore 4, 0, 0, 0), none, some (.iload 4, 0, 0, 0), none, some (.aload_n 0, 0, 0, 0), some (.getfield 55, 9, 1, 0), none, none, some (.if_icmp .ge 40, 86, 0, 0), none],
  [none, some (.iload_n 3, 0, 0, 0), some (.iload 4, 0, 0, 0), none, some (.iload_n 1, 0, 0, 0), some (.if_icmp .eq 24, 77, 0, 0), none, none, some (.aload_n 0, 0, 0, 0), some (.getfield 48, 9, 15, 0), none, none, some (.iload 4, 0, 0, 0), none, some (.laload, 0, 0, 0), some (.iload_n 2, 0, 0, 0)],
  [some (.i2l, 0, 0, 0), some (.ldc2_w 145, 0, 0, 10000), none, none, some (.lmul, 0, 0, 0), some (.lcmp, 0, 0, 0), some (.ifCond .lt 7, 77, 0, 0), none, none, some (.iconst 1, 0, 0, 1), some (.goto 4, 78, 0, 0), none, none, some (.iconst 0, 0, 0, 0), some (.iadd, 0, 0, 0), some (.istore_n 3, 0, 0, 0)],
  [some (.iinc 4 1, 0, 0, 0), none, none, some (.goto (-43), 40, 0, 0), none, none, some (.iload_n 3, 0, 0, 0), some (.ireturn, 0, 0, 0)]]
def mp_132 : List (List (Option mE)) := [
  [some (.aload_n 0, 0, 0, 0), some (.iconst 0, 0, 0, 0), some (.putfield 51, 9, 0, 0), none, none, some (.iconst 0, 0, 0, 0), some (.istore_n 2, 0, 0, 0), some (.iconst 0, 0, 0, 0), some (.istore_n 3, 0, 0, 0), some (.iconst 0, 0, 0, 0), some (.istore 4, 0, 0, 0), none, some (.iconst 0, 0, 0, 0), some (.istore 5, 0, 0, 0), none, some (.iconst 0, 0, 0, 0)],
  [some (.istore 6, 0, 0, 0), none, some (.iload 6, 0, 0, 0), none, some (.bipush 64, 0, 0, 64), none, some (.if_icmp .ge 57, 79, 0, 0), none, none, some (.iload_n 2, 0, 0, 0), some (.aload_n 0, 0, 0, 0), some (.getfield 13, 9, 3, 0), none, none, some (.iload 6, 0, 0, 0), none],
  [some (.iaload, 0, 0, 0), some (.ifCond .le 7, 40, 0, 0), none, none, some (.iconst 1, 0, 0, 1), some (.goto 4, 41, 0, 0), none, none, some (.iconst 0, 0, 0, 0), some (.iadd, 0, 0, 0), some (.istore_n 2, 0, 0, 0), some (.iload_n 3, 0, 0, 0), some (.aload_n 0, 0, 0, 0), some (.getfield 13, 9, 3, 0), none, none],
  [some (.iload 6, 0, 0, 0), none, some (.iaload, 0, 0, 0), some (.iadd, 0, 0, 0), some (.istore_n 3, 0, 0, 0), some (.iload 4, 0, 0, 0), none, some (.aload_n 0, 0, 0, 0), some (.getfield 16, 9, 4, 0), none, none, some (.iload 6, 0, 0, 0), none, some (.iaload, 0, 0, 0), some (.ifCond .le 7, 69, 0, 0), none],
  [none, some (.iconst 1, 0, 0, 1), some (.goto 4, 70, 0, 0), none, none, some (.iconst 0, 0, 0, 0), some (.iadd, 0, 0, 0), some (.istore 4, 0, 0, 0), none, some (.iinc 6 1, 0, 0, 0), none, none, some (.goto (-58), 18, 0, 0), none, none, some (.iconst 0, 0, 0, 0)],
  [some (.istore 6, 0, 0, 0), none, some (.iload 6, 0, 0, 0), none, some (.aload_n 0, 0, 0, 0), some (.getfield 55, 9, 1, 0), none, none, some (.if_icmp .ge 21, 109, 0, 0), none, none, some (.iload 5, 0, 0, 0), none, some (.aload_n 0, 0, 0, 0), some (.getfield 7, 9, 2, 0), none],
  [none, some (.iload 6, 0, 0, 0), none, some (.iaload, 0, 0, 0), some (.iadd, 0, 0, 0), some (.istore 5, 0, 0, 0), none, some (.iinc 6 1, 0, 0, 0), none, none, some (.goto (-24), 82, 0, 0), none, none, some (.iload_n 1, 0, 0, 0), some (.ifCond .ne 10, 120, 0, 0), none],
  [none, some (.aload_n 0, 0, 0, 0), some (.getfield 55, 9, 1, 0), none, none, some (.goto 43, 160, 0, 0), none, none, some (.iload_n 1, 0, 0, 0), some (.iconst 1, 0, 0, 1), some (.if_icmp .ne 7, 129, 0, 0), none, none, some (.iload_n 2, 0, 0, 0), some (.goto 34, 160, 0, 0), none],
  [none, some (.iload_n 1, 0, 0, 0), some (.iconst 2, 0, 0, 2), some (.if_icmp .ne 7, 138, 0, 0), none, none, some (.iload_n 3, 0, 0, 0), some (.goto 25, 160, 0, 0), none, none, some (.iload_n 1, 0, 0, 0), some (.iconst 3, 0, 0, 3), some (.if_icmp .ne 8, 148, 0, 0), none, none, some (.iload 4, 0, 0, 0)],
  [none, some (.goto 15, 160, 0, 0), none, none, some (.iload_n 1, 0, 0, 0), some (.iconst 4, 0, 0, 4), some (.if_icmp .ne 8, 158, 0, 0), none, none, some (.iload 5, 0, 0, 0), none, some (.goto 5, 160, 0, 0), none, none, some (.bipush (-2), 0, 0, (-2)), none],
  [some (.ireturn, 0, 0, 0)]]
def mp_133 : List (List (Option mE)) := [
  [some (.new 7, 0, 0, 0), none, none, some (.dup, 0, 0, 0), some (.invokespecial 9, 0, 0, 0), none, none, some (.astore_n 1, 0, 0, 0), some (.new 10, 0, 0, 0), none, none, some (.dup, 0, 0, 0), some (.invokespecial 12, 0, 0, 0), none, none, some (.astore_n 2, 0, 0, 0)],
  [some (.iconst 0, 0, 0, 0), some (.istore_n 3, 0, 0, 0), some (.iload_n 3, 0, 0, 0), some (.aload_n 0, 0, 0, 0), some (.arraylength, 0, 0, 0), some (.iconst 4, 0, 0, 4), some (.isub, 0, 0, 0), some (.if_icmp .gt 857, 880, 0, 0), none, none, some (.aload_n 0, 0, 0, 0), some (.iload_n 3, 0, 0, 0), some (.iaload, 0, 0, 0), some (.bipush 31, 0, 0, 31), none, some (.iand, 0, 0, 0)],
  [some (.tableswitch 842 0 24 #[116, 139, 172, 215, 248, 281, 294, 317, 330, 353, 386, 409, 442, 455, 468, 501, 544, 584, 634, 657, 670, 693, 726, 786, 819], 874, 0, 0), none, none, none, none, none, none, none, none, none, none, none, none, none, none, none],
  [none, none, none, none, none, none, none, none, none, none, none, none, none, none, none, none],
  [none, none, none, none, none, none, none, none, none, none, none, none, none, none, none, none],
  [none, none, none, none, none, none, none, none, none, none, none, none, none, none, none, none],
  [none, none, none, none, none, none, none, none, none, none, none, none, none, none, none, none],
  [none, none, none, none, none, none, none, none, none, none, none, none, none, none, none, none],
  [none, none, none, none, none, none, none, none, none, none, none, none, none, none, none, none],
  [none, none, none, none, some (.aload_n 1, 0, 0, 0), some (.aload_n 0, 0, 0, 0), some (.iload_n 3, 0, 0, 0), some (.iconst 1, 0, 0, 1), some (.iadd, 0, 0, 0), some (.iaload, 0, 0, 0), some (.invokevirtual 13, 56, 0, 0), none, none, some (.aload_n 2, 0, 0, 0), some (.aload_n 0, 0, 0, 0), some (.iload_n 3, 0, 0, 0)],
  [some (.iconst 1, 0, 0, 1), some (.iadd, 0, 0, 0), some (.iaload, 0, 0, 0), some (.invokevirtual 17, 91, 0, 0), none, none, some (.if_icmp .eq 708, 874, 0, 0), none, none, some (.iconst 0, 0, 0, 0), some (.ireturn, 1, 0, 0), some (.aload_n 1, 0, 0, 0), some (.aload_n 0, 0, 0, 0), some (.iload_n 3, 0, 0, 0), some (.iconst 1, 0, 0, 1), some (.iadd, 0, 0, 0)],
  [some (.iaload, 0, 0, 0), some (.aload_n 0, 0, 0, 0), some (.iload_n 3, 0, 0, 0), some (.iconst 2, 0, 0, 2), some (.iadd, 0, 0, 0), some (.iaload, 0, 0, 0), some (.invokevirtual 18, 57, 0, 0), none, none, some (.aload_n 2, 0, 0, 0), some (.aload_n 0, 0, 0, 0), some (.iload_n 3, 0, 0, 0), some (.iconst 1, 0, 0, 1), some (.iadd, 0, 0, 0), some (.iaload, 0, 0, 0), some (.aload_n 0, 0, 0, 0)],
  [some (.iload_n 3, 0, 0, 0), some (.iconst 2, 0, 0, 2), some (.iadd, 0, 0, 0), some (.iaload, 0, 0, 0), some (.invokevirtual 22, 92, 0, 0), none, none, some (.if_icmp .eq 675, 874, 0, 0), none, none, some (.iconst 0, 0, 0, 0), some (.ireturn, 1, 0, 0), some (.aload_n 1, 0, 0, 0), some (.aload_n 0, 0, 0, 0), some (.iload_n 3, 0, 0, 0), some (.iconst 1, 0, 0, 1)],
  [some (.iadd, 0, 0, 0), some (.iaload, 0, 0, 0), some (.aload_n 0, 0, 0, 0), some (.iload_n 3, 0, 0, 0), some (.iconst 2, 0, 0, 2), some (.iadd, 0, 0, 0), some (.iaload, 0, 0, 0), some (.aload_n 0, 0, 0, 0), some (.iload_n 3, 0, 0, 0), some (.iconst 3, 0, 0, 3), some (.iadd, 0, 0, 0), some (.iaload, 0, 0, 0), some (.invokevirtual 23, 58, 0, 0), none, none, some (.aload_n 2, 0, 0, 0)],
  [some (.aload_n 0, 0, 0, 0), some (.iload_n 3, 0, 0, 0), some (.iconst 1, 0, 0, 1), some (.iadd, 0, 0, 0), some (.iaload, 0, 0, 0), some (.aload_n 0, 0, 0, 0), some (.iload_n 3, 0, 0, 0), some (.iconst 2, 0, 0, 2), some (.iadd, 0, 0, 0), some (.iaload, 0, 0, 0), some (.aload_n 0, 0, 0, 0), some (.iload_n 3, 0, 0, 0), some (.iconst 3, 0, 0, 3), some (.iadd, 0, 0, 0), some (.iaload, 0, 0, 0), some (.invokevirtual 27, 93, 0, 0)],
  [none, none, some (.if_icmp .eq 632, 874, 0, 0), none, none, some (.iconst 0, 0, 0, 0), some (.ireturn, 1, 0, 0), some (.aload_n 1, 0, 0, 0), some (.aload_n 0, 0, 0, 0), some (.iload_n 3, 0, 0, 0), some (.iconst 1, 0, 0, 1), some (.iadd, 0, 0, 0), some (.iaload, 0, 0, 0), some (.aload_n 0, 0, 0, 0), some (.iload_n 3, 0, 0, 0), some (.iconst 2, 0, 0, 2)],
  [some (.iadd, 0, 0, 0), some (.iaload, 0, 0, 0), some (.invokevirtual 28, 59, 0, 0), none, none, some (.aload_n 2, 0, 0, 0), some (.aload_n 0, 0, 0, 0), some (.iload_n 3, 0, 0, 0), some (.iconst 1, 0, 0, 1), some (.iadd, 0, 0, 0), some (.iaload, 0, 0, 0), some (.aload_n 0, 0, 0, 0), some (.iload_n 3, 0, 0, 0), some (.iconst 2, 0, 0, 2), some (.iadd, 0, 0, 0), some (.iaload, 0, 0, 0)],
  [some (.invokevirtual 31, 94, 0, 0), none, none, some (.if_icmp .eq 599, 874, 0, 0), none, none, some (.iconst 0, 0, 0, 0), some (.ireturn, 1, 0, 0), some (.aload_n 1, 0, 0, 0), some (.aload_n 0, 0, 0, 0), some (.iload_n 3, 0, 0, 0), some (.iconst 1, 0, 0, 1), some (.iadd, 0, 0, 0), some (.iaload, 0, 0, 0), some (.aload_n 0, 0, 0, 0), some (.iload_n 3, 0, 0, 0)],
  [some (.iconst 2, 0, 0, 2), some (.iadd, 0, 0, 0), some (.iaload, 0, 0, 0), some (.invokevirtual 32, 60, 0, 0), none, none, some (.aload_n 2, 0, 0, 0), some (.aload_n 0, 0, 0, 0), some (.iload_n 3, 0, 0, 0), some (.iconst 1, 0, 0, 1), some (.iadd, 0, 0, 0), some (.iaload, 0, 0, 0), some (.aload_n 0, 0, 0, 0), some (.iload_n 3, 0, 0, 0), some (.iconst 2, 0, 0, 2), some (.iadd, 0, 0, 0)],
  [some (.iaload, 0, 0, 0), some (.invokevirtual 35, 96, 0, 0), none, none, some (.if_icmp .eq 566, 874, 0, 0), none, none, some (.iconst 0, 0, 0, 0), some (.ireturn, 1, 0, 0), some (.aload_n 1, 0, 0, 0), some (.invokevirtual 36, 61, 0, 0), none, none, some (.aload_n 2, 0, 0, 0), some (.invokevirtual 40, 100, 0, 0), none],
  [none, some (.if_icmp .eq 553, 874, 0, 0), none, none, some (.iconst 0, 0, 0, 0), some (.ireturn, 1, 0, 0), some (.aload_n 1, 0, 0, 0), some (.aload_n 0, 0, 0, 0), some (.iload_n 3, 0, 0, 0), some (.iconst 1, 0, 0, 1), some (.iadd, 0, 0, 0), some (.iaload, 0, 0, 0), some (.invokevirtual 41, 62, 0, 0), none, none, some (.aload_n 2, 0, 0, 0)],
  [some (.aload_n 0, 0, 0, 0), some (.iload_n 3, 0, 0, 0), some (.iconst 1, 0, 0, 1), some (.iadd, 0, 0, 0), some (.iaload, 0, 0, 0), some (.invokevirtual 44, 101, 0, 0), none, none, some (.if_icmp .eq 530, 874, 0, 0), none, none, some (.iconst 0, 0, 0, 0), some (.ireturn, 1, 0, 0), some (.aload_n 1, 0, 0, 0), some (.invokevirtual 45, 63, 0, 0), none],
  [none, some (.aload_n 2, 0, 0, 0), some (.invokevirtual 48, 105, 0, 0), none, none, some (.if_icmp .eq 517, 874, 0, 0), none, none, some (.iconst 0, 0, 0, 0), some (.ireturn, 1, 0, 0), some (.aload_n 1, 0, 0, 0), some (.aload_n 0, 0, 0, 0), some (.iload_n 3, 0, 0, 0), some (.iconst 1, 0, 0, 1), some (.iadd, 0, 0, 0), some (.iaload, 0, 0, 0)],
  [some (.invokevirtual 49, 64, 0, 0), none, none, some (.aload_n 2, 0, 0, 0), some (.aload_n 0, 0, 0, 0), some (.iload_n 3, 0, 0, 0), some (.iconst 1, 0, 0, 1), some (.iadd, 0, 0, 0), some (.iaload, 0, 0, 0), some (.invokevirtual 52, 106, 0, 0), none, none, some (.if_icmp .eq 494, 874, 0, 0), none, none, some (.iconst 0, 0, 0, 0)],
  [some (.ireturn, 1, 0, 0), some (.aload_n 1, 0, 0, 0), some (.aload_n 0, 0, 0, 0), some (.iload_n 3, 0, 0, 0), some (.iconst 1, 0, 0, 1), some (.iadd, 0, 0, 0), some (.iaload, 0, 0, 0), some (.aload_n 0, 0, 0, 0), some (.iload_n 3, 0, 0, 0), some (.iconst 2, 0, 0, 2), some (.iadd, 0, 0, 0), some (.iaload, 0, 0, 0), some (.invokevirtual 53, 65, 0, 0), none, none, some (.aload_n 2, 0, 0, 0)],
  [some (.aload_n 0, 0, 0, 0), some (.iload_n 3, 0, 0, 0), some (.iconst 1, 0, 0, 1), some (.iadd, 0, 0, 0), some (.iaload, 0, 0, 0), some (.aload_n 0, 0, 0, 0), some (.iload_n 3, 0, 0, 0), some (.iconst 2, 0, 0, 2), some (.iadd, 0, 0, 0), some (.iaload, 0, 0, 0), some (.invokevirtual 56, 107, 0, 0), none, none, some (.if_icmp .eq 461, 874, 0, 0), none, none],
  [some (.iconst 0, 0, 0, 0), some (.ireturn, 1, 0, 0), some (.aload_n 1, 0, 0, 0), some (.aload_n 0, 0, 0, 0), some (.iload_n 3, 0, 0, 0), some (.iconst 1, 0, 0, 1), some (.iadd, 0, 0, 0), some (.iaload, 0, 0, 0), some (.invokevirtual 57, 66, 0, 0), none, none, some (.aload_n 2, 0, 0, 0), some (.aload_n 0, 0, 0, 0), some (.iload_n 3, 0, 0, 0), some (.iconst 1, 0, 0, 1), some (.iadd, 0, 0, 0)],
  [some (.iaload, 0, 0, 0), some (.invokevirtual 60, 108, 0, 0), none, none, some (.if_icmp .eq 438, 874, 0, 0), none, none, some (.iconst 0, 0, 0, 0), some (.ireturn, 1, 0, 0), some (.aload_n 1, 0, 0, 0), some (.aload_n 0, 0, 0, 0), some (.iload_n 3, 0, 0, 0), some (.iconst 1, 0, 0, 1), some (.iadd, 0, 0, 0), some (.iaload, 0, 0, 0), some (.aload_n 0, 0, 0, 0)],
  [some (.iload_n 3, 0, 0, 0), some (.iconst 2, 0, 0, 2), some (.iadd, 0, 0, 0), some (.iaload, 0, 0, 0), some (.invokevirtual 61, 67, 0, 0), none, none, some (.aload_n 2, 0, 0, 0), some (.aload_n 0, 0, 0, 0), some (.iload_n 3, 0, 0, 0), some (.iconst 1, 0, 0, 1), some (.iadd, 0, 0, 0), some (.iaload, 0, 0, 0), some (.aload_n 0, 0, 0, 0), some (.iload_n 3, 0, 0, 0), some (.iconst 2, 0, 0, 2)],
  [some (.iadd, 0, 0, 0), some (.iaload, 0, 0, 0), some (.invokevirtual 64, 110, 0, 0), none, none, some (.if_icmp .eq 405, 874, 0, 0), none, none, some (.iconst 0, 0, 0, 0), some (.ireturn, 1, 0, 0), some (.aload_n 1, 0, 0, 0), some (.invokevirtual 65, 68, 0, 0), none, none, some (.aload_n 2, 0, 0, 0), some (.invokevirtual 68, 111, 0, 0)],
  [none, none, some (.if_icmp .eq 392, 874, 0, 0), none, none, some (.iconst 0, 0, 0, 0), some (.ireturn, 1, 0, 0), some (.aload_n 1, 0, 0, 0), some (.invokevirtual 69, 69, 0, 0), none, none, some (.aload_n 2, 0, 0, 0), some (.invokevirtual 72, 112, 0, 0), none, none, some (.if_icmp .eq 379, 874, 0, 0)],
  [none, none, some (.iconst 0, 0, 0, 0), some (.ireturn, 1, 0, 0), some (.aload_n 1, 0, 0, 0), some (.aload_n 0, 0, 0, 0), some (.iload_n 3, 0, 0, 0), some (.iconst 1, 0, 0, 1), some (.iadd, 0, 0, 0), some (.iaload, 0, 0, 0), some (.aload_n 0, 0, 0, 0), some (.iload_n 3, 0, 0, 0), some (.iconst 2, 0, 0, 2), some (.iadd, 0, 0, 0), some (.iaload, 0, 0, 0), some (.invokevirtual 73, 70, 0, 0)],
  [none, none, some (.aload_n 2, 0, 0, 0), some (.aload_n 0, 0, 0, 0), some (.iload_n 3, 0, 0, 0), some (.iconst 1, 0, 0, 1), some (.iadd, 0, 0, 0), some (.iaload, 0, 0, 0), some (.aload_n 0, 0, 0, 0), some (.iload_n 3, 0, 0, 0), some (.iconst 2, 0, 0, 2), some (.iadd, 0, 0, 0), some (.iaload, 0, 0, 0), some (.invokevirtual 76, 114, 0, 0), none, none],
  [some (.if_icmp .eq 346, 874, 0, 0), none, none, some (.iconst 0, 0, 0, 0), some (.ireturn, 1, 0, 0), some (.aload_n 1, 0, 0, 0), some (.aload_n 0, 0, 0, 0), some (.iload_n 3, 0, 0, 0), some (.iconst 1, 0, 0, 1), some (.iadd, 0, 0, 0), some (.iaload, 0, 0, 0), some (.aload_n 0, 0, 0, 0), some (.iload_n 3, 0, 0, 0), some (.iconst 2, 0, 0, 2), some (.iadd, 0, 0, 0), some (.iaload, 0, 0, 0)],
  [some (.aload_n 0, 0, 0, 0), some (.iload_n 3, 0, 0, 0), some (.iconst 3, 0, 0, 3), some (.iadd, 0, 0, 0), some (.iaload, 0, 0, 0), some (.invokevirtual 77, 71, 0, 0), none, none, some (.aload_n 2, 0, 0, 0), some (.aload_n 0, 0, 0, 0), some (.iload_n 3, 0, 0, 0), some (.iconst 1, 0, 0, 1), some (.iadd, 0, 0, 0), some (.iaload, 0, 0, 0), some (.aload_n 0, 0, 0, 0), some (.iload_n 3, 0, 0, 0)],
  [some (.iconst 2, 0, 0, 2), some (.iadd, 0, 0, 0), some (.iaload, 0, 0, 0), some (.aload_n 0, 0, 0, 0), some (.iload_n 3, 0, 0, 0), some (.iconst 3, 0, 0, 3), some (.iadd, 0, 0, 0), some (.iaload, 0, 0, 0), some (.invokevirtual 80, 115, 0, 0), none, none, some (.if_icmp .eq 303, 874, 0, 0), none, none, some (.iconst 0, 0, 0, 0), some (.ireturn, 1, 0, 0)],
  [some (.aload_n 1, 0, 0, 0), some (.aload_n 0, 0, 0, 0), some (.iload_n 3, 0, 0, 0), some (.iconst 1, 0, 0, 1), some (.iadd, 0, 0, 0), some (.iaload, 0, 0, 0), some (.ifCond .eq 7, 589, 0, 0), none, none, some (.iconst 1, 0, 0, 1), some (.goto 4, 590, 0, 0), none, none, some (.iconst 0, 0, 0, 0), some (.invokevirtual 81, 72, 0, 0), none],
  [none, some (.aload_n 2, 0, 0, 0), some (.aload_n 0, 0, 0, 0), some (.iload_n 3, 0, 0, 0), some (.iconst 1, 0, 0, 1), some (.iadd, 0, 0, 0), some (.iaload, 0, 0, 0), some (.ifCond .eq 7, 606, 0, 0), none, none, some (.iconst 1, 0, 0, 1), some (.goto 4, 607, 0, 0), none, none, some (.iconst 0, 0, 0, 0), some (.invokevirtual 85, 117, 0, 0)],
  [none, none, some (.lcmp, 0, 0, 0), some (.ifCond .eq 263, 874, 0, 0), none, none, some (.iconst 0, 0, 0, 0), some (.ireturn, 1, 0, 0), some (.aload_n 1, 0, 0, 0), some (.aload_n 0, 0, 0, 0), some (.iload_n 3, 0, 0, 0), some (.iconst 1, 0, 0, 1), some (.iadd, 0, 0, 0), some (.iaload, 0, 0, 0), some (.aload_n 0, 0, 0, 0), some (.iload_n 3, 0, 0, 0)],
  [some (.iconst 2, 0, 0, 2), some (.iadd, 0, 0, 0), some (.iaload, 0, 0, 0), some (.ifCond .eq 7, 634, 0, 0), none, none, some (.iconst 1, 0, 0, 1), some (.goto 4, 635, 0, 0), none, none, some (.iconst 0, 0, 0, 0), some (.invokevirtual 86, 73, 0, 0), none, none, some (.aload_n 2, 0, 0, 0), some (.aload_n 0, 0, 0, 0)],
  [some (.iload_n 3, 0, 0, 0), some (.iconst 1, 0, 0, 1), some (.iadd, 0, 0, 0), some (.iaload, 0, 0, 0), some (.aload_n 0, 0, 0, 0), some (.iload_n 3, 0, 0, 0), some (.iconst 2, 0, 0, 2), some (.iadd, 0, 0, 0), some (.iaload, 0, 0, 0), some (.ifCond .eq 7, 656, 0, 0), none, none, some (.iconst 1, 0, 0, 1), some (.goto 4, 657, 0, 0), none, none],
  [some (.iconst 0, 0, 0, 0), some (.invokevirtual 90, 118, 0, 0), none, none, some (.lcmp, 0, 0, 0), some (.ifCond .eq 213, 874, 0, 0), none, none, some (.iconst 0, 0, 0, 0), some (.ireturn, 1, 0, 0), some (.aload_n 1, 0, 0, 0), some (.aload_n 0, 0, 0, 0), some (.iload_n 3, 0, 0, 0), some (.iconst 1, 0, 0, 1), some (.iadd, 0, 0, 0), some (.iaload, 0, 0, 0)],
  [some (.invokevirtual 91, 74, 0, 0), none, none, some (.aload_n 2, 0, 0, 0), some (.aload_n 0, 0, 0, 0), some (.iload_n 3, 0, 0, 0), some (.iconst 1, 0, 0, 1), some (.iadd, 0, 0, 0), some (.iaload, 0, 0, 0), some (.invokevirtual 94, 120, 0, 0), none, none, some (.if_icmp .eq 190, 874, 0, 0), none, none, some (.iconst 0, 0, 0, 0)],
  [some (.ireturn, 1, 0, 0), some (.aload_n 1, 0, 0, 0), some (.invokevirtual 95, 75, 0, 0), none, none, some (.aload_n 2, 0, 0, 0), some (.invokevirtual 98, 121, 0, 0), none, none, some (.if_icmp .eq 177, 874, 0, 0), none, none, some (.iconst 0, 0, 0, 0), some (.ireturn, 1, 0, 0), some (.aload_n 1, 0, 0, 0), some (.aload_n 0, 0, 0, 0)],
  [some (.iload_n 3, 0, 0, 0), some (.iconst 1, 0, 0, 1), some (.iadd, 0, 0, 0), some (.iaload, 0, 0, 0), some (.invokevirtual 99, 76, 0, 0), none, none, some (.aload_n 2, 0, 0, 0), some (.aload_n 0, 0, 0, 0), some (.iload_n 3, 0, 0, 0), some (.iconst 1, 0, 0, 1), some (.iadd, 0, 0, 0), some (.iaload, 0, 0, 0), some (.invokevirtual 102, 127, 0, 0), none, none],
  [some (.if_icmp .eq 154, 874, 0, 0), none, none, some (.iconst 0, 0, 0, 0), some (.ireturn, 1, 0, 0), some (.aload_n 1, 0, 0, 0), some (.aload_n 0, 0, 0, 0), some (.iload_n 3, 0, 0, 0), some (.iconst 1, 0, 0, 1), some (.iadd, 0, 0, 0), some (.iaload, 0, 0, 0), some (.aload_n 0, 0, 0, 0), some (.iload_n 3, 0, 0, 0), some (.iconst 2, 0, 0, 2), some (.iadd, 0, 0, 0), some (.iaload, 0, 0, 0)],
  [some (.invokevirtual 103, 77, 0, 0), none, none, some (.aload_n 2, 0, 0, 0), some (.aload_n 0, 0, 0, 0), some (.iload_n 3, 0, 0, 0), some (.iconst 1, 0, 0, 1), some (.iadd, 0, 0, 0), some (.iaload, 0, 0, 0), some (.aload_n 0, 0, 0, 0), some (.iload_n 3, 0, 0, 0), some (.iconst 2, 0, 0, 2), some (.iadd, 0, 0, 0), some (.iaload, 0, 0, 0), some (.invokevirtual 106, 128, 0, 0), none],
  [none, some (.if_icmp .eq 121, 874, 0, 0), none, none, some (.iconst 0, 0, 0, 0), some (.ireturn, 1, 0, 0), some (.aload_n 1, 0, 0, 0), some (.aload_n 0, 0, 0, 0), some (.iload_n 3, 0, 0, 0), some (.iconst 1, 0, 0, 1), some (.iadd, 0, 0, 0), some (.iaload, 0, 0, 0), some (.aload_n 0, 0, 0, 0), some (.iload_n 3, 0, 0, 0), some (.iconst 2, 0, 0, 2), some (.iadd, 0, 0, 0)],
  [some (.iaload, 0, 0, 0), some (.aload_n 0, 0, 0, 0), some (.iload_n 3, 0, 0, 0), some (.iconst 3, 0, 0, 3), some (.iadd, 0, 0, 0), some (.iaload, 0, 0, 0), some (.ifCond .eq 7, 781, 0, 0), none, none, some (.iconst 1, 0, 0, 1), some (.goto 4, 782, 0, 0), none, none, some (.iconst 0, 0, 0, 0), some (.invokevirtual 107, 78, 0, 0), none],
  [none, some (.aload_n 2, 0, 0, 0), some (.aload_n 0, 0, 0, 0), some (.iload_n 3, 0, 0, 0), some (.iconst 1, 0, 0, 1), some (.iadd, 0, 0, 0), some (.iaload, 0, 0, 0), some (.aload_n 0, 0, 0, 0), some (.iload_n 3, 0, 0, 0), some (.iconst 2, 0, 0, 2), some (.iadd, 0, 0, 0), some (.iaload, 0, 0, 0), some (.aload_n 0, 0, 0, 0), some (.iload_n 3, 0, 0, 0), some (.iconst 3, 0, 0, 3), some (.iadd, 0, 0, 0)],
  [some (.iaload, 0, 0, 0), some (.ifCond .eq 7, 808, 0, 0), none, none, some (.iconst 1, 0, 0, 1), some (.goto 4, 809, 0, 0), none, none, some (.iconst 0, 0, 0, 0), some (.invokevirtual 111, 130, 0, 0), none, none, some (.lcmp, 0, 0, 0), some (.ifCond .eq 61, 874, 0, 0), none, none],
  [some (.iconst 0, 0, 0, 0), some (.ireturn, 1, 0, 0), some (.aload_n 1, 0, 0, 0), some (.aload_n 0, 0, 0, 0), some (.iload_n 3, 0, 0, 0), some (.iconst 1, 0, 0, 1), some (.iadd, 0, 0, 0), some (.iaload, 0, 0, 0), some (.aload_n 0, 0, 0, 0), some (.iload_n 3, 0, 0, 0), some (.iconst 2, 0, 0, 2), some (.iadd, 0, 0, 0), some (.iaload, 0, 0, 0), some (.invokevirtual 112, 79, 0, 0), none, none],
  [some (.aload_n 2, 0, 0, 0), some (.aload_n 0, 0, 0, 0), some (.iload_n 3, 0, 0, 0), some (.iconst 1, 0, 0, 1), some (.iadd, 0, 0, 0), some (.iaload, 0, 0, 0), some (.aload_n 0, 0, 0, 0), some (.iload_n 3, 0, 0, 0), some (.iconst 2, 0, 0, 2), some (.iadd, 0, 0, 0), some (.iaload, 0, 0, 0), some (.invokevirtual 115, 131, 0, 0), none, none, some (.if_icmp .eq 28, 874, 0, 0), none],
  [none, some (.iconst 0, 0, 0, 0), some (.ireturn, 1, 0, 0), some (.aload_n 1, 0, 0, 0), some (.aload_n 0, 0, 0, 0), some (.iload_n 3, 0, 0, 0), some (.iconst 1, 0, 0, 1), some (.iadd, 0, 0, 0), some (.iaload, 0, 0, 0), some (.invokevirtual 116, 80, 0, 0), none, none, some (.aload_n 2, 0, 0, 0), some (.aload_n 0, 0, 0, 0), some (.iload_n 3, 0, 0, 0), some (.iconst 1, 0, 0, 1)],
  [some (.iadd, 0, 0, 0), some (.iaload, 0, 0, 0), some (.invokevirtual 119, 132, 0, 0), none, none, some (.if_icmp .eq 5, 874, 0, 0), none, none, some (.iconst 0, 0, 0, 0), some (.ireturn, 1, 0, 0), some (.iinc 3 4, 0, 0, 0), none, none, some (.goto (-859), 18, 0, 0), none, none],
  [some (.iconst 1, 0, 0, 1), some (.ireturn, 1, 0, 0)]]
def pgs : List (List (List (List (Option mE)))) := [
  [mp_0, mp_1, mp_2, mp_3, mp_4, mp_5, mp_6, mp_7, mp_8, mp_9, mp_10, mp_11, mp_12, mp_13, mp_14, mp_15],
  [mp_16, mp_17, mp_18, mp_19, mp_20, mp_21, mp_22, mp_23, mp_24, mp_25, mp_26, mp_27, mp_28, mp_29, mp_30, mp_31],
  [mp_32, mp_33, mp_34, mp_35, mp_36, mp_37, mp_38, mp_39, mp_40, mp_41, mp_42, mp_43, mp_44, mp_45, mp_46, mp_47],
  [mp_48, mp_49, mp_50, mp_51, mp_52, mp_53, mp_54, mp_55, mp_56, mp_57, mp_58, mp_59, mp_60, mp_61, mp_62, mp_63],
  [mp_64, mp_65, mp_66, mp_67, mp_68, mp_69, mp_70, mp_71, mp_72, mp_73, mp_74, mp_75, mp_76, mp_77, mp_78, mp_79],
  [mp_80, mp_81, mp_82, mp_83, mp_84, mp_85, mp_86, mp_87, mp_88, mp_89, mp_90, mp_91, mp_92, mp_93, mp_94, mp_95],
  [mp_96, mp_97, mp_98, mp_99, mp_100, mp_101, mp_102, mp_103, mp_104, mp_105, mp_106, mp_107, mp_108, mp_109, mp_110, mp_111],
  [mp_112, mp_113, mp_114, mp_115, mp_116, mp_117, mp_118, mp_119, mp_120, mp_121, mp_122, mp_123, mp_124, mp_125, mp_126, mp_127],
  [mp_128, mp_129, mp_130, mp_131, mp_132, mp_133]]
def mGrid {α : Type} (l : List (List (Option α))) (pc : Nat) : Option α := match mNth l (pc / 16) with
  | some r => match mNth r (pc % 16) with
    | some e => e
    | none => none
  | none => none
def mCode (m : Nat) : List (List (Option mE)) := match mNth pgs (m / 16) with
  | some r => match mNth r (m % 16) with
    | some c => c
    | none => []
  | none => []
def pg (m pc : Nat) : Option mE := mGrid (mCode m) pc
/-- the class of each object -/
def cOs : List Nat := [8, 6, 6, 2, 4, 1, 2, 3, 0, 7, 5, 9]
def cO (o : Nat) : Nat := (mNth cOs o).getD 99
/-- the kinds of the fields: 0 int, 1 long, 2 array, 3 object -/
def fKs : List (List Nat) := [[2], [2, 3], [2, 0], [2, 2, 1], [2, 2, 0], [2, 0], [2], [2, 2, 2, 0, 0, 0, 0], [2, 3, 3, 3, 3, 3, 3, 3, 3, 3, 0], [0, 0, 2, 2, 2, 2, 2, 2, 2, 2, 2, 2, 2, 2, 0, 2]]
def fK (c k : Nat) : Nat := (mNth ((mNth fKs c).getD []) k).getD 99
def sOs : List (List Nat) := [[0, 1, 2, 3, 4, 5, 7, 8, 9, 10, 0], [0], [0], [0, 0], [0, 0, 0], [0, 6], [0, 0], [0, 0, 0], [0], [0, 0, 0, 0, 0, 0, 0], [0, 0], [0, 0, 0, 0, 0, 0, 0, 0, 0, 0, 0, 0, 0, 0, 0, 0]]
def sO (o k : Nat) : Nat := (mNth ((mNth sOs o).getD []) k).getD 99
def aNs : List (List Nat) := [[8, 0, 0, 0, 0, 0, 0, 0, 0, 0, 0], [64], [64], [8, 0], [8, 8, 0], [256, 0], [8, 0], [8, 8, 0], [8], [8, 8, 8, 0, 0, 0, 0], [8, 0], [0, 0, 8, 64, 64, 8, 256, 64, 8, 8, 9, 8, 8, 8, 0, 8]]
def aN (a : Nat) : Nat := (mNth ((mNth aNs (a / 16)).getD []) (a % 16)).getD 0
def aKs : List (List Nat) := [[0, 9, 9, 9, 9, 9, 9, 9, 9, 9, 9], [0], [0], [0, 9], [0, 0, 9], [0, 9], [0, 9], [1, 0, 9], [0], [0, 0, 0, 9, 9, 9, 9], [0, 9], [9, 9, 0, 0, 0, 0, 0, 2, 0, 1, 1, 0, 0, 0, 9, 1]]
def aK (a : Nat) : Nat := if a = 999 then 0 else (mNth ((mNth aKs (a / 16)).getD []) (a % 16)).getD 9
def mAs : List (List Nat) := [[2, 2, 2, 2, 3, 3, 4, 2, 1, 1, 2, 2, 1, 2, 2, 1], [2, 2, 2, 3, 2, 2, 1, 4, 2, 2, 4, 1, 3, 2, 3, 3], [4, 4, 5, 1, 2, 4, 5, 3, 3, 4, 1, 1, 4, 4, 3, 3], [3, 1, 2, 3, 3, 2, 3, 3, 2, 3, 4, 3, 3, 1, 2, 1], [2, 3, 2, 3, 1, 1, 3, 4, 2, 3, 2, 1, 2, 3, 4, 3], [2, 2, 1, 1, 1, 3, 2, 2, 3, 2, 3, 2, 3, 4, 3, 1], [3, 3, 2, 1, 1, 2, 3, 1, 1, 1, 2, 3, 2, 1, 3, 1], [1, 2, 3, 4, 3, 2, 3, 1, 2, 1, 1, 2, 1, 2, 2, 2], [3, 2, 4, 3, 2, 1]]
def mSs : List (List Bool) := [[true, true, true, true, false, false, false, false, false, false, true, false, false, false, false, false], [false, false, false, false, false, false, false, false, false, false, false, false, false, false, false, false], [false, false, false, false, false, false, true, false, false, false, false, false, false, false, false, false], [false, false, false, false, false, false, false, false, false, false, false, false, false, false, false, false], [false, false, false, false, false, false, false, false, false, false, false, false, false, false, false, false], [false, false, true, true, false, true, true, true, true, false, true, false, false, false, false, false], [false, false, false, false, false, false, false, false, false, false, false, false, false, false, false, false], [false, false, false, false, false, false, false, false, false, false, false, false, false, false, false, false], [false, false, false, false, false, true]]
def mKs : List (List Nat) := [[10, 10, 11, 11, 6, 6, 6, 6, 6, 6, 6, 2, 2, 2, 2, 2], [2, 2, 2, 2, 2, 0, 0, 0, 5, 5, 5, 5, 5, 5, 1, 1], [1, 1, 1, 7, 7, 7, 7, 7, 7, 7, 3, 3, 3, 3, 3, 3], [4, 4, 4, 4, 4, 4, 4, 4, 8, 8, 8, 8, 8, 8, 8, 8], [8, 8, 8, 8, 8, 8, 8, 8, 8, 8, 8, 8, 8, 8, 8, 8], [8, 8, 8, 8, 8, 8, 8, 8, 9, 9, 9, 9, 9, 9, 9, 9], [9, 9, 9, 9, 9, 9, 9, 9, 9, 9, 9, 9, 9, 9, 9, 9], [9, 9, 9, 9, 9, 9, 9, 9, 9, 9, 9, 9, 9, 9, 9, 9], [9, 9, 9, 9, 9, 12]]
def mWs : List (List Nat) := [[2, 2, 5, 4, 3, 3, 6, 4, 6, 6, 2, 2, 1, 2, 3, 1], [2, 3, 3, 4, 5, 2, 6, 8, 2, 7, 6, 4, 5, 2, 5, 6], [6, 5, 7, 1, 2, 4, 7, 3, 3, 6, 8, 1, 5, 11, 6, 4], [3, 1, 2, 3, 5, 6, 5, 5, 3, 4, 4, 3, 3, 1, 2, 1], [2, 6, 2, 3, 1, 1, 3, 4, 2, 3, 2, 1, 2, 3, 4, 4], [2, 2, 1, 1, 6, 7, 11, 2, 6, 2, 11, 3, 4, 5, 3, 4], [3, 3, 5, 5, 1, 2, 5, 5, 5, 1, 2, 6, 2, 4, 4, 2], [1, 4, 3, 6, 11, 2, 3, 6, 2, 1, 4, 6, 3, 4, 7, 2], [3, 7, 4, 5, 7, 4]]
def mTab {α : Type} (l : List (List α)) (d : α) (m : Nat) : α := (mNth ((mNth l (m / 16)).getD []) (m % 16)).getD d
def mA (m : Nat) : Nat := mTab mAs 0 m
def mS (m : Nat) : Bool := mTab mSs false m
def mK (m : Nat) : Nat := mTab mKs 99 m
def mW (m : Nat) : Nat := mTab mWs 0 m
def mN : Nat := 134
end
section
/-! THE SMALL MACHINE: a pure picture of the class's own instructions over whole numbers; part 06 says that the machine follows it. -/
abbrev vI (z : Int) : mV := .inl z
abbrev vL (z : Int) : mV := .inr (.inl z)
abbrev vO (o : Nat) : mV := .inr (.inr (.inl o))
abbrev vA (a : Nat) : mV := .inr (.inr (.inr a))
abbrev mH : Type := (Nat → Int) × (Nat → Nat → Int)
abbrev mL : Type := List (Option mV)
abbrev mC : Type := Nat × mL × List mV × mH
def m2 : mV → Bool
  | .inr (.inl _) => true
  | _ => false
def mSet {α : Type} : List α → Nat → α → List α
  | [], _, _ => []
  | _ :: l, 0, x => x :: l
  | a :: l, n + 1, x => a :: mSet l n x
def mLt {α : Type} : List α → Nat → Bool
  | [], _ => false
  | _ :: _, 0 => true
  | _ :: l, n + 1 => mLt l n
/-- the local behind which a long ends before i is no more -/
def mCut : mL → Nat → mL
  | L, 0 => L
  | L, i + 1 => match mNth L i with
    | some (some (.inr (.inl _))) => mSet L i none
    | _ => L
def mPut (L : mL) (i : Nat) (v : mV) : mL := match v with
  | .inr (.inl z) => mSet (mSet (mCut L i) i (some (vL z))) (i + 1) none
  | v => mSet (mCut L i) i (some v)
def mCat : List mV → Nat
  | [] => 0
  | .inr (.inl _) :: l => mCat l + 2
  | _ :: l => mCat l + 1
def mFlat : List mV → mL
  | [] => []
  | .inr (.inl z) :: l => some (vL z) :: none :: mFlat l
  | v :: l => some v :: mFlat l
def mPad : Nat → mL → mL
  | 0, L => L
  | n + 1, [] => none :: mPad n []
  | n + 1, a :: L => a :: mPad n L
def mTake : Nat → List mV → List mV → Option (List mV × List mV)
  | 0, acc, S => some (acc, S)
  | _ + 1, _, [] => none
  | n + 1, acc, v :: S => mTake n (v :: acc) S
def mPush : Option mV → List mV → List mV
  | none, S => S
  | some v, S => v :: S
abbrev inR (z : Int) : Prop := -2147483648 ≤ z ∧ z < 2147483648
abbrev inL (z : Int) : Prop := -9223372036854775808 ≤ z ∧ z < 9223372036854775808
def jI (z : Int) : Int32 := Int32.ofInt z
def jL (z : Int) : Int64 := Int64.ofInt z
def bAnd (x y : Int) : Int := (jI x &&& jI y).toInt
def bOr (x y : Int) : Int := (jI x ||| jI y).toInt
def bXor (x y : Int) : Int := (jI x ^^^ jI y).toInt
def bShl (x y : Int) : Int := (jI x <<< (jI y &&& 31)).toInt
def bShr (x y : Int) : Int := (jI x >>> (jI y &&& 31)).toInt
def sgn (x y : Int) : Int := if x < y then -1 else if x = y then 0 else 1
def up {α : Type} (f : Nat → α) (k : Nat) (x : α) : Nat → α := fun i => if i = k then x else f i
def cpy (f g : Nat → Int) (sp dp n : Nat) : Nat → Int := fun k => if dp ≤ k ∧ k < dp + n then f (sp + (k - dp)) else g k
def holds : ClassFile.Cond → Int → Int → Prop
  | .eq, x, y => x = y
  | .ne, x, y => x ≠ y
  | .lt, x, y => x < y
  | .ge, x, y => y ≤ x
  | .gt, x, y => y < x
  | .le, x, y => x ≤ y
/-- a step; a branch; a call; an end -/
abbrev mR : Type := Option ((Option Prop × mC) ⊕ (Prop × Prop × Nat × Nat × mL × List mV × mH) ⊕ (Option Prop × Nat × List mV × Nat × mL × List mV × mH) ⊕ (Option Prop × Option mV × mH))
abbrev rS (g : Prop) (pc : Nat) (L : mL) (S : List mV) (h : mH) : mR := some (.inl (some g, pc, L, S, h))
abbrev rT (pc : Nat) (L : mL) (S : List mV) (h : mH) : mR := some (.inl (none, pc, L, S, h))
def gd (g : Option Prop) (X : Prop) : Prop := match g with
  | none => X
  | some g => g ∧ X
theorem gd_imp {g : Option Prop} {X Y : Prop} (h : gd g X) (k : X → Y) : gd g Y := by
  cases g with
  | none => exact k h
  | some g => exact ⟨h.1, k h.2⟩
theorem gd_out {g : Option Prop} {X : Prop} (h : gd g X) : X := by
  cases g with
  | none => exact h
  | some g => exact h.2
abbrev rB (g c : Prop) (p q : Nat) (L : mL) (S : List mV) (h : mH) : mR := some (.inr (.inl (g, c, p, q, L, S, h)))
abbrev rC (g : Option Prop) (m : Nat) (a : List mV) (pc : Nat) (L : mL) (S : List mV) (h : mH) : mR := some (.inr (.inr (.inl (g, m, a, pc, L, S, h))))
abbrev rE (g : Option Prop) (v : Option mV) (h : mH) : mR := some (.inr (.inr (.inr (g, v, h))))
/-! cO: the class of an object; fK: the kind of a class's field (0 int, 1 long, 2 array, 3 object); sO: the object that a field holds; aN: an array's length, aK: its kind (0 int, 1 long, 2 boolean); mA: how many arguments a method takes (with its receiver); mS: whether it is static; mK: its class; mW: its locals; 999: the script -/
def mLen (h : mH) (a : Nat) : Int := if a = 999 then h.1 999 else (aN a : Int)
def mLoad (pc : Nat) (L : mL) (S : List mV) (h : mH) (i : Nat) (k : Nat) : mR := match mNth L i, k with
  | some (some (.inl z)), 0 => rT pc L (vI z :: S) h
  | some (some (.inr (.inl z))), 1 => rT pc L (vL z :: S) h
  | some (some (.inr (.inr (.inl o)))), 2 => rT pc L (vO o :: S) h
  | some (some (.inr (.inr (.inr a)))), 2 => rT pc L (vA a :: S) h
  | _, _ => none
def mStore (pc : Nat) (L : mL) (S : List mV) (h : mH) (i : Nat) (k : Nat) : mR := match S, k, mLt L i, mLt L (i + 1) with
  | .inl z :: S, 0, true, _ => rT pc (mPut L i (vI z)) S h
  | .inr (.inl z) :: S, 1, _, true => rT pc (mPut L i (vL z)) S h
  | .inr (.inr (.inl o)) :: S, 2, true, _ => rT pc (mPut L i (vO o)) S h
  | .inr (.inr (.inr a)) :: S, 2, true, _ => rT pc (mPut L i (vA a)) S h
  | _, _, _, _ => none
def mGet (g : Prop) (pc : Nat) (L : mL) (S : List mV) (h : mH) (k : Nat) (o f : Nat) : mR := match k with
  | 0 => rS g pc L (vI (h.1 (16 * o + f)) :: S) h
  | 1 => rS g pc L (vL (h.1 (16 * o + f)) :: S) h
  | 2 => rS g pc L (vA (16 * o + f) :: S) h
  | _ => rS g pc L (vO (sO o f) :: S) h
def mPutf (g : Prop) (pc : Nat) (L : mL) (S : List mV) (h : mH) (k : Nat) (v : mV) (o f : Nat) : mR := match v, k with
  | .inl z, 0 => rS g pc L S (up h.1 (16 * o + f) z, h.2)
  | .inr (.inl z), 1 => rS g pc L S (up h.1 (16 * o + f) z, h.2)
  | _, _ => none
def mCall (pc : Nat) (L : mL) (S : List mV) (h : mH) (m : Nat) (st : Bool) : mR := match mTake (mA m) [] S with
  | some (args, rest) => match Nat.ble (mCat rest) 8, Nat.ble (mFlat args).length (mW m) with
    | true, true => match st, mS m, args with
      | true, true, args => rC none m args (pc + 3) L rest h
      | false, false, .inr (.inr (.inl o)) :: args => rC (some (cO o = mK m)) m (vO o :: args) (pc + 3) L rest h
      | _, _, _ => none
    | _, _ => none
  | none => none
def stp (e : mE) (pc : Nat) (L : mL) (S : List mV) (h : mH) : mR := match e.1 with
  | .aload i => mLoad (pc + 2) L S h i 2
  | .aload_n i => mLoad (pc + 1) L S h i.val 2
  | .iload i => mLoad (pc + 2) L S h i 0
  | .iload_n i => mLoad (pc + 1) L S h i.val 0
  | .lload i => mLoad (pc + 2) L S h i 1
  | .lload_n i => mLoad (pc + 1) L S h i.val 1
  | .astore i => mStore (pc + 2) L S h i 2
  | .astore_n i => mStore (pc + 1) L S h i.val 2
  | .istore i => mStore (pc + 2) L S h i 0
  | .istore_n i => mStore (pc + 1) L S h i.val 0
  | .lstore i => mStore (pc + 2) L S h i 1
  | .lstore_n i => mStore (pc + 1) L S h i.val 1
  | .iconst _ => rT (pc + 1) L (vI e.2.2.2 :: S) h
  | .bipush _ => rT (pc + 2) L (vI e.2.2.2 :: S) h
  | .sipush _ => rT (pc + 3) L (vI e.2.2.2 :: S) h
  | .ldc _ => rT (pc + 2) L (vI e.2.2.2 :: S) h
  | .ldc2_w _ => rT (pc + 3) L (vL e.2.2.2 :: S) h
  | .lconst _ => rT (pc + 1) L (vL e.2.2.2 :: S) h
  | .iadd => match S with
    | .inl y :: .inl x :: S => rT (pc + 1) L (vI (x + y) :: S) h
    | _ => none
  | .isub => match S with
    | .inl y :: .inl x :: S => rT (pc + 1) L (vI (x - y) :: S) h
    | _ => none
  | .imul => match S with
    | .inl y :: .inl x :: S => rT (pc + 1) L (vI (x * y) :: S) h
    | _ => none
  | .idiv => match S with
    | .inl y :: .inl x :: S => rS (inR x ∧ inR y ∧ 0 < y) (pc + 1) L (vI (x.tdiv y) :: S) h
    | _ => none
  | .iand => match S with
    | .inl y :: .inl x :: S => rT (pc + 1) L (vI (bAnd x y) :: S) h
    | _ => none
  | .ior => match S with
    | .inl y :: .inl x :: S => rT (pc + 1) L (vI (bOr x y) :: S) h
    | _ => none
  | .ixor => match S with
    | .inl y :: .inl x :: S => rT (pc + 1) L (vI (bXor x y) :: S) h
    | _ => none
  | .ishl => match S with
    | .inl y :: .inl x :: S => rT (pc + 1) L (vI (bShl x y) :: S) h
    | _ => none
  | .ishr => match S with
    | .inl y :: .inl x :: S => rT (pc + 1) L (vI (bShr x y) :: S) h
    | _ => none
  | .i2l => match S with
    | .inl x :: S => rS (inR x) (pc + 1) L (vL x :: S) h
    | _ => none
  | .ladd => match S with
    | .inr (.inl y) :: .inr (.inl x) :: S => rT (pc + 1) L (vL (x + y) :: S) h
    | _ => none
  | .lmul => match S with
    | .inr (.inl y) :: .inr (.inl x) :: S => rT (pc + 1) L (vL (x * y) :: S) h
    | _ => none
  | .ldiv => match S with
    | .inr (.inl y) :: .inr (.inl x) :: S => rS (inL x ∧ inL y ∧ 0 < y) (pc + 1) L (vL (x.tdiv y) :: S) h
    | _ => none
  | .lrem => match S with
    | .inr (.inl y) :: .inr (.inl x) :: S => rS (inL x ∧ inL y ∧ 0 < y) (pc + 1) L (vL (x.tmod y) :: S) h
    | _ => none
  | .lcmp => match S with
    | .inr (.inl y) :: .inr (.inl x) :: S => rS (inL x ∧ inL y) (pc + 1) L (vI (sgn x y) :: S) h
    | _ => none
  | .iinc i n => match mNth L i, mLt L i with
    | some (some (.inl x)), true => rT (pc + 3) (mPut L i (vI (x + n))) S h
    | _, _ => none
  | .ifCond c _ => match S with
    | .inl x :: S => rB (inR x) (holds c x 0) e.2.1 (pc + 3) L S h
    | _ => none
  | .if_icmp c _ => match S with
    | .inl y :: .inl x :: S => rB (inR x ∧ inR y) (holds c x y) e.2.1 (pc + 3) L S h
    | _ => none
  | .goto _ => rT e.2.1 L S h
  | .tableswitch d lo hi offs => match S with
    | .inl x :: S => rB (inR x ∧ inR lo ∧ inR hi) (x < lo ∨ hi < x) e.2.1 ((pc : Int) + (offs.toList.getD (x - lo).toNat 0)).toNat L S h
    | _ => none
  | .getfield _ => match S with
    | .inr (.inr (.inl o)) :: S => mGet (cO o = e.2.1) (pc + 3) L S h (fK e.2.1 e.2.2.1) o e.2.2.1
    | _ => none
  | .putfield _ => match S with
    | v :: .inr (.inr (.inl o)) :: S => mPutf (cO o = e.2.1) (pc + 3) L S h (fK e.2.1 e.2.2.1) v o e.2.2.1
    | _ => none
  | .iaload => match S with
    | .inl i :: .inr (.inr (.inr a)) :: S => rS (aK a = 0 ∧ 0 ≤ i ∧ i < mLen h a) (pc + 1) L (vI (h.2 a i.toNat) :: S) h
    | _ => none
  | .laload => match S with
    | .inl i :: .inr (.inr (.inr a)) :: S => rS (aK a = 1 ∧ 0 ≤ i ∧ i < mLen h a) (pc + 1) L (vL (h.2 a i.toNat) :: S) h
    | _ => none
  | .baload => match S with
    | .inl i :: .inr (.inr (.inr a)) :: S => rS (aK a = 2 ∧ 0 ≤ i ∧ i < mLen h a) (pc + 1) L (vI (h.2 a i.toNat) :: S) h
    | _ => none
  | .iastore => match S with
    | .inl v :: .inl i :: .inr (.inr (.inr a)) :: S => rS (aK a = 0 ∧ a ≠ 999 ∧ 0 ≤ i ∧ i < mLen h a) (pc + 1) L S (h.1, up h.2 a (up (h.2 a) i.toNat v))
    | _ => none
  | .lastore => match S with
    | .inr (.inl v) :: .inl i :: .inr (.inr (.inr a)) :: S => rS (aK a = 1 ∧ a ≠ 999 ∧ 0 ≤ i ∧ i < mLen h a) (pc + 1) L S (h.1, up h.2 a (up (h.2 a) i.toNat v))
    | _ => none
  | .bastore => match S with
    | .inl v :: .inl i :: .inr (.inr (.inr a)) :: S => rS (aK a = 2 ∧ a ≠ 999 ∧ 0 ≤ i ∧ i < mLen h a ∧ 0 ≤ v ∧ v ≤ 1) (pc + 1) L S (h.1, up h.2 a (up (h.2 a) i.toNat v))
    | _ => none
  | .arraylength => match S with
    | .inr (.inr (.inr a)) :: S => rS (aK a ≤ 2) (pc + 1) L (vI (mLen h a) :: S) h
    | _ => none
  | .dup => match S with
    | .inl x :: S => rT (pc + 1) L (vI x :: vI x :: S) h
    | .inr (.inr v) :: S => rT (pc + 1) L (.inr (.inr v) :: .inr (.inr v) :: S) h
    | _ => none
  | .pop => match S with
    | .inl _ :: S => rT (pc + 1) L S h
    | .inr (.inr _) :: S => rT (pc + 1) L S h
    | _ => none
  | .dup2 => match S with
    | .inl x :: .inr (.inr v) :: S => rT (pc + 1) L (vI x :: .inr (.inr v) :: vI x :: .inr (.inr v) :: S) h
    | _ => none
  | .invokevirtual _ => mCall pc L S h e.2.1 false
  | .invokestatic _ => match e.2.1 with
    | 900 => match S with
      | .inl n :: .inl dp :: .inr (.inr (.inr b)) :: .inl sp :: .inr (.inr (.inr a)) :: [] => rS (aK a = 0 ∧ a ≠ 999 ∧ aK b = 0 ∧ b ≠ 999 ∧ 0 ≤ n ∧ 0 ≤ sp ∧ 0 ≤ dp ∧ sp + n ≤ aN a ∧ dp + n ≤ aN b) (pc + 3) L [] (h.1, up h.2 b (cpy (h.2 a) (h.2 b) sp.toNat dp.toNat n.toNat))
      | _ => none
    | 901 => match S with
      | .inl y :: .inl x :: S => rS (inR x ∧ inR y ∧ mCat S ≤ 8) (pc + 3) L (vI (if x < y then y else x) :: S) h
      | _ => none
    | 902 => match S with
      | .inl y :: .inl x :: S => rS (inR x ∧ inR y ∧ mCat S ≤ 8) (pc + 3) L (vI (if y < x then y else x) :: S) h
      | _ => none
    | m => mCall pc L S h m true
  | .ireturn => match S, e.2.1 with
    | .inl x :: [], 0 => rE none (some (vI x)) h
    | .inl x :: [], _ => rE (some (0 ≤ x ∧ x ≤ 1)) (some (vI x)) h
    | _, _ => none
  | .lreturn => match S with
    | .inr (.inl x) :: [] => rE none (some (vL x)) h
    | _ => none
  | .areturn => match S with
    | .inr (.inr x) :: [] => rE none (some (.inr (.inr x))) h
    | _ => none
  | .return_ => match S with
    | [] => rE none none h
    | _ => none
  | _ => none
def mIn (m : Nat) (args : List mV) : mL := mPad (mW m) (mFlat args)
def run : Nat → Nat → Nat → mC → Option mV → mH → Prop
  | 0, _, _, _, _, _ => False
  | n + 1, d, m, c, r, t => match pg m c.1 with
    | none => False
    | some e => match stp e c.1 c.2.1 c.2.2.1 c.2.2.2 with
      | none => False
      | some (.inl (g, c2)) => gd g (run n d m c2 r t)
      | some (.inr (.inl (g, k, p, q, L, S, h))) => g ∧ ((k ∧ run n d m (p, L, S, h) r t) ∨ (¬ k ∧ run n d m (q, L, S, h) r t))
      | some (.inr (.inr (.inl (g, k, a, pc, L, S, h)))) => gd g (match d with
        | 0 => False
        | d2 + 1 => ∃ (r1 : Option mV) (h1 : mH), run n d2 k (0, mIn k a, [], h) r1 h1 ∧ run n d m (pc, L, mPush r1 S, h1) r t)
      | some (.inr (.inr (.inr (g, v, h)))) => gd g (r = v ∧ t = h)
theorem run_up : ∀ (n d m : Nat) (c : mC) (r : Option mV) (t : mH), run n d m c r t → run (n + 1) d m c r t := by
  intro n
  induction n with
  | zero => intro d m c r t h; exact h.elim
  | succ n ih =>
    intro d m c r t h
    unfold run at h
    unfold run
    split at h
    next => exact h.elim
    next e he =>
      split at h
      next => exact h.elim
      next => exact gd_imp h (ih _ _ _ _ _)
      next => exact ⟨h.1, h.2.elim (fun q => Or.inl ⟨q.1, ih _ _ _ _ _ q.2⟩) (fun q => Or.inr ⟨q.1, ih _ _ _ _ _ q.2⟩)⟩
      next =>
        refine gd_imp h (fun h2 => ?_)
        cases d with
        | zero => exact h2.elim
        | succ d =>
          obtain ⟨r1, h1, a, b⟩ := h2
          exact ⟨r1, h1, ih _ _ _ _ _ a, ih _ _ _ _ _ b⟩
      next => exact h
theorem run_le {n n2 : Nat} (h : n ≤ n2) {d m : Nat} {c : mC} {r : Option mV} {t : mH} (k : run n d m c r t) : run n2 d m c r t := by
  induction h with
  | refl => exact k
  | step _ ih => exact run_up _ _ _ _ _ _ ih
/-- it comes to an end at which Q holds, with calls at most d deep -/
def Ev (d m : Nat) (c : mC) (Q : Option mV → mH → Prop) : Prop := ∃ (n : Nat) (r : Option mV) (t : mH), run n d m c r t ∧ Q r t
def isAt (ps : List Nat) (pc : Nat) : Bool := match ps with
  | [] => false
  | p :: ps => Nat.beq p pc || isAt ps pc
/-- what must hold at a place, looked up to the next of the places ps (and calls) -/
def wp : Nat → Nat → Nat → List Nat → Nat → mL → List mV → mH → (Option mV → mH → Prop) → Prop
  | 0, d, m, _, pc, L, S, h, Q => Ev d m (pc, L, S, h) Q
  | n + 1, d, m, ps, pc, L, S, h, Q => match pg m pc with
    | none => False
    | some e => match stp e pc L S h with
      | none => False
      | some (.inl (g, pc, L, S, h)) => gd g (match isAt ps pc with
        | true => Ev d m (pc, L, S, h) Q
        | false => wp n d m ps pc L S h Q)
      | some (.inr (.inl (g, k, p, q, L, S, h))) => g ∧ (k → (match isAt ps p with
        | true => Ev d m (p, L, S, h) Q
        | false => wp n d m ps p L S h Q)) ∧ (¬ k → (match isAt ps q with
        | true => Ev d m (q, L, S, h) Q
        | false => wp n d m ps q L S h Q))
      | some (.inr (.inr (.inl (g, k, a, pc, L, S, h)))) => gd g (match d with
        | 0 => False
        | d2 + 1 => Ev d2 k (0, mIn k a, [], h) (fun r1 h1 => Ev d m (pc, L, mPush r1 S, h1) Q))
      | some (.inr (.inr (.inr (g, v, h)))) => gd g (Q v h)
theorem Ev.mono {d m : Nat} {c : mC} {Q Q2 : Option mV → mH → Prop} (h : Ev d m c Q) (k : ∀ r t, Q r t → Q2 r t) : Ev d m c Q2 := by
  obtain ⟨n, r, t, a, b⟩ := h
  exact ⟨n, r, t, a, k _ _ b⟩
theorem wp_ok : ∀ (n d m : Nat) (ps : List Nat) (pc : Nat) (L : mL) (S : List mV) (h : mH) (Q : Option mV → mH → Prop), wp n d m ps pc L S h Q → Ev d m (pc, L, S, h) Q := by
  intro n
  induction n with
  | zero => intro d m ps pc L S h Q k; exact k
  | succ n ih =>
    intro d m ps pc L S h Q k
    have pick : ∀ (pc : Nat) (L : mL) (S : List mV) (h : mH), (match isAt ps pc with
        | true => Ev d m (pc, L, S, h) Q
        | false => wp n d m ps pc L S h Q) → Ev d m (pc, L, S, h) Q := by
      intro pc L S h k
      split at k
      next => exact k
      next => exact ih _ _ _ _ _ _ _ _ k
    unfold wp at k
    have one : ∀ (j : Nat) (r : Option mV) (t : mH), run (j + 1) d m (pc, L, S, h) r t → Q r t → Ev d m (pc, L, S, h) Q := fun j r t a b => ⟨j + 1, r, t, a, b⟩
    unfold run at one
    dsimp only at one
    split at k
    next => exact k.elim
    next e he =>
      rw [he] at one
      dsimp only at one
      split at k
      next => exact k.elim
      next hs =>
        rw [hs] at one
        obtain ⟨j, r, t, a, b⟩ := pick _ _ _ _ (gd_out k)
        exact one j r t (gd_imp k (fun _ => a)) b
      next hs =>
        rw [hs] at one
        rename_i g kk p q L S hh
        rcases Classical.em kk with z | z
        · obtain ⟨j, r, t, a, b⟩ := pick _ _ _ _ (k.2.1 z)
          exact one j r t ⟨k.1, Or.inl ⟨z, a⟩⟩ b
        · obtain ⟨j, r, t, a, b⟩ := pick _ _ _ _ (k.2.2 z)
          exact one j r t ⟨k.1, Or.inr ⟨z, a⟩⟩ b
      next hs =>
        rw [hs] at one
        have h2 := gd_out k
        cases d with
        | zero => exact h2.elim
        | succ d =>
          obtain ⟨j, r, t, a, k2, r2, t2, a2, b2⟩ := h2
          exact one (j + k2) r2 t2 (gd_imp k (fun _ => ⟨r, t, run_le (Nat.le_add_right _ _) a, run_le (Nat.le_add_left _ _) a2⟩)) b2
      next hs =>
        rw [hs] at one
        exact one 0 _ _ (gd_imp k (fun _ => ⟨rfl, rfl⟩)) (gd_out k)
end
section
/-! whole numbers for the machine's own -/
theorem jI_in {z : Int} (h : inR z) : (jI z).toInt = z := Int32.toInt_ofInt_of_le (by have := h.1; omega) (by have := h.2; omega)
theorem jL_in {z : Int} (h : inL z) : (jL z).toInt = z := Int64.toInt_ofInt_of_le (by have := h.1; omega) (by have := h.2; omega)
theorem jI_add (x y : Int) : jI (x + y) = jI x + jI y := Int32.ofInt_add x y
theorem jI_sub (x y : Int) : jI (x - y) = jI x - jI y := Int32.ofInt_sub x y
theorem jI_mul (x y : Int) : jI (x * y) = jI x * jI y := Int32.ofInt_mul x y
theorem jL_add (x y : Int) : jL (x + y) = jL x + jL y := Int64.ofInt_add x y
theorem jL_sub (x y : Int) : jL (x - y) = jL x - jL y := Int64.ofInt_sub x y
theorem jL_mul (x y : Int) : jL (x * y) = jL x * jL y := Int64.ofInt_mul x y
theorem jI_div {x y : Int} (hx : inR x) (hy : inR y) : jI (x.tdiv y) = jI x / jI y := Int32.ofInt_tdiv (by have := hx.1; rw [Int32.toInt_minValue]; omega) (by have := hx.2; rw [Int32.toInt_maxValue]; omega) (by have := hy.1; rw [Int32.toInt_minValue]; omega) (by have := hy.2; rw [Int32.toInt_maxValue]; omega)
theorem jL_div {x y : Int} (hx : inL x) (hy : inL y) : jL (x.tdiv y) = jL x / jL y := Int64.ofInt_tdiv (by have := hx.1; rw [Int64.toInt_minValue]; omega) (by have := hx.2; rw [Int64.toInt_maxValue]; omega) (by have := hy.1; rw [Int64.toInt_minValue]; omega) (by have := hy.2; rw [Int64.toInt_maxValue]; omega)
theorem jL_rem {x y : Int} (hx : inL x) (hy : inL y) : jL (x.tmod y) = jL x - jL x / jL y * jL y := by
  rw [← jL_div hx hy, ← jL_mul, ← jL_sub]
  congr 1
  rw [Int.tmod_def, Int.mul_comm]
theorem jI_eq {x y : Int} (hx : inR x) (hy : inR y) : jI x = jI y ↔ x = y := by
  rw [← Int32.toInt_inj, jI_in hx, jI_in hy]
theorem jI_lt {x y : Int} (hx : inR x) (hy : inR y) : jI x < jI y ↔ x < y := by
  rw [Int32.lt_iff_toInt_lt, jI_in hx, jI_in hy]
theorem jI_le {x y : Int} (hx : inR x) (hy : inR y) : jI x ≤ jI y ↔ x ≤ y := by
  rw [Int32.le_iff_toInt_le, jI_in hx, jI_in hy]
theorem jL_eq {x y : Int} (hx : inL x) (hy : inL y) : jL x = jL y ↔ x = y := by
  rw [← Int64.toInt_inj, jL_in hx, jL_in hy]
theorem jL_lt {x y : Int} (hx : inL x) (hy : inL y) : jL x < jL y ↔ x < y := by
  rw [Int64.lt_iff_toInt_lt, jL_in hx, jL_in hy]
theorem jI_0 : jI 0 = 0 := rfl
theorem inR0 : inR 0 := by omega
theorem jI_nat {i : Int} (h0 : 0 ≤ i) (h : inR i) : (jI i).toNatClampNeg = i.toNat := Int32.toNatClampNeg_ofInt_of_le (by omega) (by have := h.2; omega)
theorem jI_vin {i : Int} {n : Nat} (h0 : 0 ≤ i) (h : i < n) (hn : n < 2147483648) : vp_in (jI i) n := by
  have hi : inR i := ⟨by omega, by omega⟩
  intro q
  rcases q with q | q
  · rw [← jI_0, jI_lt hi inR0] at q
    omega
  · rw [jI_nat h0 hi] at q
    omega
theorem jL_ne0 {y : Int} (h : inL y) (h0 : 0 < y) : ¬ jL y = 0 := by
  intro q
  have := (jL_eq h (show inL 0 by omega)).mp q
  omega
theorem jI_ne0 {y : Int} (h : inR y) (h0 : 0 < y) : ¬ jI y = 0 := by
  intro q
  have := (jI_eq h inR0).mp q
  omega
theorem jI_i2l {x : Int} (h : inR x) : (jI x).toInt64 = jL x := by
  rw [← Int64.ofInt_int32ToInt, jI_in h]
  rfl
theorem jI_cmp {x y : Int} (hx : inL x) (hy : inL y) : lg_cmp (jL x) (jL y) = jI (sgn x y) := by
  unfold lg_cmp sgn
  by_cases h1 : x < y
  · rw [if_neg, if_neg, if_pos h1]
    · rfl
    · rw [jL_eq hx hy]; omega
    · rw [gt_iff_lt, jL_lt hy hx]; omega
  · by_cases h2 : x = y
    · subst h2
      rw [if_neg, if_pos rfl, if_neg h1, if_pos rfl]
      · rfl
      · rw [gt_iff_lt, jL_lt hy hx]; omega
    · rw [if_pos, if_neg h1, if_neg h2]
      · rfl
      · rw [gt_iff_lt, jL_lt hy hx]; omega
theorem jI_and (x y : Int) : jI (bAnd x y) = jI x &&& jI y := Int32.ofInt_toInt _
theorem jI_or (x y : Int) : jI (bOr x y) = jI x ||| jI y := Int32.ofInt_toInt _
theorem jI_xor (x y : Int) : jI (bXor x y) = jI x ^^^ jI y := Int32.ofInt_toInt _
theorem jI_shl (x y : Int) : jI (bShl x y) = jI x <<< (jI y &&& 31) := Int32.ofInt_toInt _
theorem jI_shr (x y : Int) : jI (bShr x y) = jI x >>> (jI y &&& 31) := Int32.ofInt_toInt _
theorem jI_bool {x : Int} (h0 : 0 ≤ x) (h1 : x ≤ 1) : vp_nar .boolean (jI x) = jI x := by
  rcases (show x = 0 ∨ x = 1 by omega) with rfl | rfl <;> decide +kernel
theorem jI_nbool {x : Int} (h0 : 0 ≤ x) (h1 : x ≤ 1) : narrow .boolean (.int (jI x)) = .int (jI x) := by
  rcases (show x = 0 ∨ x = 1 by omega) with rfl | rfl <;> decide +kernel
theorem jI_self (x : Int32) : jI x.toInt = x := Int32.ofInt_toInt x
theorem jI_selfR (x : Int32) : inR x.toInt := ⟨Int32.le_toInt x, Int32.toInt_lt x⟩
theorem jI_len (n : Nat) : Int32.ofNat n = jI (n : Int) := (Int32.ofInt_eq_ofNat).symm
theorem up_jI (f : Nat → Int) (k : Nat) (z : Int) : upd (fun i => jI (f i)) k (jI z) = fun i => jI (up f k z i) := by
  funext i
  unfold upd up
  by_cases h : i = k <;> simp [h]
theorem up_jL (f : Nat → Int) (k : Nat) (z : Int) : vp_updL (fun i => jL (f i)) k (jL z) = fun i => jL (up f k z i) := by
  funext i
  unfold vp_updL up
  by_cases h : i = k <;> simp [h]
theorem cpy_jI (f g : Nat → Int) (sp dp n : Nat) : va_cpy (fun i => jI (f i)) (fun i => jI (g i)) sp dp n = fun i => jI (cpy f g sp dp n i) := by
  funext i
  unfold va_cpy cpy
  by_cases h : dp ≤ i ∧ i < dp + n <;> simp [h]
/-! lists by place -/
theorem mNth_get {α : Type} : ∀ (l : List α) (i : Nat), mNth l i = l[i]?
  | [], i => by simp [mNth]
  | a :: l, 0 => by simp [mNth]
  | a :: l, i + 1 => by simp [mNth, mNth_get l i]
theorem mSet_set {α : Type} : ∀ (l : List α) (i : Nat) (x : α), mSet l i x = l.set i x
  | [], i, x => by simp [mSet]
  | a :: l, 0, x => by simp [mSet]
  | a :: l, i + 1, x => by simp [mSet, mSet_set l i x]
theorem mLt_lt {α : Type} : ∀ (l : List α) (i : Nat), mLt l i = true → i < l.length
  | [], i, h => by cases i <;> simp [mLt] at h
  | a :: l, 0, _ => by simp
  | a :: l, i + 1, h => by
    have := mLt_lt l i h
    simp; omega
end
section
/-! the tables (began as the skeleton's first part) and the names (began as the printed names of the claim) -/
/-- a private method of a class that the tables say can be made, by its rows of tables_1 -/
def lw_okq (q : MethodName × Nat) : Prop := (q.1.cls ≠ "java/lang/invoke/MethodHandle" ∧ q.1.cls ≠ "java/lang/invoke/VarHandle") ∧ Cond.instantiable q.1.cls q.2 ∈ tables_1 ∧ Cond.privateMethod q.1 ∈ tables_1 ∧ Cond.instanceMethod q.1 ∈ tables_1
theorem lw_p0 : lw_okq (⟨"DesignTurns", "isTask", "(I)Z"⟩, 11) := ⟨⟨by decide +kernel, by decide +kernel⟩, List.mem_of_getElem? (i := 15) (by decide +kernel), List.mem_of_getElem? (i := 203) (by decide +kernel), List.mem_of_getElem? (i := 204) (by decide +kernel)⟩
theorem lw_p1 : lw_okq (⟨"DesignTurns$Rings", "lean", "(ILDesignTurns$Table;)V"⟩, 3) := ⟨⟨by decide +kernel, by decide +kernel⟩, List.mem_of_getElem? (i := 47) (by decide +kernel), List.mem_of_getElem? (i := 234) (by decide +kernel), List.mem_of_getElem? (i := 235) (by decide +kernel)⟩
theorem lw_p2 : lw_okq (⟨"DesignTurns$Rings", "number", "(I)V"⟩, 3) := ⟨⟨by decide +kernel, by decide +kernel⟩, List.mem_of_getElem? (i := 47) (by decide +kernel), List.mem_of_getElem? (i := 246) (by decide +kernel), List.mem_of_getElem? (i := 247) (by decide +kernel)⟩
theorem lw_p3 : lw_okq (⟨"DesignTurns$Rings", "nextBlock", "(II)I"⟩, 3) := ⟨⟨by decide +kernel, by decide +kernel⟩, List.mem_of_getElem? (i := 47) (by decide +kernel), List.mem_of_getElem? (i := 250) (by decide +kernel), List.mem_of_getElem? (i := 251) (by decide +kernel)⟩
theorem lw_p4 : lw_okq (⟨"DesignTurns$Rings", "blockAround", "(II)I"⟩, 3) := ⟨⟨by decide +kernel, by decide +kernel⟩, List.mem_of_getElem? (i := 47) (by decide +kernel), List.mem_of_getElem? (i := 254) (by decide +kernel), List.mem_of_getElem? (i := 255) (by decide +kernel)⟩
theorem lw_p5 : lw_okq (⟨"DesignTurns$LeastSearch", "leastAfter", "(IILDesignTurns$Table;)I"⟩, 2) := ⟨⟨by decide +kernel, by decide +kernel⟩, List.mem_of_getElem? (i := 63) (by decide +kernel), List.mem_of_getElem? (i := 283) (by decide +kernel), List.mem_of_getElem? (i := 284) (by decide +kernel)⟩
theorem lw_p6 : lw_okq (⟨"DesignTurns$LeastSearch", "guessWithNext", "(IIILDesignTurns$Table;)I"⟩, 2) := ⟨⟨by decide +kernel, by decide +kernel⟩, List.mem_of_getElem? (i := 63) (by decide +kernel), List.mem_of_getElem? (i := 288) (by decide +kernel), List.mem_of_getElem? (i := 289) (by decide +kernel)⟩
theorem lw_p7 : lw_okq (⟨"DesignTurns$LeastSearch", "firstOfLeast", "(IILDesignTurns$Table;)I"⟩, 2) := ⟨⟨by decide +kernel, by decide +kernel⟩, List.mem_of_getElem? (i := 63) (by decide +kernel), List.mem_of_getElem? (i := 307) (by decide +kernel), List.mem_of_getElem? (i := 308) (by decide +kernel)⟩
theorem lw_p8 : lw_okq (⟨"DesignTurns$Returns", "spentFrom", "(II)J"⟩, 3) := ⟨⟨by decide +kernel, by decide +kernel⟩, List.mem_of_getElem? (i := 78) (by decide +kernel), List.mem_of_getElem? (i := 392) (by decide +kernel), List.mem_of_getElem? (i := 393) (by decide +kernel)⟩
theorem lw_p9 : lw_okq (⟨"DesignTurns$Returns", "refine", "(II)V"⟩, 3) := ⟨⟨by decide +kernel, by decide +kernel⟩, List.mem_of_getElem? (i := 78) (by decide +kernel), List.mem_of_getElem? (i := 399) (by decide +kernel), List.mem_of_getElem? (i := 400) (by decide +kernel)⟩
theorem lw_p10 : lw_okq (⟨"DesignTurns$TeamSearch", "mayBeBetter", "(II)Z"⟩, 7) := ⟨⟨by decide +kernel, by decide +kernel⟩, List.mem_of_getElem? (i := 105) (by decide +kernel), List.mem_of_getElem? (i := 472) (by decide +kernel), List.mem_of_getElem? (i := 473) (by decide +kernel)⟩
theorem lw_p11 : lw_okq (⟨"DesignTurns$TeamSearch", "keep", "(II)V"⟩, 7) := ⟨⟨by decide +kernel, by decide +kernel⟩, List.mem_of_getElem? (i := 105) (by decide +kernel), List.mem_of_getElem? (i := 476) (by decide +kernel), List.mem_of_getElem? (i := 477) (by decide +kernel)⟩
theorem lw_p12 : lw_okq (⟨"DesignTurns$TeamSearch", "cutBefore", "(IILDesignTurns$Table;)I"⟩, 7) := ⟨⟨by decide +kernel, by decide +kernel⟩, List.mem_of_getElem? (i := 105) (by decide +kernel), List.mem_of_getElem? (i := 483) (by decide +kernel), List.mem_of_getElem? (i := 484) (by decide +kernel)⟩
theorem lw_p13 : lw_okq (⟨"DesignTurns$Spread", "strongestLeft", "()I"⟩, 2) := ⟨⟨by decide +kernel, by decide +kernel⟩, List.mem_of_getElem? (i := 133) (by decide +kernel), List.mem_of_getElem? (i := 514) (by decide +kernel), List.mem_of_getElem? (i := 515) (by decide +kernel)⟩
theorem lw_p14 : lw_okq (⟨"DesignTurns$Spread", "isLeft", "(I)Z"⟩, 2) := ⟨⟨by decide +kernel, by decide +kernel⟩, List.mem_of_getElem? (i := 133) (by decide +kernel), List.mem_of_getElem? (i := 518) (by decide +kernel), List.mem_of_getElem? (i := 519) (by decide +kernel)⟩
theorem lw_p15 : lw_okq (⟨"DesignTurns$Spread", "passOn", "(ILDesignTurns$Table;)V"⟩, 2) := ⟨⟨by decide +kernel, by decide +kernel⟩, List.mem_of_getElem? (i := 133) (by decide +kernel), List.mem_of_getElem? (i := 522) (by decide +kernel), List.mem_of_getElem? (i := 523) (by decide +kernel)⟩
def lw_privs_1 : List (MethodName × Nat) := [(⟨"DesignTurns", "isTask", "(I)Z"⟩, 11), (⟨"DesignTurns$Rings", "lean", "(ILDesignTurns$Table;)V"⟩, 3), (⟨"DesignTurns$Rings", "number", "(I)V"⟩, 3), (⟨"DesignTurns$Rings", "nextBlock", "(II)I"⟩, 3), (⟨"DesignTurns$Rings", "blockAround", "(II)I"⟩, 3), (⟨"DesignTurns$LeastSearch", "leastAfter", "(IILDesignTurns$Table;)I"⟩, 2), (⟨"DesignTurns$LeastSearch", "guessWithNext", "(IIILDesignTurns$Table;)I"⟩, 2), (⟨"DesignTurns$LeastSearch", "firstOfLeast", "(IILDesignTurns$Table;)I"⟩, 2), (⟨"DesignTurns$Returns", "spentFrom", "(II)J"⟩, 3), (⟨"DesignTurns$Returns", "refine", "(II)V"⟩, 3), (⟨"DesignTurns$TeamSearch", "mayBeBetter", "(II)Z"⟩, 7), (⟨"DesignTurns$TeamSearch", "keep", "(II)V"⟩, 7), (⟨"DesignTurns$TeamSearch", "cutBefore", "(IILDesignTurns$Table;)I"⟩, 7), (⟨"DesignTurns$Spread", "strongestLeft", "()I"⟩, 2), (⟨"DesignTurns$Spread", "isLeft", "(I)Z"⟩, 2), (⟨"DesignTurns$Spread", "passOn", "(ILDesignTurns$Table;)V"⟩, 2)]
theorem lw_r1 : ∀ q ∈ lw_privs_1, lw_okq q := List.forall_mem_cons.mpr ⟨lw_p0, List.forall_mem_cons.mpr ⟨lw_p1, List.forall_mem_cons.mpr ⟨lw_p2, List.forall_mem_cons.mpr ⟨lw_p3, List.forall_mem_cons.mpr ⟨lw_p4, List.forall_mem_cons.mpr ⟨lw_p5, List.forall_mem_cons.mpr ⟨lw_p6, List.forall_mem_cons.mpr ⟨lw_p7, List.forall_mem_cons.mpr ⟨lw_p8, List.forall_mem_cons.mpr ⟨lw_p9, List.forall_mem_cons.mpr ⟨lw_p10, List.forall_mem_cons.mpr ⟨lw_p11, List.forall_mem_cons.mpr ⟨lw_p12, List.forall_mem_cons.mpr ⟨lw_p13, List.forall_mem_cons.mpr ⟨lw_p14, List.forall_mem_cons.mpr ⟨lw_p15, fun _ h => absurd h List.not_mem_nil⟩⟩⟩⟩⟩⟩⟩⟩⟩⟩⟩⟩⟩⟩⟩⟩
theorem lw_p16 : lw_okq (⟨"DesignTurns", "sumOfTimes", "()I"⟩, 11) := ⟨⟨by decide +kernel, by decide +kernel⟩, List.mem_of_getElem? (i := 15) (by decide +kernel), List.mem_of_getElem? (i := 555) (by decide +kernel), List.mem_of_getElem? (i := 556) (by decide +kernel)⟩
theorem lw_p17 : lw_okq (⟨"DesignTurnsModel", "no", "(I)Z"⟩, 16) := ⟨⟨by decide +kernel, by decide +kernel⟩, List.mem_of_getElem? (i := 559) (by decide +kernel), List.mem_of_getElem? (i := 627) (by decide +kernel), List.mem_of_getElem? (i := 628) (by decide +kernel)⟩
theorem lw_p18 : lw_okq (⟨"DesignTurnsModel", "lean", "()V"⟩, 16) := ⟨⟨by decide +kernel, by decide +kernel⟩, List.mem_of_getElem? (i := 559) (by decide +kernel), List.mem_of_getElem? (i := 644) (by decide +kernel), List.mem_of_getElem? (i := 645) (by decide +kernel)⟩
theorem lw_p19 : lw_okq (⟨"DesignTurnsModel", "numbered", "()I"⟩, 16) := ⟨⟨by decide +kernel, by decide +kernel⟩, List.mem_of_getElem? (i := 559) (by decide +kernel), List.mem_of_getElem? (i := 652) (by decide +kernel), List.mem_of_getElem? (i := 653) (by decide +kernel)⟩
theorem lw_p20 : lw_okq (⟨"DesignTurnsModel", "isNext", "(I)Z"⟩, 16) := ⟨⟨by decide +kernel, by decide +kernel⟩, List.mem_of_getElem? (i := 559) (by decide +kernel), List.mem_of_getElem? (i := 656) (by decide +kernel), List.mem_of_getElem? (i := 657) (by decide +kernel)⟩
theorem lw_p21 : lw_okq (⟨"DesignTurnsModel", "isOne", "(II)Z"⟩, 16) := ⟨⟨by decide +kernel, by decide +kernel⟩, List.mem_of_getElem? (i := 559) (by decide +kernel), List.mem_of_getElem? (i := 660) (by decide +kernel), List.mem_of_getElem? (i := 661) (by decide +kernel)⟩
theorem lw_p22 : lw_okq (⟨"DesignTurnsModel", "leastOf", "()I"⟩, 16) := ⟨⟨by decide +kernel, by decide +kernel⟩, List.mem_of_getElem? (i := 559) (by decide +kernel), List.mem_of_getElem? (i := 672) (by decide +kernel), List.mem_of_getElem? (i := 673) (by decide +kernel)⟩
theorem lw_p23 : lw_okq (⟨"DesignTurnsModel", "guessed", "(II)I"⟩, 16) := ⟨⟨by decide +kernel, by decide +kernel⟩, List.mem_of_getElem? (i := 559) (by decide +kernel), List.mem_of_getElem? (i := 676) (by decide +kernel), List.mem_of_getElem? (i := 677) (by decide +kernel)⟩
theorem lw_p24 : lw_okq (⟨"DesignTurnsModel", "leastRow", "()V"⟩, 16) := ⟨⟨by decide +kernel, by decide +kernel⟩, List.mem_of_getElem? (i := 559) (by decide +kernel), List.mem_of_getElem? (i := 684) (by decide +kernel), List.mem_of_getElem? (i := 685) (by decide +kernel)⟩
theorem lw_p25 : lw_okq (⟨"DesignTurnsModel", "guessOf", "()I"⟩, 16) := ⟨⟨by decide +kernel, by decide +kernel⟩, List.mem_of_getElem? (i := 559) (by decide +kernel), List.mem_of_getElem? (i := 700) (by decide +kernel), List.mem_of_getElem? (i := 701) (by decide +kernel)⟩
theorem lw_p26 : lw_okq (⟨"DesignTurnsModel", "placeOf", "(I)I"⟩, 16) := ⟨⟨by decide +kernel, by decide +kernel⟩, List.mem_of_getElem? (i := 559) (by decide +kernel), List.mem_of_getElem? (i := 716) (by decide +kernel), List.mem_of_getElem? (i := 717) (by decide +kernel)⟩
theorem lw_p27 : lw_okq (⟨"DesignTurnsModel", "meanOf", "(IZ)J"⟩, 16) := ⟨⟨by decide +kernel, by decide +kernel⟩, List.mem_of_getElem? (i := 559) (by decide +kernel), List.mem_of_getElem? (i := 729) (by decide +kernel), List.mem_of_getElem? (i := 730) (by decide +kernel)⟩
theorem lw_p28 : lw_okq (⟨"DesignTurnsModel", "beside", "()I"⟩, 16) := ⟨⟨by decide +kernel, by decide +kernel⟩, List.mem_of_getElem? (i := 559) (by decide +kernel), List.mem_of_getElem? (i := 746) (by decide +kernel), List.mem_of_getElem? (i := 747) (by decide +kernel)⟩
theorem lw_p29 : lw_okq (⟨"DesignTurnsModel", "teams", "(I)V"⟩, 16) := ⟨⟨by decide +kernel, by decide +kernel⟩, List.mem_of_getElem? (i := 559) (by decide +kernel), List.mem_of_getElem? (i := 758) (by decide +kernel), List.mem_of_getElem? (i := 759) (by decide +kernel)⟩
theorem lw_p30 : lw_okq (⟨"DesignTurnsModel", "teamsOf", "(I)I"⟩, 16) := ⟨⟨by decide +kernel, by decide +kernel⟩, List.mem_of_getElem? (i := 559) (by decide +kernel), List.mem_of_getElem? (i := 762) (by decide +kernel), List.mem_of_getElem? (i := 763) (by decide +kernel)⟩
theorem lw_p31 : lw_okq (⟨"DesignTurnsModel", "betweenOf", "()I"⟩, 16) := ⟨⟨by decide +kernel, by decide +kernel⟩, List.mem_of_getElem? (i := 559) (by decide +kernel), List.mem_of_getElem? (i := 766) (by decide +kernel), List.mem_of_getElem? (i := 767) (by decide +kernel)⟩
def lw_privs_2 : List (MethodName × Nat) := [(⟨"DesignTurns", "sumOfTimes", "()I"⟩, 11), (⟨"DesignTurnsModel", "no", "(I)Z"⟩, 16), (⟨"DesignTurnsModel", "lean", "()V"⟩, 16), (⟨"DesignTurnsModel", "numbered", "()I"⟩, 16), (⟨"DesignTurnsModel", "isNext", "(I)Z"⟩, 16), (⟨"DesignTurnsModel", "isOne", "(II)Z"⟩, 16), (⟨"DesignTurnsModel", "leastOf", "()I"⟩, 16), (⟨"DesignTurnsModel", "guessed", "(II)I"⟩, 16), (⟨"DesignTurnsModel", "leastRow", "()V"⟩, 16), (⟨"DesignTurnsModel", "guessOf", "()I"⟩, 16), (⟨"DesignTurnsModel", "placeOf", "(I)I"⟩, 16), (⟨"DesignTurnsModel", "meanOf", "(IZ)J"⟩, 16), (⟨"DesignTurnsModel", "beside", "()I"⟩, 16), (⟨"DesignTurnsModel", "teams", "(I)V"⟩, 16), (⟨"DesignTurnsModel", "teamsOf", "(I)I"⟩, 16), (⟨"DesignTurnsModel", "betweenOf", "()I"⟩, 16)]
theorem lw_r2 : ∀ q ∈ lw_privs_2, lw_okq q := List.forall_mem_cons.mpr ⟨lw_p16, List.forall_mem_cons.mpr ⟨lw_p17, List.forall_mem_cons.mpr ⟨lw_p18, List.forall_mem_cons.mpr ⟨lw_p19, List.forall_mem_cons.mpr ⟨lw_p20, List.forall_mem_cons.mpr ⟨lw_p21, List.forall_mem_cons.mpr ⟨lw_p22, List.forall_mem_cons.mpr ⟨lw_p23, List.forall_mem_cons.mpr ⟨lw_p24, List.forall_mem_cons.mpr ⟨lw_p25, List.forall_mem_cons.mpr ⟨lw_p26, List.forall_mem_cons.mpr ⟨lw_p27, List.forall_mem_cons.mpr ⟨lw_p28, List.forall_mem_cons.mpr ⟨lw_p29, List.forall_mem_cons.mpr ⟨lw_p30, List.forall_mem_cons.mpr ⟨lw_p31, fun _ h => absurd h List.not_mem_nil⟩⟩⟩⟩⟩⟩⟩⟩⟩⟩⟩⟩⟩⟩⟩⟩
theorem lw_p32 : lw_okq (⟨"DesignTurnsModel", "isMore", "()Z"⟩, 16) := ⟨⟨by decide +kernel, by decide +kernel⟩, List.mem_of_getElem? (i := 559) (by decide +kernel), List.mem_of_getElem? (i := 770) (by decide +kernel), List.mem_of_getElem? (i := 771) (by decide +kernel)⟩
theorem lw_p33 : lw_okq (⟨"DesignTurnsModel", "greatest", "(I)I"⟩, 16) := ⟨⟨by decide +kernel, by decide +kernel⟩, List.mem_of_getElem? (i := 559) (by decide +kernel), List.mem_of_getElem? (i := 774) (by decide +kernel), List.mem_of_getElem? (i := 775) (by decide +kernel)⟩
theorem lw_p34 : lw_okq (⟨"DesignTurnsModel", "forces", "(I)V"⟩, 16) := ⟨⟨by decide +kernel, by decide +kernel⟩, List.mem_of_getElem? (i := 559) (by decide +kernel), List.mem_of_getElem? (i := 786) (by decide +kernel), List.mem_of_getElem? (i := 787) (by decide +kernel)⟩
def lw_privs_3 : List (MethodName × Nat) := [(⟨"DesignTurnsModel", "isMore", "()Z"⟩, 16), (⟨"DesignTurnsModel", "greatest", "(I)I"⟩, 16), (⟨"DesignTurnsModel", "forces", "(I)V"⟩, 16)]
theorem lw_r3 : ∀ q ∈ lw_privs_3, lw_okq q := List.forall_mem_cons.mpr ⟨lw_p32, List.forall_mem_cons.mpr ⟨lw_p33, List.forall_mem_cons.mpr ⟨lw_p34, fun _ h => absurd h List.not_mem_nil⟩⟩⟩
def lw_privs : List (MethodName × Nat) := lw_privs_1 ++ (lw_privs_2 ++ (lw_privs_3))
def lw_tbl : List Cond := k2_sels lw_privs ++ tables_1
theorem lw_privs_ok : ∀ q ∈ lw_privs, lw_okq q := by
  show ∀ q ∈ lw_privs_1 ++ (lw_privs_2 ++ (lw_privs_3)), lw_okq q
  exact List.forall_mem_append.mpr ⟨lw_r1, List.forall_mem_append.mpr ⟨lw_r2, lw_r3⟩⟩
def R_law : String := "DesignTurnsLaw"
def RX0 : String := "DesignTurns$Beside"
def TX0 : u_T := fun k => match k with
  | _ => ("DesignTurns$Beside", "endsByPlace", "[I", true)
def tyX0 : Nat → FieldType := fun k => match k with
  | _ => .array .int
abbrev wsX00 : List Cond := u_ws RX0 TX0 1
theorem nmX0 : ∀ a, a < 1 → ∀ b, b < 1 → a ≠ b → (TX0 a).2.1 ≠ (TX0 b).2.1 := by decide +kernel
theorem tyX0_ok : ∀ k, k < 1 → parseFieldDescriptor (TX0 k).2.2.1 = some (tyX0 k) := by decide +kernel
abbrev cX0_init : ByteArray := prog_2_method_1_code
def yX0_init : MethodName := ⟨RX0, "<init>", "()V"⟩
abbrev cX0_endAt : ByteArray := prog_2_method_2_code
def yX0_endAt : MethodName := ⟨RX0, "endAt", "(I)I"⟩
abbrev cX0_latest : ByteArray := prog_2_method_3_code
def yX0_latest : MethodName := ⟨RX0, "latest", "()I"⟩
abbrev cX0_reckon : ByteArray := prog_2_method_4_code
def yX0_reckon : MethodName := ⟨RX0, "reckon", "(LDesignTurns$Order;LDesignTurns$Table;[I)V"⟩
def RX1 : String := "DesignTurns$LeastSearch"
def TX1 : u_T := fun k => match k with
  | 0 => ("DesignTurns$LeastSearch", "guesses", "[I", true)
  | _ => ("DesignTurns$LeastSearch", "order", "LDesignTurns$Order;", true)
def tyX1 : Nat → FieldType := fun k => match k with
  | 0 => .array .int
  | _ => .object "DesignTurns$Order"
abbrev wsX10 : List Cond := u_ws RX1 TX1 2
theorem nmX1 : ∀ a, a < 2 → ∀ b, b < 2 → a ≠ b → (TX1 a).2.1 ≠ (TX1 b).2.1 := by decide +kernel
theorem tyX1_ok : ∀ k, k < 2 → parseFieldDescriptor (TX1 k).2.2.1 = some (tyX1 k) := by decide +kernel
abbrev cX1_init : ByteArray := prog_3_method_1_code
def yX1_init : MethodName := ⟨RX1, "<init>", "()V"⟩
abbrev cX1_leastGuess : ByteArray := prog_3_method_2_code
def yX1_leastGuess : MethodName := ⟨RX1, "leastGuess", "(ILDesignTurns$Table;)I"⟩
abbrev cX1_find : ByteArray := prog_3_method_3_code
def yX1_find : MethodName := ⟨RX1, "find", "(ILDesignTurns$Table;)LDesignTurns$Order;"⟩
abbrev cX1_leastAfter : ByteArray := prog_3_method_4_code
def yX1_leastAfter : MethodName := ⟨RX1, "leastAfter", "(IILDesignTurns$Table;)I"⟩
abbrev cX1_firstOfLeast : ByteArray := prog_3_method_5_code
def yX1_firstOfLeast : MethodName := ⟨RX1, "firstOfLeast", "(IILDesignTurns$Table;)I"⟩
abbrev cX1_guessWithNext : ByteArray := prog_3_method_6_code
def yX1_guessWithNext : MethodName := ⟨RX1, "guessWithNext", "(IIILDesignTurns$Table;)I"⟩
def RX2 : String := "DesignTurns$Order"
def TX2 : u_T := fun k => match k with
  | 0 => ("DesignTurns$Order", "tasks", "[I", true)
  | _ => ("DesignTurns$Order", "length", "I", false)
def tyX2 : Nat → FieldType := fun k => match k with
  | 0 => .array .int
  | _ => .int
abbrev wsX20 : List Cond := u_ws RX2 TX2 2
theorem nmX2 : ∀ a, a < 2 → ∀ b, b < 2 → a ≠ b → (TX2 a).2.1 ≠ (TX2 b).2.1 := by decide +kernel
theorem tyX2_ok : ∀ k, k < 2 → parseFieldDescriptor (TX2 k).2.2.1 = some (tyX2 k) := by decide +kernel
abbrev cX2_init : ByteArray := prog_4_method_1_code
def yX2_init : MethodName := ⟨RX2, "<init>", "()V"⟩
abbrev cX2_hasPlace : ByteArray := prog_4_method_2_code
def yX2_hasPlace : MethodName := ⟨RX2, "hasPlace", "(I)Z"⟩
abbrev cX2_length : ByteArray := prog_4_method_3_code
def yX2_length : MethodName := ⟨RX2, "length", "()I"⟩
abbrev cX2_taskAt : ByteArray := prog_4_method_4_code
def yX2_taskAt : MethodName := ⟨RX2, "taskAt", "(I)I"⟩
abbrev cX2_placeOf : ByteArray := prog_4_method_5_code
def yX2_placeOf : MethodName := ⟨RX2, "placeOf", "(I)I"⟩
abbrev cX2_clear : ByteArray := prog_4_method_6_code
def yX2_clear : MethodName := ⟨RX2, "clear", "()V"⟩
abbrev cX2_add : ByteArray := prog_4_method_7_code
def yX2_add : MethodName := ⟨RX2, "add", "(I)V"⟩
abbrev cX2_restart : ByteArray := prog_4_method_8_code
def yX2_restart : MethodName := ⟨RX2, "restart", "(I)V"⟩
abbrev cX2_become : ByteArray := prog_4_method_9_code
def yX2_become : MethodName := ⟨RX2, "become", "(LDesignTurns$Order;)V"⟩
abbrev cX2_exchange : ByteArray := prog_4_method_10_code
def yX2_exchange : MethodName := ⟨RX2, "exchange", "(II)V"⟩
abbrev cX2_guessOf : ByteArray := prog_4_method_11_code
def yX2_guessOf : MethodName := ⟨RX2, "guessOf", "(LDesignTurns$Table;)I"⟩
def RX3 : String := "DesignTurns$Returns"
def TX3 : u_T := fun k => match k with
  | 0 => ("DesignTurns$Returns", "spent", "[J", true)
  | 1 => ("DesignTurns$Returns", "costsOfOne", "[I", true)
  | _ => ("DesignTurns$Returns", "below", "J", false)
def tyX3 : Nat → FieldType := fun k => match k with
  | 0 => .array .long
  | 1 => .array .int
  | _ => .long
abbrev wsX30 : List Cond := u_ws RX3 TX3 3
theorem nmX3 : ∀ a, a < 3 → ∀ b, b < 3 → a ≠ b → (TX3 a).2.1 ≠ (TX3 b).2.1 := by decide +kernel
theorem tyX3_ok : ∀ k, k < 3 → parseFieldDescriptor (TX3 k).2.2.1 = some (tyX3 k) := by decide +kernel
abbrev cX3_init : ByteArray := prog_5_method_1_code
def yX3_init : MethodName := ⟨RX3, "<init>", "()V"⟩
abbrev cX3_above : ByteArray := prog_5_method_2_code
def yX3_above : MethodName := ⟨RX3, "above", "()J"⟩
abbrev cX3_below : ByteArray := prog_5_method_3_code
def yX3_below : MethodName := ⟨RX3, "below", "()J"⟩
abbrev cX3_reckonOne : ByteArray := prog_5_method_4_code
def yX3_reckonOne : MethodName := ⟨RX3, "reckonOne", "(LDesignTurns$Order;LDesignTurns$Table;I)V"⟩
abbrev cX3_reckon : ByteArray := prog_5_method_5_code
def yX3_reckon : MethodName := ⟨RX3, "reckon", "(LDesignTurns$Order;LDesignTurns$Table;[I)V"⟩
abbrev cX3_spentFrom : ByteArray := prog_5_method_6_code
def yX3_spentFrom : MethodName := ⟨RX3, "spentFrom", "(II)J"⟩
abbrev cX3_refine : ByteArray := prog_5_method_7_code
def yX3_refine : MethodName := ⟨RX3, "refine", "(II)V"⟩
def RX4 : String := "DesignTurns$Rings"
def TX4 : u_T := fun k => match k with
  | 0 => ("DesignTurns$Rings", "leaning", "[I", true)
  | 1 => ("DesignTurns$Rings", "numbers", "[I", true)
  | _ => ("DesignTurns$Rings", "many", "I", false)
def tyX4 : Nat → FieldType := fun k => match k with
  | 0 => .array .int
  | 1 => .array .int
  | _ => .int
abbrev wsX40 : List Cond := u_ws RX4 TX4 3
theorem nmX4 : ∀ a, a < 3 → ∀ b, b < 3 → a ≠ b → (TX4 a).2.1 ≠ (TX4 b).2.1 := by decide +kernel
theorem tyX4_ok : ∀ k, k < 3 → parseFieldDescriptor (TX4 k).2.2.1 = some (tyX4 k) := by decide +kernel
abbrev cX4_init : ByteArray := prog_6_method_1_code
def yX4_init : MethodName := ⟨RX4, "<init>", "()V"⟩
abbrev cX4_isLeaning : ByteArray := prog_6_method_2_code
def yX4_isLeaning : MethodName := ⟨RX4, "isLeaning", "(II)Z"⟩
abbrev cX4_howMany : ByteArray := prog_6_method_3_code
def yX4_howMany : MethodName := ⟨RX4, "howMany", "()I"⟩
abbrev cX4_numberOf : ByteArray := prog_6_method_4_code
def yX4_numberOf : MethodName := ⟨RX4, "numberOf", "(I)I"⟩
abbrev cX4_find : ByteArray := prog_6_method_5_code
def yX4_find : MethodName := ⟨RX4, "find", "(ILDesignTurns$Table;)V"⟩
abbrev cX4_lean : ByteArray := prog_6_method_6_code
def yX4_lean : MethodName := ⟨RX4, "lean", "(ILDesignTurns$Table;)V"⟩
abbrev cX4_number : ByteArray := prog_6_method_7_code
def yX4_number : MethodName := ⟨RX4, "number", "(I)V"⟩
abbrev cX4_nextBlock : ByteArray := prog_6_method_8_code
def yX4_nextBlock : MethodName := ⟨RX4, "nextBlock", "(II)I"⟩
abbrev cX4_blockAround : ByteArray := prog_6_method_9_code
def yX4_blockAround : MethodName := ⟨RX4, "blockAround", "(II)I"⟩
def RX5 : String := "DesignTurns$Spread"
def TX5 : u_T := fun k => match k with
  | 0 => ("DesignTurns$Spread", "forces", "[I", true)
  | _ => ("DesignTurns$Spread", "settled", "I", false)
def tyX5 : Nat → FieldType := fun k => match k with
  | 0 => .array .int
  | _ => .int
abbrev wsX50 : List Cond := u_ws RX5 TX5 2
theorem nmX5 : ∀ a, a < 2 → ∀ b, b < 2 → a ≠ b → (TX5 a).2.1 ≠ (TX5 b).2.1 := by decide +kernel
theorem tyX5_ok : ∀ k, k < 2 → parseFieldDescriptor (TX5 k).2.2.1 = some (tyX5 k) := by decide +kernel
abbrev cX5_init : ByteArray := prog_7_method_1_code
def yX5_init : MethodName := ⟨RX5, "<init>", "()V"⟩
abbrev cX5_forceAt : ByteArray := prog_7_method_2_code
def yX5_forceAt : MethodName := ⟨RX5, "forceAt", "(I)I"⟩
abbrev cX5_howMany : ByteArray := prog_7_method_3_code
def yX5_howMany : MethodName := ⟨RX5, "howMany", "(I)I"⟩
abbrev cX5_from : ByteArray := prog_7_method_4_code
def yX5_from : MethodName := ⟨RX5, "from", "(IILDesignTurns$Table;)V"⟩
abbrev cX5_strongestLeft : ByteArray := prog_7_method_5_code
def yX5_strongestLeft : MethodName := ⟨RX5, "strongestLeft", "()I"⟩
abbrev cX5_passOn : ByteArray := prog_7_method_6_code
def yX5_passOn : MethodName := ⟨RX5, "passOn", "(ILDesignTurns$Table;)V"⟩
abbrev cX5_isLeft : ByteArray := prog_7_method_7_code
def yX5_isLeft : MethodName := ⟨RX5, "isLeft", "(I)Z"⟩
def RX6 : String := "DesignTurns$Table"
def TX6 : u_T := fun k => match k with
  | _ => ("DesignTurns$Table", "values", "[I", true)
def tyX6 : Nat → FieldType := fun k => match k with
  | _ => .array .int
abbrev wsX60 : List Cond := u_ws RX6 TX6 1
theorem nmX6 : ∀ a, a < 1 → ∀ b, b < 1 → a ≠ b → (TX6 a).2.1 ≠ (TX6 b).2.1 := by decide +kernel
theorem tyX6_ok : ∀ k, k < 1 → parseFieldDescriptor (TX6 k).2.2.1 = some (tyX6 k) := by decide +kernel
abbrev cX6_init : ByteArray := prog_8_method_1_code
def yX6_init : MethodName := ⟨RX6, "<init>", "()V"⟩
abbrev cX6_get : ByteArray := prog_8_method_2_code
def yX6_get : MethodName := ⟨RX6, "get", "(II)I"⟩
abbrev cX6_bothWays : ByteArray := prog_8_method_3_code
def yX6_bothWays : MethodName := ⟨RX6, "bothWays", "(II)I"⟩
abbrev cX6_put : ByteArray := prog_8_method_4_code
def yX6_put : MethodName := ⟨RX6, "put", "(III)I"⟩
abbrev cX6_sumOfRow : ByteArray := prog_8_method_5_code
def yX6_sumOfRow : MethodName := ⟨RX6, "sumOfRow", "(I)I"⟩
abbrev cX6_sum : ByteArray := prog_8_method_6_code
def yX6_sum : MethodName := ⟨RX6, "sum", "()I"⟩
abbrev cX6_howMany : ByteArray := prog_8_method_7_code
def yX6_howMany : MethodName := ⟨RX6, "howMany", "()I"⟩
abbrev cX6_holds : ByteArray := prog_8_method_8_code
def yX6_holds : MethodName := ⟨RX6, "holds", "(II)Z"⟩
def RX7 : String := "DesignTurns$TeamSearch"
def TX7 : u_T := fun k => match k with
  | 0 => ("DesignTurns$TeamSearch", "tried", "[I", true)
  | 1 => ("DesignTurns$TeamSearch", "best", "[I", true)
  | 2 => ("DesignTurns$TeamSearch", "sizes", "[I", true)
  | 3 => ("DesignTurns$TeamSearch", "count", "I", false)
  | 4 => ("DesignTurns$TeamSearch", "mostInTeam", "I", false)
  | 5 => ("DesignTurns$TeamSearch", "leastBetween", "I", false)
  | _ => ("DesignTurns$TeamSearch", "fewest", "I", false)
def tyX7 : Nat → FieldType := fun k => match k with
  | 0 => .array .int
  | 1 => .array .int
  | 2 => .array .int
  | 3 => .int
  | 4 => .int
  | 5 => .int
  | _ => .int
abbrev wsX70 : List Cond := u_ws RX7 TX7 7
theorem nmX7 : ∀ a, a < 7 → ∀ b, b < 7 → a ≠ b → (TX7 a).2.1 ≠ (TX7 b).2.1 := by decide +kernel
theorem tyX7_ok : ∀ k, k < 7 → parseFieldDescriptor (TX7 k).2.2.1 = some (tyX7 k) := by decide +kernel
abbrev cX7_init : ByteArray := prog_9_method_1_code
def yX7_init : MethodName := ⟨RX7, "<init>", "()V"⟩
abbrev cX7_leastBetween : ByteArray := prog_9_method_2_code
def yX7_leastBetween : MethodName := ⟨RX7, "leastBetween", "()I"⟩
abbrev cX7_teamOf : ByteArray := prog_9_method_3_code
def yX7_teamOf : MethodName := ⟨RX7, "teamOf", "(I)I"⟩
abbrev cX7_find : ByteArray := prog_9_method_4_code
def yX7_find : MethodName := ⟨RX7, "find", "(ILDesignTurns$Table;I)V"⟩
abbrev cX7_assign : ByteArray := prog_9_method_5_code
def yX7_assign : MethodName := ⟨RX7, "assign", "(LDesignTurns$TeamSearch;LDesignTurns$Table;III)V"⟩
abbrev cX7_mayBeBetter : ByteArray := prog_9_method_6_code
def yX7_mayBeBetter : MethodName := ⟨RX7, "mayBeBetter", "(II)Z"⟩
abbrev cX7_keep : ByteArray := prog_9_method_7_code
def yX7_keep : MethodName := ⟨RX7, "keep", "(II)V"⟩
abbrev cX7_cutBefore : ByteArray := prog_9_method_8_code
def yX7_cutBefore : MethodName := ⟨RX7, "cutBefore", "(IILDesignTurns$Table;)I"⟩
def RX8 : String := "DesignTurns"
def TX8 : u_T := fun k => match k with
  | 0 => ("DesignTurns", "times", "[I", true)
  | 1 => ("DesignTurns", "needs", "LDesignTurns$Table;", true)
  | 2 => ("DesignTurns", "chances", "LDesignTurns$Table;", true)
  | 3 => ("DesignTurns", "toldOrder", "LDesignTurns$Order;", true)
  | 4 => ("DesignTurns", "rings", "LDesignTurns$Rings;", true)
  | 5 => ("DesignTurns", "leastSearch", "LDesignTurns$LeastSearch;", true)
  | 6 => ("DesignTurns", "returns", "LDesignTurns$Returns;", true)
  | 7 => ("DesignTurns", "beside", "LDesignTurns$Beside;", true)
  | 8 => ("DesignTurns", "teamSearch", "LDesignTurns$TeamSearch;", true)
  | 9 => ("DesignTurns", "spread", "LDesignTurns$Spread;", true)
  | _ => ("DesignTurns", "count", "I", false)
def tyX8 : Nat → FieldType := fun k => match k with
  | 0 => .array .int
  | 1 => .object "DesignTurns$Table"
  | 2 => .object "DesignTurns$Table"
  | 3 => .object "DesignTurns$Order"
  | 4 => .object "DesignTurns$Rings"
  | 5 => .object "DesignTurns$LeastSearch"
  | 6 => .object "DesignTurns$Returns"
  | 7 => .object "DesignTurns$Beside"
  | 8 => .object "DesignTurns$TeamSearch"
  | 9 => .object "DesignTurns$Spread"
  | _ => .int
abbrev wsX80 : List Cond := u_ws RX8 TX8 11
theorem nmX8 : ∀ a, a < 11 → ∀ b, b < 11 → a ≠ b → (TX8 a).2.1 ≠ (TX8 b).2.1 := by decide +kernel
theorem tyX8_ok : ∀ k, k < 11 → parseFieldDescriptor (TX8 k).2.2.1 = some (tyX8 k) := by decide +kernel
abbrev cX8_init : ByteArray := prog_1_method_1_code
def yX8_init : MethodName := ⟨RX8, "<init>", "()V"⟩
abbrev cX8_task : ByteArray := prog_1_method_2_code
def yX8_task : MethodName := ⟨RX8, "task", "(I)I"⟩
abbrev cX8_time : ByteArray := prog_1_method_3_code
def yX8_time : MethodName := ⟨RX8, "time", "(II)I"⟩
abbrev cX8_need : ByteArray := prog_1_method_4_code
def yX8_need : MethodName := ⟨RX8, "need", "(III)I"⟩
abbrev cX8_strength : ByteArray := prog_1_method_5_code
def yX8_strength : MethodName := ⟨RX8, "strength", "(II)I"⟩
abbrev cX8_leans : ByteArray := prog_1_method_6_code
def yX8_leans : MethodName := ⟨RX8, "leans", "(II)I"⟩
abbrev cX8_blocks : ByteArray := prog_1_method_7_code
def yX8_blocks : MethodName := ⟨RX8, "blocks", "()I"⟩
abbrev cX8_block : ByteArray := prog_1_method_8_code
def yX8_block : MethodName := ⟨RX8, "block", "(I)I"⟩
abbrev cX8_least : ByteArray := prog_1_method_9_code
def yX8_least : MethodName := ⟨RX8, "least", "()I"⟩
abbrev cX8_leastAt : ByteArray := prog_1_method_10_code
def yX8_leastAt : MethodName := ⟨RX8, "leastAt", "(I)I"⟩
abbrev cX8_saved : ByteArray := prog_1_method_11_code
def yX8_saved : MethodName := ⟨RX8, "saved", "(II)I"⟩
abbrev cX8_at : ByteArray := prog_1_method_12_code
def yX8_at : MethodName := ⟨RX8, "at", "(I)I"⟩
abbrev cX8_swap : ByteArray := prog_1_method_13_code
def yX8_swap : MethodName := ⟨RX8, "swap", "(II)I"⟩
abbrev cX8_take : ByteArray := prog_1_method_14_code
def yX8_take : MethodName := ⟨RX8, "take", "()I"⟩
abbrev cX8_guess : ByteArray := prog_1_method_15_code
def yX8_guess : MethodName := ⟨RX8, "guess", "()I"⟩
abbrev cX8_torn : ByteArray := prog_1_method_16_code
def yX8_torn : MethodName := ⟨RX8, "torn", "(II)I"⟩
abbrev cX8_chance : ByteArray := prog_1_method_17_code
def yX8_chance : MethodName := ⟨RX8, "chance", "(III)I"⟩
abbrev cX8_mean : ByteArray := prog_1_method_18_code
def yX8_mean : MethodName := ⟨RX8, "mean", "(Z)J"⟩
abbrev cX8_often : ByteArray := prog_1_method_19_code
def yX8_often : MethodName := ⟨RX8, "often", "(IZ)J"⟩
abbrev cX8_ends : ByteArray := prog_1_method_20_code
def yX8_ends : MethodName := ⟨RX8, "ends", "(I)I"⟩
abbrev cX8_span : ByteArray := prog_1_method_21_code
def yX8_span : MethodName := ⟨RX8, "span", "()I"⟩
abbrev cX8_between : ByteArray := prog_1_method_22_code
def yX8_between : MethodName := ⟨RX8, "between", "(I)I"⟩
abbrev cX8_team : ByteArray := prog_1_method_23_code
def yX8_team : MethodName := ⟨RX8, "team", "(II)I"⟩
abbrev cX8_force : ByteArray := prog_1_method_24_code
def yX8_force : MethodName := ⟨RX8, "force", "(IIZ)J"⟩
abbrev cX8_reach : ByteArray := prog_1_method_25_code
def yX8_reach : MethodName := ⟨RX8, "reach", "(II)I"⟩
abbrev cX8_total : ByteArray := prog_1_method_26_code
def yX8_total : MethodName := ⟨RX8, "total", "(I)I"⟩
abbrev cX8_isTask : ByteArray := prog_1_method_27_code
def yX8_isTask : MethodName := ⟨RX8, "isTask", "(I)Z"⟩
abbrev cX8_isTime : ByteArray := prog_1_method_28_code
def yX8_isTime : MethodName := ⟨RX8, "isTime", "(I)Z"⟩
abbrev cX8_isTeamSize : ByteArray := prog_1_method_29_code
def yX8_isTeamSize : MethodName := ⟨RX8, "isTeamSize", "(I)Z"⟩
abbrev cX8_sumOfTimes : ByteArray := prog_1_method_30_code
def yX8_sumOfTimes : MethodName := ⟨RX8, "sumOfTimes", "()I"⟩
abbrev cX8_inLeastTerms : ByteArray := prog_1_method_31_code
def yX8_inLeastTerms : MethodName := ⟨RX8, "inLeastTerms", "(JJZ)J"⟩
abbrev cX8_commonDivisor : ByteArray := prog_1_method_32_code
def yX8_commonDivisor : MethodName := ⟨RX8, "commonDivisor", "(JJ)J"⟩
abbrev cX8_valueOf : ByteArray := prog_1_method_33_code
def yX8_valueOf : MethodName := ⟨RX8, "valueOf", "([II)I"⟩
def RX9 : String := "DesignTurnsModel"
def TX9 : u_T := fun k => match k with
  | 0 => ("DesignTurnsModel", "thrown", "I", false)
  | 1 => ("DesignTurnsModel", "tasks", "I", false)
  | 2 => ("DesignTurnsModel", "time", "[I", true)
  | 3 => ("DesignTurnsModel", "need", "[I", true)
  | 4 => ("DesignTurnsModel", "chance", "[I", true)
  | 5 => ("DesignTurnsModel", "order", "[I", true)
  | 6 => ("DesignTurnsModel", "rest", "[I", true)
  | 7 => ("DesignTurnsModel", "leans", "[Z", true)
  | 8 => ("DesignTurnsModel", "block", "[I", true)
  | 9 => ("DesignTurnsModel", "above", "[J", true)
  | 10 => ("DesignTurnsModel", "below", "[J", true)
  | 11 => ("DesignTurnsModel", "ends", "[I", true)
  | 12 => ("DesignTurnsModel", "row", "[I", true)
  | 13 => ("DesignTurnsModel", "best", "[I", true)
  | 14 => ("DesignTurnsModel", "between", "I", false)
  | _ => ("DesignTurnsModel", "force", "[J", true)
def tyX9 : Nat → FieldType := fun k => match k with
  | 0 => .int
  | 1 => .int
  | 2 => .array .int
  | 3 => .array .int
  | 4 => .array .int
  | 5 => .array .int
  | 6 => .array .int
  | 7 => .array .boolean
  | 8 => .array .int
  | 9 => .array .long
  | 10 => .array .long
  | 11 => .array .int
  | 12 => .array .int
  | 13 => .array .int
  | 14 => .int
  | _ => .array .long
abbrev wsX90 : List Cond := u_ws RX9 TX9 16
theorem nmX9 : ∀ a, a < 16 → ∀ b, b < 16 → a ≠ b → (TX9 a).2.1 ≠ (TX9 b).2.1 := by decide +kernel
theorem tyX9_ok : ∀ k, k < 16 → parseFieldDescriptor (TX9 k).2.2.1 = some (tyX9 k) := by decide +kernel
abbrev cX9_init : ByteArray := prog_11_method_1_code
def yX9_init : MethodName := ⟨RX9, "<init>", "()V"⟩
abbrev cX9_in : ByteArray := prog_11_method_3_code
def yX9_in : MethodName := ⟨RX9, "in", "(JJJ)Z"⟩
abbrev cX9_no : ByteArray := prog_11_method_4_code
def yX9_no : MethodName := ⟨RX9, "no", "(I)Z"⟩
abbrev cX9_told : ByteArray := prog_11_method_5_code
def yX9_told : MethodName := ⟨RX9, "told", "(JJZ)J"⟩
abbrev cX9_task : ByteArray := prog_11_method_6_code
def yX9_task : MethodName := ⟨RX9, "task", "(I)I"⟩
abbrev cX9_time : ByteArray := prog_11_method_7_code
def yX9_time : MethodName := ⟨RX9, "time", "(II)I"⟩
abbrev cX9_need : ByteArray := prog_11_method_8_code
def yX9_need : MethodName := ⟨RX9, "need", "(III)I"⟩
abbrev cX9_strength : ByteArray := prog_11_method_9_code
def yX9_strength : MethodName := ⟨RX9, "strength", "(II)I"⟩
abbrev cX9_lean : ByteArray := prog_11_method_10_code
def yX9_lean : MethodName := ⟨RX9, "lean", "()V"⟩
abbrev cX9_leans : ByteArray := prog_11_method_11_code
def yX9_leans : MethodName := ⟨RX9, "leans", "(II)I"⟩
abbrev cX9_isOne : ByteArray := prog_11_method_12_code
def yX9_isOne : MethodName := ⟨RX9, "isOne", "(II)Z"⟩
abbrev cX9_isNext : ByteArray := prog_11_method_13_code
def yX9_isNext : MethodName := ⟨RX9, "isNext", "(I)Z"⟩
abbrev cX9_numbered : ByteArray := prog_11_method_14_code
def yX9_numbered : MethodName := ⟨RX9, "numbered", "()I"⟩
abbrev cX9_blocks : ByteArray := prog_11_method_15_code
def yX9_blocks : MethodName := ⟨RX9, "blocks", "()I"⟩
abbrev cX9_block : ByteArray := prog_11_method_16_code
def yX9_block : MethodName := ⟨RX9, "block", "(I)I"⟩
abbrev cX9_guessed : ByteArray := prog_11_method_17_code
def yX9_guessed : MethodName := ⟨RX9, "guessed", "(II)I"⟩
abbrev cX9_leastOf : ByteArray := prog_11_method_18_code
def yX9_leastOf : MethodName := ⟨RX9, "leastOf", "()I"⟩
abbrev cX9_leastRow : ByteArray := prog_11_method_19_code
def yX9_leastRow : MethodName := ⟨RX9, "leastRow", "()V"⟩
abbrev cX9_least : ByteArray := prog_11_method_20_code
def yX9_least : MethodName := ⟨RX9, "least", "()I"⟩
abbrev cX9_leastAt : ByteArray := prog_11_method_21_code
def yX9_leastAt : MethodName := ⟨RX9, "leastAt", "(I)I"⟩
abbrev cX9_saved : ByteArray := prog_11_method_22_code
def yX9_saved : MethodName := ⟨RX9, "saved", "(II)I"⟩
abbrev cX9_at : ByteArray := prog_11_method_23_code
def yX9_at : MethodName := ⟨RX9, "at", "(I)I"⟩
abbrev cX9_guessOf : ByteArray := prog_11_method_24_code
def yX9_guessOf : MethodName := ⟨RX9, "guessOf", "()I"⟩
abbrev cX9_swap : ByteArray := prog_11_method_25_code
def yX9_swap : MethodName := ⟨RX9, "swap", "(II)I"⟩
abbrev cX9_take : ByteArray := prog_11_method_26_code
def yX9_take : MethodName := ⟨RX9, "take", "()I"⟩
abbrev cX9_guess : ByteArray := prog_11_method_27_code
def yX9_guess : MethodName := ⟨RX9, "guess", "()I"⟩
abbrev cX9_placeOf : ByteArray := prog_11_method_28_code
def yX9_placeOf : MethodName := ⟨RX9, "placeOf", "(I)I"⟩
abbrev cX9_torn : ByteArray := prog_11_method_29_code
def yX9_torn : MethodName := ⟨RX9, "torn", "(II)I"⟩
abbrev cX9_chance : ByteArray := prog_11_method_30_code
def yX9_chance : MethodName := ⟨RX9, "chance", "(III)I"⟩
abbrev cX9_meanOf : ByteArray := prog_11_method_31_code
def yX9_meanOf : MethodName := ⟨RX9, "meanOf", "(IZ)J"⟩
abbrev cX9_mean : ByteArray := prog_11_method_32_code
def yX9_mean : MethodName := ⟨RX9, "mean", "(Z)J"⟩
abbrev cX9_often : ByteArray := prog_11_method_33_code
def yX9_often : MethodName := ⟨RX9, "often", "(IZ)J"⟩
abbrev cX9_beside : ByteArray := prog_11_method_34_code
def yX9_beside : MethodName := ⟨RX9, "beside", "()I"⟩
abbrev cX9_ends : ByteArray := prog_11_method_35_code
def yX9_ends : MethodName := ⟨RX9, "ends", "(I)I"⟩
abbrev cX9_span : ByteArray := prog_11_method_36_code
def yX9_span : MethodName := ⟨RX9, "span", "()I"⟩
abbrev cX9_betweenOf : ByteArray := prog_11_method_37_code
def yX9_betweenOf : MethodName := ⟨RX9, "betweenOf", "()I"⟩
abbrev cX9_teamsOf : ByteArray := prog_11_method_38_code
def yX9_teamsOf : MethodName := ⟨RX9, "teamsOf", "(I)I"⟩
abbrev cX9_isMore : ByteArray := prog_11_method_39_code
def yX9_isMore : MethodName := ⟨RX9, "isMore", "()Z"⟩
abbrev cX9_greatest : ByteArray := prog_11_method_40_code
def yX9_greatest : MethodName := ⟨RX9, "greatest", "(I)I"⟩
abbrev cX9_teams : ByteArray := prog_11_method_41_code
def yX9_teams : MethodName := ⟨RX9, "teams", "(I)V"⟩
abbrev cX9_between : ByteArray := prog_11_method_42_code
def yX9_between : MethodName := ⟨RX9, "between", "(I)I"⟩
abbrev cX9_team : ByteArray := prog_11_method_43_code
def yX9_team : MethodName := ⟨RX9, "team", "(II)I"⟩
abbrev cX9_forces : ByteArray := prog_11_method_44_code
def yX9_forces : MethodName := ⟨RX9, "forces", "(I)V"⟩
abbrev cX9_force : ByteArray := prog_11_method_45_code
def yX9_force : MethodName := ⟨RX9, "force", "(IIZ)J"⟩
abbrev cX9_reach : ByteArray := prog_11_method_46_code
def yX9_reach : MethodName := ⟨RX9, "reach", "(II)I"⟩
abbrev cX9_total : ByteArray := prog_11_method_47_code
def yX9_total : MethodName := ⟨RX9, "total", "(I)I"⟩
def RJ9 : String := "java/lang/Math"
def TJ9 : u_T := fun k => match k with
  | _ => ("", "", "", false)
def tyJ9 : Nat → FieldType := fun k => match k with
  | _ => .int
abbrev wsJ90 : List Cond := u_ws RJ9 TJ9 0
theorem nmJ9 : ∀ a, a < 0 → ∀ b, b < 0 → a ≠ b → (TJ9 a).2.1 ≠ (TJ9 b).2.1 := by decide +kernel
theorem tyJ9_ok : ∀ k, k < 0 → parseFieldDescriptor (TJ9 k).2.2.1 = some (tyJ9 k) := by decide +kernel
abbrev cJ9_max_7cf53 : ByteArray := prog_12_method_65_code
def yJ9_max_7cf53 : MethodName := ⟨RJ9, "max", "(II)I"⟩
abbrev cJ9_min_7cf53 : ByteArray := prog_12_method_69_code
def yJ9_min_7cf53 : MethodName := ⟨RJ9, "min", "(II)I"⟩
def RJ10 : String := "java/lang/System"
def TJ10 : u_T := fun k => match k with
  | _ => ("", "", "", false)
def tyJ10 : Nat → FieldType := fun k => match k with
  | _ => .int
abbrev wsJ100 : List Cond := u_ws RJ10 TJ10 0
theorem nmJ10 : ∀ a, a < 0 → ∀ b, b < 0 → a ≠ b → (TJ10 a).2.1 ≠ (TJ10 b).2.1 := by decide +kernel
theorem tyJ10_ok : ∀ k, k < 0 → parseFieldDescriptor (TJ10 k).2.2.1 = some (tyJ10 k) := by decide +kernel
def RJ7 : String := "java/util/Arrays"
def TJ7 : u_T := fun k => match k with
  | _ => ("", "", "", false)
def tyJ7 : Nat → FieldType := fun k => match k with
  | _ => .int
abbrev wsJ70 : List Cond := u_ws RJ7 TJ7 0
theorem nmJ7 : ∀ a, a < 0 → ∀ b, b < 0 → a ≠ b → (TJ7 a).2.1 ≠ (TJ7 b).2.1 := by decide +kernel
theorem tyJ7_ok : ∀ k, k < 0 → parseFieldDescriptor (TJ7 k).2.2.1 = some (tyJ7 k) := by decide +kernel
abbrev cJ7_fill_d0a16 : ByteArray := prog_14_method_101_code
def yJ7_fill_d0a16 : MethodName := ⟨RJ7, "fill", "([JJ)V"⟩
abbrev cJ7_fill_53178 : ByteArray := prog_14_method_103_code
def yJ7_fill_53178 : MethodName := ⟨RJ7, "fill", "([II)V"⟩
abbrev cL_law : ByteArray := code
def yL_law : MethodName := ⟨R_law, "law", "([I)Z"⟩
abbrev vwCl : List vw_C := [(RX0, TX0, 1), (RX1, TX1, 2), (RX2, TX2, 2), (RX3, TX3, 3), (RX4, TX4, 3), (RX5, TX5, 2), (RX6, TX6, 1), (RX7, TX7, 7), (RX8, TX8, 11), (RX9, TX9, 16)]
def cNs : List (List (String)) := [[RX0, RX1, RX2, RX3, RX4, RX5, RX6, RX7, RX8, RX9, RJ9, RJ7, R_law]]
def cN (c : Nat) : String := mTab cNs "" c
def cTs : List (List (u_T)) := [[TX0, TX1, TX2, TX3, TX4, TX5, TX6, TX7, TX8, TX9]]
def cT (c : Nat) : u_T := mTab cTs TX0 c
def cYs : List (List (Nat → FieldType)) := [[tyX0, tyX1, tyX2, tyX3, tyX4, tyX5, tyX6, tyX7, tyX8, tyX9]]
def cY (c : Nat) : Nat → FieldType := mTab cYs tyX0 c
def cFs : List (List (Nat)) := [[1, 2, 2, 3, 3, 2, 1, 7, 11, 16]]
def cF (c : Nat) : Nat := mTab cFs 0 c
def yNs : List (List (MethodName)) := [[yJ9_max_7cf53, yJ9_min_7cf53, yJ7_fill_d0a16, yJ7_fill_53178, yX6_get, yX6_bothWays, yX6_put, yX6_sumOfRow, yX6_sum, yX6_howMany, yX6_holds, yX2_hasPlace, yX2_length, yX2_taskAt, yX2_placeOf, yX2_clear],
  [yX2_add, yX2_restart, yX2_become, yX2_exchange, yX2_guessOf, yX0_endAt, yX0_latest, yX0_reckon, yX5_forceAt, yX5_howMany, yX5_from, yX5_strongestLeft, yX5_passOn, yX5_isLeft, yX1_leastGuess, yX1_find],
  [yX1_leastAfter, yX1_firstOfLeast, yX1_guessWithNext, yX7_leastBetween, yX7_teamOf, yX7_find, yX7_assign, yX7_mayBeBetter, yX7_keep, yX7_cutBefore, yX3_above, yX3_below, yX3_reckonOne, yX3_reckon, yX3_spentFrom, yX3_refine],
  [yX4_isLeaning, yX4_howMany, yX4_numberOf, yX4_find, yX4_lean, yX4_number, yX4_nextBlock, yX4_blockAround, yX8_task, yX8_time, yX8_need, yX8_strength, yX8_leans, yX8_blocks, yX8_block, yX8_least],
  [yX8_leastAt, yX8_saved, yX8_at, yX8_swap, yX8_take, yX8_guess, yX8_torn, yX8_chance, yX8_mean, yX8_often, yX8_ends, yX8_span, yX8_between, yX8_team, yX8_force, yX8_reach],
  [yX8_total, yX8_isTask, yX8_isTime, yX8_isTeamSize, yX8_sumOfTimes, yX8_inLeastTerms, yX8_commonDivisor, yX8_valueOf, yX9_in, yX9_no, yX9_told, yX9_task, yX9_time, yX9_need, yX9_strength, yX9_lean],
  [yX9_leans, yX9_isOne, yX9_isNext, yX9_numbered, yX9_blocks, yX9_block, yX9_guessed, yX9_leastOf, yX9_leastRow, yX9_least, yX9_leastAt, yX9_saved, yX9_at, yX9_guessOf, yX9_swap, yX9_take],
  [yX9_guess, yX9_placeOf, yX9_torn, yX9_chance, yX9_meanOf, yX9_mean, yX9_often, yX9_beside, yX9_ends, yX9_span, yX9_betweenOf, yX9_teamsOf, yX9_isMore, yX9_greatest, yX9_teams, yX9_between],
  [yX9_team, yX9_forces, yX9_force, yX9_reach, yX9_total, yL_law]]
def yN (m : Nat) : MethodName := mTab yNs yL_law m
def bNs : List (List (ByteArray)) := [[cJ9_max_7cf53, cJ9_min_7cf53, cJ7_fill_d0a16, cJ7_fill_53178, cX6_get, cX6_bothWays, cX6_put, cX6_sumOfRow, cX6_sum, cX6_howMany, cX6_holds, cX2_hasPlace, cX2_length, cX2_taskAt, cX2_placeOf, cX2_clear],
  [cX2_add, cX2_restart, cX2_become, cX2_exchange, cX2_guessOf, cX0_endAt, cX0_latest, cX0_reckon, cX5_forceAt, cX5_howMany, cX5_from, cX5_strongestLeft, cX5_passOn, cX5_isLeft, cX1_leastGuess, cX1_find],
  [cX1_leastAfter, cX1_firstOfLeast, cX1_guessWithNext, cX7_leastBetween, cX7_teamOf, cX7_find, cX7_assign, cX7_mayBeBetter, cX7_keep, cX7_cutBefore, cX3_above, cX3_below, cX3_reckonOne, cX3_reckon, cX3_spentFrom, cX3_refine],
  [cX4_isLeaning, cX4_howMany, cX4_numberOf, cX4_find, cX4_lean, cX4_number, cX4_nextBlock, cX4_blockAround, cX8_task, cX8_time, cX8_need, cX8_strength, cX8_leans, cX8_blocks, cX8_block, cX8_least],
  [cX8_leastAt, cX8_saved, cX8_at, cX8_swap, cX8_take, cX8_guess, cX8_torn, cX8_chance, cX8_mean, cX8_often, cX8_ends, cX8_span, cX8_between, cX8_team, cX8_force, cX8_reach],
  [cX8_total, cX8_isTask, cX8_isTime, cX8_isTeamSize, cX8_sumOfTimes, cX8_inLeastTerms, cX8_commonDivisor, cX8_valueOf, cX9_in, cX9_no, cX9_told, cX9_task, cX9_time, cX9_need, cX9_strength, cX9_lean],
  [cX9_leans, cX9_isOne, cX9_isNext, cX9_numbered, cX9_blocks, cX9_block, cX9_guessed, cX9_leastOf, cX9_leastRow, cX9_least, cX9_leastAt, cX9_saved, cX9_at, cX9_guessOf, cX9_swap, cX9_take],
  [cX9_guess, cX9_placeOf, cX9_torn, cX9_chance, cX9_meanOf, cX9_mean, cX9_often, cX9_beside, cX9_ends, cX9_span, cX9_betweenOf, cX9_teamsOf, cX9_isMore, cX9_greatest, cX9_teams, cX9_between],
  [cX9_team, cX9_forces, cX9_force, cX9_reach, cX9_total, cL_law]]
def bN (m : Nat) : ByteArray := mTab bNs cL_law m
def rNs : List (List (Option FieldType)) := [[some .int, some .int, none, none, some .int, some .int, some .int, some .int, some .int, some .int, some .boolean, some .boolean, some .int, some .int, some .int, none],
  [none, none, none, none, some .int, some .int, some .int, none, some .int, some .int, none, some .int, none, some .boolean, some .int, some (.object "DesignTurns$Order")],
  [some .int, some .int, some .int, some .int, some .int, none, none, some .boolean, none, some .int, some .long, some .long, none, none, some .long, none],
  [some .boolean, some .int, some .int, none, none, none, some .int, some .int, some .int, some .int, some .int, some .int, some .int, some .int, some .int, some .int],
  [some .int, some .int, some .int, some .int, some .int, some .int, some .int, some .int, some .long, some .long, some .int, some .int, some .int, some .int, some .long, some .int],
  [some .int, some .boolean, some .boolean, some .boolean, some .int, some .long, some .long, some .int, some .boolean, some .boolean, some .long, some .int, some .int, some .int, some .int, none],
  [some .int, some .boolean, some .boolean, some .int, some .int, some .int, some .int, some .int, none, some .int, some .int, some .int, some .int, some .int, some .int, some .int],
  [some .int, some .int, some .int, some .int, some .long, some .long, some .long, some .int, some .int, some .int, some .int, some .int, some .boolean, some .int, none, some .int],
  [some .int, none, some .long, some .int, some .int, some .boolean]]
def rN (m : Nat) : Option FieldType := mTab rNs none m
end
section
/-! what the pool entries mean: (class, entry, .. , place of the word in the tables) -/
def kF : List (Nat × Nat × Nat × Nat × Nat) := [(6, 9, 6, 0, 63), (2, 9, 2, 0, 74), (2, 15, 2, 1, 75), (4, 9, 4, 0, 87), (4, 15, 4, 1, 88), (4, 22, 4, 2, 89), (1, 9, 1, 0, 105), (1, 18, 1, 1, 106), (3, 9, 3, 0, 118), (3, 15, 3, 1, 119), (3, 19, 3, 2, 120), (0, 9, 0, 0, 135), (7, 9, 7, 0, 145), (7, 15, 7, 1, 146), (7, 18, 7, 2, 147), (7, 41, 7, 3, 148), (7, 44, 7, 4, 149), (7, 21, 7, 5, 150), (7, 48, 7, 6, 151), (5, 9, 5, 0, 173), (5, 20, 5, 1, 174), (8, 9, 8, 0, 180), (8, 16, 8, 1, 181), (8, 20, 8, 2, 182), (8, 26, 8, 3, 183), (8, 33, 8, 4, 184), (8, 40, 8, 5, 185), (8, 47, 8, 6, 186), (8, 54, 8, 7, 187), (8, 61, 8, 8, 188), (8, 68, 8, 9, 189), (8, 72, 8, 10, 190), (9, 51, 9, 0, 599), (9, 55, 9, 1, 600), (9, 7, 9, 2, 601), (9, 13, 9, 3, 602), (9, 16, 9, 4, 603), (9, 19, 9, 5, 604), (9, 22, 9, 6, 605), (9, 25, 9, 7, 606), (9, 29, 9, 8, 607), (9, 32, 9, 9, 608), (9, 36, 9, 10, 609), (9, 39, 9, 11, 610), (9, 42, 9, 12, 611), (9, 45, 9, 13, 612), (9, 121, 9, 14, 613), (9, 48, 9, 15, 614)]
def kV : List (Nat × Nat × Nat × Nat) := [(12, 13, 56, 214), (8, 80, 17, 221), (2, 23, 15, 225), (2, 26, 16, 229), (12, 18, 57, 233), (8, 84, 81, 237), (12, 23, 58, 241), (8, 87, 6, 245), (12, 28, 59, 252), (8, 91, 4, 256), (12, 32, 60, 260), (8, 95, 51, 264), (4, 26, 52, 268), (4, 34, 4, 272), (4, 40, 48, 273), (4, 30, 53, 280), (4, 44, 54, 284), (4, 47, 55, 288), (8, 99, 48, 292), (12, 36, 61, 293), (8, 103, 49, 297), (12, 41, 62, 301), (8, 107, 50, 305), (12, 45, 63, 309), (8, 111, 30, 313), (1, 22, 32, 317), (1, 41, 34, 322), (1, 55, 4, 327), (12, 49, 64, 331), (8, 115, 31, 335), (1, 26, 30, 339), (1, 30, 15, 340), (1, 33, 33, 341), (1, 36, 16, 345), (8, 118, 13, 346), (2, 19, 11, 350), (12, 53, 65, 354), (12, 57, 66, 358), (12, 61, 67, 362), (8, 121, 11, 366), (8, 124, 19, 367), (8, 128, 20, 371), (2, 33, 13, 375), (2, 37, 4, 376), (12, 65, 68, 377), (8, 132, 18, 381), (2, 30, 12, 385), (12, 69, 69, 389), (12, 73, 70, 393), (8, 136, 14, 397), (12, 77, 71, 401), (8, 139, 7, 405), (6, 19, 4, 409), (12, 81, 72, 410), (8, 142, 45, 414), (3, 33, 12, 421), (3, 39, 13, 422), (3, 49, 4, 425), (3, 55, 46, 426), (3, 59, 47, 433), (8, 146, 42, 437), (8, 150, 43, 441), (12, 86, 73, 451), (8, 159, 44, 456), (3, 23, 45, 460), (12, 91, 74, 461), (8, 163, 23, 465), (0, 31, 12, 472), (0, 37, 13, 473), (0, 41, 4, 474), (8, 164, 21, 477), (12, 95, 75, 481), (8, 167, 22, 485), (12, 99, 76, 489), (8, 173, 37, 496), (7, 55, 39, 506), (7, 59, 40, 510), (7, 63, 41, 517), (7, 76, 5, 521), (8, 176, 35, 526), (12, 103, 77, 530), (8, 179, 36, 534), (12, 107, 78, 539), (8, 182, 26, 543), (5, 24, 27, 548), (5, 32, 29, 552), (5, 28, 28, 556), (5, 36, 24, 560), (5, 40, 4, 565), (8, 186, 24, 567), (12, 112, 79, 569), (8, 191, 25, 573), (12, 116, 80, 577), (8, 193, 9, 581), (8, 194, 8, 585), (8, 197, 84, 589), (12, 17, 91, 649), (12, 22, 92, 657), (9, 64, 89, 661), (12, 27, 93, 665), (12, 31, 94, 670), (12, 35, 96, 674), (9, 70, 95, 678), (12, 40, 100, 682), (9, 80, 99, 686), (9, 77, 98, 690), (9, 73, 97, 694), (12, 44, 101, 698), (12, 48, 105, 702), (9, 88, 103, 706), (9, 84, 102, 710), (12, 52, 106, 714), (9, 91, 104, 718), (12, 56, 107, 722), (12, 60, 108, 726), (12, 64, 110, 730), (9, 94, 109, 734), (12, 68, 111, 738), (12, 72, 112, 742), (12, 76, 114, 746), (9, 97, 113, 750), (12, 80, 115, 754), (12, 85, 117, 759), (9, 109, 116, 763), (12, 90, 118, 771), (12, 94, 120, 776), (9, 115, 119, 780), (12, 98, 121, 784), (12, 102, 127, 788), (9, 134, 126, 792), (9, 124, 123, 796), (9, 127, 122, 800), (9, 130, 124, 804), (9, 118, 125, 808), (12, 106, 128, 812), (12, 111, 130, 816), (9, 140, 129, 820), (12, 115, 131, 825), (12, 119, 132, 831)]
def kS : List (Nat × Nat × Nat × Nat) := [(8, 76, 82, 218), (6, 15, 10, 249), (3, 27, 2, 418), (8, 153, 85, 445), (8, 200, 86, 448), (0, 25, 3, 469), (8, 170, 83, 493), (7, 29, 3, 500), (7, 51, 38, 503), (9, 58, 88, 654), (9, 105, 90, 768)]
def kN : List (Nat × Nat × Nat × Nat) := [(4, 18, 87, 277), (1, 51, 87, 326), (3, 45, 87, 424), (0, 15, 87, 476), (7, 25, 87, 538), (5, 15, 87, 564)]
def kI : List (Nat × Nat × Int × Nat) := [(1, 40, 1000000, 321), (7, 47, 1000000, 502), (5, 19, 10000000, 547)]
def kL : List (Nat × Nat × Int × Nat) := [(3, 43, 10, 423), (8, 157, (-1), 455), (8, 189, 10000000, 568), (9, 62, 20, 653), (9, 68, 9, 669), (9, 101, 8, 758), (9, 103, 10, 767), (9, 113, (-1), 775), (9, 138, 10000000, 824), (9, 143, 1000, 829), (9, 145, 10000, 830)]
def kX : List (Nat × Nat × Nat × Nat) := [(1, 45, 902, 328), (3, 63, 901, 430), (0, 19, 901, 475), (7, 35, 902, 501), (7, 67, 901, 525), (5, 46, 901, 566)]
def kA : Nat × Nat × Nat := (7, 70, 514)
def kM : List (List (Nat × Nat × Nat × Nat)) := [[(432, 431, 0, 46), (330, 329, 0, 46), (420, 419, 0, 47), (471, 470, 0, 47), (259, 257, 258, 37), (524, 522, 523, 37), (248, 246, 247, 37), (408, 406, 407, 37), (588, 586, 587, 37), (584, 582, 583, 37), (251, 250, 0, 37), (353, 351, 352, 38), (388, 386, 387, 38), (349, 347, 348, 38), (400, 398, 399, 38), (228, 226, 227, 38)],
  [(232, 230, 231, 38), (224, 222, 223, 38), (384, 382, 383, 38), (370, 368, 369, 38), (374, 372, 373, 38), (480, 478, 479, 42), (488, 486, 487, 42), (468, 466, 467, 42), (563, 561, 562, 44), (576, 574, 575, 44), (546, 544, 545, 44), (551, 550, 13, 44), (559, 558, 15, 44), (555, 554, 14, 44), (316, 314, 315, 40), (338, 336, 337, 40)],
  [(320, 319, 5, 40), (344, 343, 7, 40), (325, 324, 6, 40), (529, 527, 528, 43), (537, 535, 536, 43), (499, 497, 498, 43), (505, 504, 0, 43), (509, 508, 10, 43), (513, 512, 11, 43), (520, 519, 12, 43), (440, 438, 439, 41), (444, 442, 443, 41), (459, 457, 458, 41), (417, 415, 416, 41), (429, 428, 8, 41), (436, 435, 9, 41)],
  [(276, 274, 275, 39), (300, 298, 299, 39), (308, 306, 307, 39), (267, 265, 266, 39), (271, 270, 1, 39), (283, 282, 2, 39), (287, 286, 3, 39), (291, 290, 4, 39), (217, 215, 216, 36), (236, 234, 235, 36), (244, 242, 243, 36), (255, 253, 254, 36), (263, 261, 262, 36), (296, 294, 295, 36), (304, 302, 303, 36), (312, 310, 311, 36)],
  [(334, 332, 333, 36), (357, 355, 356, 36), (361, 359, 360, 36), (365, 363, 364, 36), (380, 378, 379, 36), (392, 390, 391, 36), (396, 394, 395, 36), (404, 402, 403, 36), (413, 411, 412, 36), (454, 452, 453, 36), (464, 462, 463, 36), (484, 482, 483, 36), (492, 490, 491, 36), (533, 531, 532, 36), (542, 540, 541, 36), (572, 570, 571, 36)],
  [(580, 578, 579, 36), (240, 239, 0, 36), (220, 219, 0, 36), (495, 494, 0, 36), (592, 591, 16, 36), (447, 446, 0, 36), (450, 449, 0, 36), (279, 278, 0, 36), (656, 655, 0, 45), (664, 663, 17, 45), (770, 769, 0, 45), (652, 650, 651, 45), (660, 658, 659, 45), (668, 666, 667, 45), (673, 671, 672, 45), (681, 680, 18, 45)],
  [(677, 675, 676, 45), (697, 696, 21, 45), (693, 692, 20, 45), (689, 688, 19, 45), (685, 683, 684, 45), (701, 699, 700, 45), (713, 712, 23, 45), (709, 708, 22, 45), (721, 720, 24, 45), (705, 703, 704, 45), (717, 715, 716, 45), (725, 723, 724, 45), (729, 727, 728, 45), (737, 736, 25, 45), (733, 731, 732, 45), (741, 739, 740, 45)],
  [(745, 743, 744, 45), (753, 752, 26, 45), (749, 747, 748, 45), (757, 755, 756, 45), (766, 765, 27, 45), (762, 760, 761, 45), (774, 772, 773, 45), (783, 782, 28, 45), (779, 777, 778, 45), (787, 785, 786, 45), (803, 802, 31, 45), (799, 798, 30, 45), (807, 806, 32, 45), (811, 810, 33, 45), (795, 794, 29, 45), (791, 789, 790, 45)],
  [(815, 813, 814, 45), (823, 822, 34, 45), (819, 817, 818, 45), (828, 826, 827, 45), (834, 832, 833, 45)]]
def kW : List (List Nat) := [[136], [107, 109], [76, 78], [121, 123, 125], [90, 92, 94], [175, 177], [64], [152, 154, 156, 158, 160, 162, 164], [191, 193, 195, 197, 199, 201, 203, 205, 207, 209, 211], [615, 617, 619, 621, 623, 625, 627, 629, 631, 633, 635, 637, 639, 641, 643, 645]]
/-- the cells of the whole world: (0, an object, its class), (1 ints, 2 longs, 3 booleans; an array, its length) -/
def wI : List (Nat × Nat × Nat) := [(0, 0, 8), (0, 1, 6), (0, 2, 6), (0, 3, 2), (0, 4, 4), (0, 5, 1), (0, 6, 2), (0, 7, 3), (0, 8, 0), (0, 9, 7), (0, 10, 5), (0, 11, 9), (1, 0, 8), (1, 16, 64), (1, 32, 64), (1, 48, 8), (1, 64, 8), (1, 65, 8), (1, 80, 256), (1, 96, 8), (2, 112, 8), (1, 113, 8), (1, 128, 8), (1, 144, 8), (1, 145, 8), (1, 146, 8), (1, 160, 8), (1, 178, 8), (1, 179, 64), (1, 180, 64), (1, 181, 8), (1, 182, 256), (3, 183, 64), (1, 184, 8), (2, 185, 8), (2, 186, 9), (1, 187, 8), (1, 188, 8), (1, 189, 8), (2, 191, 8)]
def lw_good : List Cond := lw_tbl.filter goodWord
theorem good_at {i : Nat} {w : Cond} (h : lw_tbl[i]? = some w) (g : goodWord w = true) : w ∈ lw_good := List.mem_filter.mpr ⟨List.mem_of_getElem? h, g⟩
theorem kF_at : ∀ q ∈ kF, lw_tbl[q.2.2.2.2]? = some (.fieldLink (cN q.1) q.2.1 (cN q.2.2.1) (cT q.2.2.1 q.2.2.2.1).2.1 (cT q.2.2.1 q.2.2.2.1).2.2.1) := by decide +kernel
theorem kV_at : ∀ q ∈ kV, lw_tbl[q.2.2.2]? = some (.methodLink (cN q.1) q.2.1 (yN q.2.2.1)) := by decide +kernel
theorem kS_at : ∀ q ∈ kS, lw_tbl[q.2.2.2]? = some (.methodLink (cN q.1) q.2.1 (yN q.2.2.1)) := by decide +kernel
theorem kN_at : ∀ q ∈ kN, lw_tbl[q.2.2.2]? = some (.methodLinkNest (cN q.1) q.2.1 (yN q.2.2.1) "DesignTurns") := by decide +kernel
theorem kX_at : ∀ q ∈ kX, lw_tbl[q.2.2.2]? = some (.methodLink (cN q.1) q.2.1 (if q.2.2.1 = 901 then Lib.Math.max.name else Lib.Math.min.name)) := by decide +kernel
theorem kI_at : ∀ q ∈ kI, lw_tbl[q.2.2.2]? = some (.constant (cN q.1) q.2.1 (jI q.2.2.1)) := by decide +kernel
theorem kL_at : ∀ q ∈ kL, lw_tbl[q.2.2.2]? = some (.constantLong (cN q.1) q.2.1 (jL q.2.2.1)) := by decide +kernel
def kMq (m : Nat) : Nat × Nat × Nat × Nat := mTab kM (0, 0, 0, 0) m
theorem kM_init : ∀ m, m < 133 → lw_tbl[(kMq m).2.2.2]? = some (.initialized (yN m).cls) := by decide +kernel
theorem kM_stat : ∀ m, m < 133 → mS m = true → lw_tbl[(kMq m).2.1]? = some (.static (yN m)) := by decide +kernel
theorem kM_inst : ∀ m, m < 133 → mS m = false → lw_tbl[(kMq m).2.1]? = some (.instanceMethod (yN m)) := by decide +kernel
theorem kM_sel : ∀ m, m < 133 → mS m = false → lw_tbl[(kMq m).2.2.1]? = some (.selects (cN (mK m)) (yN m) (yN m)) := by decide +kernel
theorem kM_name : ∀ m, m < 133 → (yN m).cls = cN (mK m) := by decide +kernel
theorem kM_name1 : ∀ m, m < 133 → (yN m).cls ≠ "java/lang/invoke/MethodHandle" := by decide +kernel
theorem kM_name2 : ∀ m, m < 133 → (yN m).cls ≠ "java/lang/invoke/VarHandle" := by decide +kernel
theorem kM_name3 : ∀ m, m < 133 → 2 ≤ m → plainName (yN m).cls = true := by decide +kernel
theorem kM_arg : ∀ m, m < 133 → (parseMethodDescriptor (yN m).desc).map (fun d => d.parameters.length) = some (if mS m = true then mA m else mA m - 1) := by decide +kernel
theorem kM_arg0 : ∀ m, m < 133 → mS m = false → 1 ≤ mA m := by decide +kernel
theorem kM_loc : ∀ m, m < 133 → mW m ≤ 11 := by decide +kernel
theorem kM_cls : ∀ m, m < 133 → mS m = false → mK m < 10 := by decide +kernel
def kWp (c k : Nat) : Nat := (mNth ((mNth kW c).getD []) k).getD 0
theorem kW_at : ∀ c, c < 10 → ∀ k, k < cF c → lw_tbl[kWp c k]? = some (u_lay (cN c) (cT c) k) := by decide +kernel
theorem kC_at : ∀ c, c < 10 → vwCl[c]? = some (cN c, cT c, cF c) := by
  intro c h
  match c, h with
  | 0, _ | 1, _ | 2, _ | 3, _ | 4, _ | 5, _ | 6, _ | 7, _ | 8, _ | 9, _ => rfl
  | n + 10, h => omega
theorem kY_ok : ∀ c, c < 10 → ∀ k, k < cF c → parseFieldDescriptor (cT c k).2.2.1 = some (cY c k) := by decide +kernel
theorem kT_ok : ∀ c, c < 10 → ∀ a, a < cF c → ∀ b, b < cF c → a ≠ b → (cT c a).2.1 ≠ (cT c b).2.1 := by decide +kernel
theorem kT_own : ∀ c, c < 10 → ∀ k, k < cF c → (cT c k).1 = cN c := by decide +kernel
/-- the kinds of the fields are their types; an int or a long is never final here -/
theorem kT_kind : ∀ c, c < 10 → ∀ k, k < cF c → (fK c k = 0 → cY c k = .int ∧ (cT c k).2.2.2 = false) ∧ (fK c k = 1 → cY c k = .long ∧ (cT c k).2.2.2 = false) := by decide +kernel
theorem kF_in : ∀ q ∈ kF, q.2.2.1 < 10 ∧ q.2.2.2.1 < cF q.2.2.1 := by decide +kernel
theorem kV_in : ∀ q ∈ kV, q.2.2.1 < 133 ∧ 2 ≤ q.2.2.1 ∧ mS q.2.2.1 = false := by decide +kernel
theorem kS_in : ∀ q ∈ kS, q.2.2.1 < 133 ∧ 2 ≤ q.2.2.1 ∧ mS q.2.2.1 = true := by decide +kernel
theorem kN_in : ∀ q ∈ kN, q.2.2.1 < 133 ∧ 2 ≤ q.2.2.1 ∧ mS q.2.2.1 = true := by decide +kernel
theorem cF_16 : ∀ c, c < 10 → cF c ≤ 16 := by decide +kernel
end
section
theorem al_0 {P : Nat → Prop} : ∀ m, m < 0 → P m := fun _ h => absurd h (Nat.not_lt_zero _)
theorem al_s {P : Nat → Prop} {n : Nat} (h : ∀ m, m < n → P m) (k : P n) : ∀ m, m < n + 1 → P m := fun m z => (Nat.lt_succ_iff_lt_or_eq.mp z).elim (h m) (fun e => e ▸ k)
def kMc (m : Nat) : Prop := lw_tbl[(kMq m).1]? = some (.code (yN m) (bN m) (mW m) (rN m))
set_option maxRecDepth 100000 in
theorem kMc_0 : kMc 0 := by
  unfold kMc
  rfl
set_option maxRecDepth 100000 in
theorem kMc_1 : kMc 1 := by
  unfold kMc
  rfl
set_option maxRecDepth 100000 in
theorem kMc_2 : kMc 2 := by
  unfold kMc
  rfl
set_option maxRecDepth 100000 in
theorem kMc_3 : kMc 3 := by
  unfold kMc
  rfl
set_option maxRecDepth 100000 in
theorem kMc_4 : kMc 4 := by
  unfold kMc
  rfl
set_option maxRecDepth 100000 in
theorem kMc_5 : kMc 5 := by
  unfold kMc
  rfl
set_option maxRecDepth 100000 in
theorem kMc_6 : kMc 6 := by
  unfold kMc
  rfl
set_option maxRecDepth 100000 in
theorem kMc_7 : kMc 7 := by
  unfold kMc
  rfl
set_option maxRecDepth 100000 in
theorem kMc_8 : kMc 8 := by
  unfold kMc
  rfl
set_option maxRecDepth 100000 in
theorem kMc_9 : kMc 9 := by
  unfold kMc
  rfl
set_option maxRecDepth 100000 in
theorem kMc_10 : kMc 10 := by
  unfold kMc
  rfl
set_option maxRecDepth 100000 in
theorem kMc_11 : kMc 11 := by
  unfold kMc
  rfl
set_option maxRecDepth 100000 in
theorem kMc_12 : kMc 12 := by
  unfold kMc
  rfl
set_option maxRecDepth 100000 in
theorem kMc_13 : kMc 13 := by
  unfold kMc
  rfl
set_option maxRecDepth 100000 in
theorem kMc_14 : kMc 14 := by
  unfold kMc
  rfl
set_option maxRecDepth 100000 in
theorem kMc_15 : kMc 15 := by
  unfold kMc
  rfl
set_option maxRecDepth 100000 in
theorem kMc_16 : kMc 16 := by
  unfold kMc
  rfl
set_option maxRecDepth 100000 in
theorem kMc_17 : kMc 17 := by
  unfold kMc
  rfl
set_option maxRecDepth 100000 in
theorem kMc_18 : kMc 18 := by
  unfold kMc
  rfl
set_option maxRecDepth 100000 in
theorem kMc_19 : kMc 19 := by
  unfold kMc
  rfl
set_option maxRecDepth 100000 in
theorem kMc_20 : kMc 20 := by
  unfold kMc
  rfl
set_option maxRecDepth 100000 in
theorem kMc_21 : kMc 21 := by
  unfold kMc
  rfl
set_option maxRecDepth 100000 in
theorem kMc_22 : kMc 22 := by
  unfold kMc
  rfl
set_option maxRecDepth 100000 in
theorem kMc_23 : kMc 23 := by
  unfold kMc
  rfl
set_option maxRecDepth 100000 in
theorem kMc_24 : kMc 24 := by
  unfold kMc
  rfl
set_option maxRecDepth 100000 in
theorem kMc_25 : kMc 25 := by
  unfold kMc
  rfl
set_option maxRecDepth 100000 in
theorem kMc_26 : kMc 26 := by
  unfold kMc
  rfl
set_option maxRecDepth 100000 in
theorem kMc_27 : kMc 27 := by
  unfold kMc
  rfl
set_option maxRecDepth 100000 in
theorem kMc_28 : kMc 28 := by
  unfold kMc
  rfl
set_option maxRecDepth 100000 in
theorem kMc_29 : kMc 29 := by
  unfold kMc
  rfl
set_option maxRecDepth 100000 in
theorem kMc_30 : kMc 30 := by
  unfold kMc
  rfl
set_option maxRecDepth 100000 in
theorem kMc_31 : kMc 31 := by
  unfold kMc
  rfl
set_option maxRecDepth 100000 in
theorem kMc_32 : kMc 32 := by
  unfold kMc
  rfl
set_option maxRecDepth 100000 in
theorem kMc_33 : kMc 33 := by
  unfold kMc
  rfl
set_option maxRecDepth 100000 in
theorem kMc_34 : kMc 34 := by
  unfold kMc
  rfl
set_option maxRecDepth 100000 in
theorem kMc_35 : kMc 35 := by
  unfold kMc
  rfl
set_option maxRecDepth 100000 in
theorem kMc_36 : kMc 36 := by
  unfold kMc
  rfl
set_option maxRecDepth 100000 in
theorem kMc_37 : kMc 37 := by
  unfold kMc
  rfl
set_option maxRecDepth 100000 in
theorem kMc_38 : kMc 38 := by
  unfold kMc
  rfl
set_option maxRecDepth 100000 in
theorem kMc_39 : kMc 39 := by
  unfold kMc
  rfl
set_option maxRecDepth 100000 in
theorem kMc_40 : kMc 40 := by
  unfold kMc
  rfl
set_option maxRecDepth 100000 in
theorem kMc_41 : kMc 41 := by
  unfold kMc
  rfl
set_option maxRecDepth 100000 in
theorem kMc_42 : kMc 42 := by
  unfold kMc
  rfl
set_option maxRecDepth 100000 in
theorem kMc_43 : kMc 43 := by
  unfold kMc
  rfl
set_option maxRecDepth 100000 in
theorem kMc_44 : kMc 44 := by
  unfold kMc
  rfl
set_option maxRecDepth 100000 in
theorem kMc_45 : kMc 45 := by
  unfold kMc
  rfl
set_option maxRecDepth 100000 in
theorem kMc_46 : kMc 46 := by
  unfold kMc
  rfl
set_option maxRecDepth 100000 in
theorem kMc_47 : kMc 47 := by
  unfold kMc
  rfl
set_option maxRecDepth 100000 in
theorem kMc_48 : kMc 48 := by
  unfold kMc
  rfl
set_option maxRecDepth 100000 in
theorem kMc_49 : kMc 49 := by
  unfold kMc
  rfl
set_option maxRecDepth 100000 in
theorem kMc_50 : kMc 50 := by
  unfold kMc
  rfl
set_option maxRecDepth 100000 in
theorem kMc_51 : kMc 51 := by
  unfold kMc
  rfl
set_option maxRecDepth 100000 in
theorem kMc_52 : kMc 52 := by
  unfold kMc
  rfl
set_option maxRecDepth 100000 in
theorem kMc_53 : kMc 53 := by
  unfold kMc
  rfl
set_option maxRecDepth 100000 in
theorem kMc_54 : kMc 54 := by
  unfold kMc
  rfl
set_option maxRecDepth 100000 in
theorem kMc_55 : kMc 55 := by
  unfold kMc
  rfl
set_option maxRecDepth 100000 in
theorem kMc_56 : kMc 56 := by
  unfold kMc
  rfl
set_option maxRecDepth 100000 in
theorem kMc_57 : kMc 57 := by
  unfold kMc
  rfl
set_option maxRecDepth 100000 in
theorem kMc_58 : kMc 58 := by
  unfold kMc
  rfl
set_option maxRecDepth 100000 in
theorem kMc_59 : kMc 59 := by
  unfold kMc
  rfl
set_option maxRecDepth 100000 in
theorem kMc_60 : kMc 60 := by
  unfold kMc
  rfl
set_option maxRecDepth 100000 in
theorem kMc_61 : kMc 61 := by
  unfold kMc
  rfl
set_option maxRecDepth 100000 in
theorem kMc_62 : kMc 62 := by
  unfold kMc
  rfl
set_option maxRecDepth 100000 in
theorem kMc_63 : kMc 63 := by
  unfold kMc
  rfl
set_option maxRecDepth 100000 in
theorem kMc_64 : kMc 64 := by
  unfold kMc
  rfl
set_option maxRecDepth 100000 in
theorem kMc_65 : kMc 65 := by
  unfold kMc
  rfl
set_option maxRecDepth 100000 in
theorem kMc_66 : kMc 66 := by
  unfold kMc
  rfl
set_option maxRecDepth 100000 in
theorem kMc_67 : kMc 67 := by
  unfold kMc
  rfl
set_option maxRecDepth 100000 in
theorem kMc_68 : kMc 68 := by
  unfold kMc
  rfl
set_option maxRecDepth 100000 in
theorem kMc_69 : kMc 69 := by
  unfold kMc
  rfl
set_option maxRecDepth 100000 in
theorem kMc_70 : kMc 70 := by
  unfold kMc
  rfl
set_option maxRecDepth 100000 in
theorem kMc_71 : kMc 71 := by
  unfold kMc
  rfl
set_option maxRecDepth 100000 in
theorem kMc_72 : kMc 72 := by
  unfold kMc
  rfl
set_option maxRecDepth 100000 in
theorem kMc_73 : kMc 73 := by
  unfold kMc
  rfl
set_option maxRecDepth 100000 in
theorem kMc_74 : kMc 74 := by
  unfold kMc
  rfl
set_option maxRecDepth 100000 in
theorem kMc_75 : kMc 75 := by
  unfold kMc
  rfl
set_option maxRecDepth 100000 in
theorem kMc_76 : kMc 76 := by
  unfold kMc
  rfl
set_option maxRecDepth 100000 in
theorem kMc_77 : kMc 77 := by
  unfold kMc
  rfl
set_option maxRecDepth 100000 in
theorem kMc_78 : kMc 78 := by
  unfold kMc
  rfl
set_option maxRecDepth 100000 in
theorem kMc_79 : kMc 79 := by
  unfold kMc
  rfl
set_option maxRecDepth 100000 in
theorem kMc_80 : kMc 80 := by
  unfold kMc
  rfl
set_option maxRecDepth 100000 in
theorem kMc_81 : kMc 81 := by
  unfold kMc
  rfl
set_option maxRecDepth 100000 in
theorem kMc_82 : kMc 82 := by
  unfold kMc
  rfl
set_option maxRecDepth 100000 in
theorem kMc_83 : kMc 83 := by
  unfold kMc
  rfl
set_option maxRecDepth 100000 in
theorem kMc_84 : kMc 84 := by
  unfold kMc
  rfl
set_option maxRecDepth 100000 in
theorem kMc_85 : kMc 85 := by
  unfold kMc
  rfl
set_option maxRecDepth 100000 in
theorem kMc_86 : kMc 86 := by
  unfold kMc
  rfl
set_option maxRecDepth 100000 in
theorem kMc_87 : kMc 87 := by
  unfold kMc
  rfl
set_option maxRecDepth 100000 in
theorem kMc_88 : kMc 88 := by
  unfold kMc
  rfl
set_option maxRecDepth 100000 in
theorem kMc_89 : kMc 89 := by
  unfold kMc
  rfl
set_option maxRecDepth 100000 in
theorem kMc_90 : kMc 90 := by
  unfold kMc
  rfl
set_option maxRecDepth 100000 in
theorem kMc_91 : kMc 91 := by
  unfold kMc
  rfl
set_option maxRecDepth 100000 in
theorem kMc_92 : kMc 92 := by
  unfold kMc
  rfl
set_option maxRecDepth 100000 in
theorem kMc_93 : kMc 93 := by
  unfold kMc
  rfl
set_option maxRecDepth 100000 in
theorem kMc_94 : kMc 94 := by
  unfold kMc
  rfl
set_option maxRecDepth 100000 in
theorem kMc_95 : kMc 95 := by
  unfold kMc
  rfl
set_option maxRecDepth 100000 in
theorem kMc_96 : kMc 96 := by
  unfold kMc
  rfl
set_option maxRecDepth 100000 in
theorem kMc_97 : kMc 97 := by
  unfold kMc
  rfl
set_option maxRecDepth 100000 in
theorem kMc_98 : kMc 98 := by
  unfold kMc
  rfl
set_option maxRecDepth 100000 in
theorem kMc_99 : kMc 99 := by
  unfold kMc
  rfl
set_option maxRecDepth 100000 in
theorem kMc_100 : kMc 100 := by
  unfold kMc
  rfl
set_option maxRecDepth 100000 in
theorem kMc_101 : kMc 101 := by
  unfold kMc
  rfl
set_option maxRecDepth 100000 in
theorem kMc_102 : kMc 102 := by
  unfold kMc
  rfl
set_option maxRecDepth 100000 in
theorem kMc_103 : kMc 103 := by
  unfold kMc
  rfl
set_option maxRecDepth 100000 in
theorem kMc_104 : kMc 104 := by
  unfold kMc
  rfl
set_option maxRecDepth 100000 in
theorem kMc_105 : kMc 105 := by
  unfold kMc
  rfl
set_option maxRecDepth 100000 in
theorem kMc_106 : kMc 106 := by
  unfold kMc
  rfl
set_option maxRecDepth 100000 in
theorem kMc_107 : kMc 107 := by
  unfold kMc
  rfl
set_option maxRecDepth 100000 in
theorem kMc_108 : kMc 108 := by
  unfold kMc
  rfl
set_option maxRecDepth 100000 in
theorem kMc_109 : kMc 109 := by
  unfold kMc
  rfl
set_option maxRecDepth 100000 in
theorem kMc_110 : kMc 110 := by
  unfold kMc
  rfl
set_option maxRecDepth 100000 in
theorem kMc_111 : kMc 111 := by
  unfold kMc
  rfl
set_option maxRecDepth 100000 in
theorem kMc_112 : kMc 112 := by
  unfold kMc
  rfl
set_option maxRecDepth 100000 in
theorem kMc_113 : kMc 113 := by
  unfold kMc
  rfl
set_option maxRecDepth 100000 in
theorem kMc_114 : kMc 114 := by
  unfold kMc
  rfl
set_option maxRecDepth 100000 in
theorem kMc_115 : kMc 115 := by
  unfold kMc
  rfl
set_option maxRecDepth 100000 in
theorem kMc_116 : kMc 116 := by
  unfold kMc
  rfl
set_option maxRecDepth 100000 in
theorem kMc_117 : kMc 117 := by
  unfold kMc
  rfl
set_option maxRecDepth 100000 in
theorem kMc_118 : kMc 118 := by
  unfold kMc
  rfl
set_option maxRecDepth 100000 in
theorem kMc_119 : kMc 119 := by
  unfold kMc
  rfl
set_option maxRecDepth 100000 in
theorem kMc_120 : kMc 120 := by
  unfold kMc
  rfl
set_option maxRecDepth 100000 in
theorem kMc_121 : kMc 121 := by
  unfold kMc
  rfl
set_option maxRecDepth 100000 in
theorem kMc_122 : kMc 122 := by
  unfold kMc
  rfl
set_option maxRecDepth 100000 in
theorem kMc_123 : kMc 123 := by
  unfold kMc
  rfl
set_option maxRecDepth 100000 in
theorem kMc_124 : kMc 124 := by
  unfold kMc
  rfl
set_option maxRecDepth 100000 in
theorem kMc_125 : kMc 125 := by
  unfold kMc
  rfl
set_option maxRecDepth 100000 in
theorem kMc_126 : kMc 126 := by
  unfold kMc
  rfl
set_option maxRecDepth 100000 in
theorem kMc_127 : kMc 127 := by
  unfold kMc
  rfl
set_option maxRecDepth 100000 in
theorem kMc_128 : kMc 128 := by
  unfold kMc
  rfl
set_option maxRecDepth 100000 in
theorem kMc_129 : kMc 129 := by
  unfold kMc
  rfl
set_option maxRecDepth 100000 in
theorem kMc_130 : kMc 130 := by
  unfold kMc
  rfl
set_option maxRecDepth 100000 in
theorem kMc_131 : kMc 131 := by
  unfold kMc
  rfl
set_option maxRecDepth 100000 in
theorem kMc_132 : kMc 132 := by
  unfold kMc
  rfl
theorem kX_code1 : Cond.code Lib.Math.max.name Lib.Math.max.code 2 (some .int) ∈ lw_tbl := List.mem_of_getElem? (i := (kMq 0).1) (by decide +kernel)
theorem kX_code2 : Cond.code Lib.Math.min.name Lib.Math.min.code 2 (some .int) ∈ lw_tbl := List.mem_of_getElem? (i := (kMq 1).1) (by decide +kernel)
theorem kX_st1 : Cond.static Lib.Math.max.name ∈ lw_tbl := List.mem_of_getElem? (i := (kMq 0).2.1) (by decide +kernel)
theorem kX_st2 : Cond.static Lib.Math.min.name ∈ lw_tbl := List.mem_of_getElem? (i := (kMq 1).2.1) (by decide +kernel)
theorem kX_in : Cond.initialized "java/lang/Math" ∈ lw_tbl := List.mem_of_getElem? (i := (kMq 0).2.2.2) (by decide +kernel)
theorem kA_link : Cond.methodLink (cN kA.1) kA.2.1 arraycopyName ∈ lw_tbl := List.mem_of_getElem? (i := kA.2.2) (by decide +kernel)
theorem kA_nat : Cond.native arraycopyName ∈ lw_tbl := by decide +kernel
theorem kA_stat : Cond.static arraycopyName ∈ lw_tbl := by decide +kernel
theorem kA_init : Cond.initialized "java/lang/System" ∈ lw_tbl := by decide +kernel
theorem kM_code : ∀ m, m < 133 → kMc m :=
  have a1 := al_s (P := kMc) al_0 kMc_0
  have a2 := al_s a1 kMc_1
  have a3 := al_s a2 kMc_2
  have a4 := al_s a3 kMc_3
  have a5 := al_s a4 kMc_4
  have a6 := al_s a5 kMc_5
  have a7 := al_s a6 kMc_6
  have a8 := al_s a7 kMc_7
  have a9 := al_s a8 kMc_8
  have a10 := al_s a9 kMc_9
  have a11 := al_s a10 kMc_10
  have a12 := al_s a11 kMc_11
  have a13 := al_s a12 kMc_12
  have a14 := al_s a13 kMc_13
  have a15 := al_s a14 kMc_14
  have a16 := al_s a15 kMc_15
  have a17 := al_s a16 kMc_16
  have a18 := al_s a17 kMc_17
  have a19 := al_s a18 kMc_18
  have a20 := al_s a19 kMc_19
  have a21 := al_s a20 kMc_20
  have a22 := al_s a21 kMc_21
  have a23 := al_s a22 kMc_22
  have a24 := al_s a23 kMc_23
  have a25 := al_s a24 kMc_24
  have a26 := al_s a25 kMc_25
  have a27 := al_s a26 kMc_26
  have a28 := al_s a27 kMc_27
  have a29 := al_s a28 kMc_28
  have a30 := al_s a29 kMc_29
  have a31 := al_s a30 kMc_30
  have a32 := al_s a31 kMc_31
  have a33 := al_s a32 kMc_32
  have a34 := al_s a33 kMc_33
  have a35 := al_s a34 kMc_34
  have a36 := al_s a35 kMc_35
  have a37 := al_s a36 kMc_36
  have a38 := al_s a37 kMc_37
  have a39 := al_s a38 kMc_38
  have a40 := al_s a39 kMc_39
  have a41 := al_s a40 kMc_40
  have a42 := al_s a41 kMc_41
  have a43 := al_s a42 kMc_42
  have a44 := al_s a43 kMc_43
  have a45 := al_s a44 kMc_44
  have a46 := al_s a45 kMc_45
  have a47 := al_s a46 kMc_46
  have a48 := al_s a47 kMc_47
  have a49 := al_s a48 kMc_48
  have a50 := al_s a49 kMc_49
  have a51 := al_s a50 kMc_50
  have a52 := al_s a51 kMc_51
  have a53 := al_s a52 kMc_52
  have a54 := al_s a53 kMc_53
  have a55 := al_s a54 kMc_54
  have a56 := al_s a55 kMc_55
  have a57 := al_s a56 kMc_56
  have a58 := al_s a57 kMc_57
  have a59 := al_s a58 kMc_58
  have a60 := al_s a59 kMc_59
  have a61 := al_s a60 kMc_60
  have a62 := al_s a61 kMc_61
  have a63 := al_s a62 kMc_62
  have a64 := al_s a63 kMc_63
  have a65 := al_s a64 kMc_64
  have a66 := al_s a65 kMc_65
  have a67 := al_s a66 kMc_66
  have a68 := al_s a67 kMc_67
  have a69 := al_s a68 kMc_68
  have a70 := al_s a69 kMc_69
  have a71 := al_s a70 kMc_70
  have a72 := al_s a71 kMc_71
  have a73 := al_s a72 kMc_72
  have a74 := al_s a73 kMc_73
  have a75 := al_s a74 kMc_74
  have a76 := al_s a75 kMc_75
  have a77 := al_s a76 kMc_76
  have a78 := al_s a77 kMc_77
  have a79 := al_s a78 kMc_78
  have a80 := al_s a79 kMc_79
  have a81 := al_s a80 kMc_80
  have a82 := al_s a81 kMc_81
  have a83 := al_s a82 kMc_82
  have a84 := al_s a83 kMc_83
  have a85 := al_s a84 kMc_84
  have a86 := al_s a85 kMc_85
  have a87 := al_s a86 kMc_86
  have a88 := al_s a87 kMc_87
  have a89 := al_s a88 kMc_88
  have a90 := al_s a89 kMc_89
  have a91 := al_s a90 kMc_90
  have a92 := al_s a91 kMc_91
  have a93 := al_s a92 kMc_92
  have a94 := al_s a93 kMc_93
  have a95 := al_s a94 kMc_94
  have a96 := al_s a95 kMc_95
  have a97 := al_s a96 kMc_96
  have a98 := al_s a97 kMc_97
  have a99 := al_s a98 kMc_98
  have a100 := al_s a99 kMc_99
  have a101 := al_s a100 kMc_100
  have a102 := al_s a101 kMc_101
  have a103 := al_s a102 kMc_102
  have a104 := al_s a103 kMc_103
  have a105 := al_s a104 kMc_104
  have a106 := al_s a105 kMc_105
  have a107 := al_s a106 kMc_106
  have a108 := al_s a107 kMc_107
  have a109 := al_s a108 kMc_108
  have a110 := al_s a109 kMc_109
  have a111 := al_s a110 kMc_110
  have a112 := al_s a111 kMc_111
  have a113 := al_s a112 kMc_112
  have a114 := al_s a113 kMc_113
  have a115 := al_s a114 kMc_114
  have a116 := al_s a115 kMc_115
  have a117 := al_s a116 kMc_116
  have a118 := al_s a117 kMc_117
  have a119 := al_s a118 kMc_118
  have a120 := al_s a119 kMc_119
  have a121 := al_s a120 kMc_120
  have a122 := al_s a121 kMc_121
  have a123 := al_s a122 kMc_122
  have a124 := al_s a123 kMc_123
  have a125 := al_s a124 kMc_124
  have a126 := al_s a125 kMc_125
  have a127 := al_s a126 kMc_126
  have a128 := al_s a127 kMc_127
  have a129 := al_s a128 kMc_128
  have a130 := al_s a129 kMc_129
  have a131 := al_s a130 kMc_130
  have a132 := al_s a131 kMc_131
  have a133 := al_s a132 kMc_132
  a133
end
section
def ilen (pc : Nat) : Instr → Nat
  | .aload _ | .iload _ | .lload _ | .astore _ | .istore _ | .lstore _ | .bipush _ | .ldc _ => 2
  | .sipush _ | .ldc2_w _ | .iinc _ _ | .ifCond _ _ | .if_icmp _ _ | .goto _ | .getfield _ | .putfield _ | .invokevirtual _ | .invokestatic _ | .invokespecial _ | .new _ => 3
  | .tableswitch _ _ _ offs => 1 + (3 - pc % 4) + 12 + 4 * offs.size
  | _ => 1
def ck (m pc : Nat) (e : mE) : Bool := decide (decode (bN m) pc = .ok (e.1, ilen pc e.1)) && (match e.1 with
  | .iconst n => decide (Int32.ofInt n = jI e.2.2.2)
  | .bipush n => decide ((Int8.ofInt n).toInt32 = jI e.2.2.2)
  | .sipush n => decide ((Int16.ofInt n).toInt32 = jI e.2.2.2)
  | .lconst n => decide (Int64.ofNat (n : Nat) = jL e.2.2.2)
  | .ldc i => kI.any (fun q => decide (q.1 = mK m ∧ q.2.1 = i ∧ q.2.2.1 = e.2.2.2))
  | .ldc2_w i => kL.any (fun q => decide (q.1 = mK m ∧ q.2.1 = i ∧ q.2.2.1 = e.2.2.2))
  | .ifCond _ off => decide ((pc : Int) + off = (e.2.1 : Int))
  | .if_icmp _ off => decide ((pc : Int) + off = (e.2.1 : Int))
  | .goto off => decide ((pc : Int) + off = (e.2.1 : Int))
  | .tableswitch d lo hi offs => decide ((pc : Int) + d = (e.2.1 : Int) ∧ (offs.size : Int) = hi - lo + 1 ∧ ∀ o ∈ offs.toList, 0 ≤ (pc : Int) + o)
  | .getfield i => kF.any (fun q => decide (q.1 = mK m ∧ q.2.1 = i ∧ q.2.2.1 = e.2.1 ∧ q.2.2.2.1 = e.2.2.1))
  | .putfield i => kF.any (fun q => decide (q.1 = mK m ∧ q.2.1 = i ∧ q.2.2.1 = e.2.1 ∧ q.2.2.2.1 = e.2.2.1))
  | .invokevirtual i => kV.any (fun q => decide (q.1 = mK m ∧ q.2.1 = i ∧ q.2.2.1 = e.2.1))
  | .invokestatic i => if e.2.1 = 900 then decide (mK m = kA.1 ∧ i = kA.2.1) else if e.2.1 = 901 ∨ e.2.1 = 902 then kX.any (fun q => decide (q.1 = mK m ∧ q.2.1 = i ∧ q.2.2.1 = e.2.1)) else (kS.any (fun q => decide (q.1 = mK m ∧ q.2.1 = i ∧ q.2.2.1 = e.2.1)) || kN.any (fun q => decide (q.1 = mK m ∧ q.2.1 = i ∧ q.2.2.1 = e.2.1)))
  | .ireturn => if e.2.1 = 0 then decide (rN m = some .int) else decide (rN m = some .boolean)
  | .lreturn => decide (rN m = some .long)
  | .areturn => (match rN m with
    | some (.object _) => true
    | _ => false)
  | .return_ => decide (rN m = none)
  | _ => true)
def ckR (m r : Nat) : Bool := (List.range 16).all (fun c => match mNth ((mNth (mCode m) r).getD []) c with
  | some (some e) => ck m (16 * r + c) e
  | _ => true)
def ckG (m : Nat) : Bool := (List.range (mCode m).length).all (ckR m)
theorem ckG_0 : ckG 0 = true := by decide +kernel
theorem ckG_1 : ckG 1 = true := by decide +kernel
theorem ckG_2 : ckG 2 = true := by decide +kernel
theorem ckG_3 : ckG 3 = true := by decide +kernel
theorem ckG_4 : ckG 4 = true := by decide +kernel
theorem ckG_5 : ckG 5 = true := by decide +kernel
theorem ckG_6 : ckG 6 = true := by decide +kernel
theorem ckG_7 : ckG 7 = true := by decide +kernel
theorem ckG_8 : ckG 8 = true := by decide +kernel
theorem ckG_9 : ckG 9 = true := by decide +kernel
theorem ckG_10 : ckG 10 = true := by decide +kernel
theorem ckG_11 : ckG 11 = true := by decide +kernel
theorem ckG_12 : ckG 12 = true := by decide +kernel
theorem ckG_13 : ckG 13 = true := by decide +kernel
theorem ckG_14 : ckG 14 = true := by decide +kernel
theorem ckG_15 : ckG 15 = true := by decide +kernel
theorem ckG_16 : ckG 16 = true := by decide +kernel
theorem ckG_17 : ckG 17 = true := by decide +kernel
theorem ckG_18 : ckG 18 = true := by decide +kernel
theorem ckG_19 : ckG 19 = true := by decide +kernel
theorem ckG_20 : ckG 20 = true := by decide +kernel
theorem ckG_21 : ckG 21 = true := by decide +kernel
theorem ckG_22 : ckG 22 = true := by decide +kernel
theorem ckG_23 : ckG 23 = true := by decide +kernel
theorem ckG_24 : ckG 24 = true := by decide +kernel
theorem ckG_25 : ckG 25 = true := by decide +kernel
theorem ckG_26 : ckG 26 = true := by decide +kernel
theorem ckG_27 : ckG 27 = true := by decide +kernel
theorem ckG_28 : ckG 28 = true := by decide +kernel
theorem ckG_29 : ckG 29 = true := by decide +kernel
theorem ckG_30 : ckG 30 = true := by decide +kernel
theorem ckG_31 : ckG 31 = true := by decide +kernel
theorem ckG_32 : ckG 32 = true := by decide +kernel
theorem ckG_33 : ckG 33 = true := by decide +kernel
theorem ckG_34 : ckG 34 = true := by decide +kernel
theorem ckG_35 : ckG 35 = true := by decide +kernel
theorem ckG_36 : ckG 36 = true := by decide +kernel
theorem ckG_37 : ckG 37 = true := by decide +kernel
theorem ckG_38 : ckG 38 = true := by decide +kernel
theorem ckG_39 : ckG 39 = true := by decide +kernel
theorem ckG_40 : ckG 40 = true := by decide +kernel
theorem ckG_41 : ckG 41 = true := by decide +kernel
theorem ckG_42 : ckG 42 = true := by decide +kernel
theorem ckG_43 : ckG 43 = true := by decide +kernel
theorem ckG_44 : ckG 44 = true := by decide +kernel
theorem ckG_45 : ckG 45 = true := by decide +kernel
theorem ckG_46 : ckG 46 = true := by decide +kernel
theorem ckG_47 : ckG 47 = true := by decide +kernel
theorem ckG_48 : ckG 48 = true := by decide +kernel
theorem ckG_49 : ckG 49 = true := by decide +kernel
theorem ckG_50 : ckG 50 = true := by decide +kernel
theorem ckG_51 : ckG 51 = true := by decide +kernel
theorem ckG_52 : ckG 52 = true := by decide +kernel
theorem ckG_53 : ckG 53 = true := by decide +kernel
theorem ckG_54 : ckG 54 = true := by decide +kernel
theorem ckG_55 : ckG 55 = true := by decide +kernel
theorem ckG_56 : ckG 56 = true := by decide +kernel
theorem ckG_57 : ckG 57 = true := by decide +kernel
theorem ckG_58 : ckG 58 = true := by decide +kernel
theorem ckG_59 : ckG 59 = true := by decide +kernel
theorem ckG_60 : ckG 60 = true := by decide +kernel
theorem ckG_61 : ckG 61 = true := by decide +kernel
theorem ckG_62 : ckG 62 = true := by decide +kernel
theorem ckG_63 : ckG 63 = true := by decide +kernel
theorem ckG_64 : ckG 64 = true := by decide +kernel
theorem ckG_65 : ckG 65 = true := by decide +kernel
theorem ckG_66 : ckG 66 = true := by decide +kernel
theorem ckG_67 : ckG 67 = true := by decide +kernel
theorem ckG_68 : ckG 68 = true := by decide +kernel
theorem ckG_69 : ckG 69 = true := by decide +kernel
theorem ckG_70 : ckG 70 = true := by decide +kernel
theorem ckG_71 : ckG 71 = true := by decide +kernel
theorem ckG_72 : ckG 72 = true := by decide +kernel
theorem ckG_73 : ckG 73 = true := by decide +kernel
theorem ckG_74 : ckG 74 = true := by decide +kernel
theorem ckG_75 : ckG 75 = true := by decide +kernel
theorem ckG_76 : ckG 76 = true := by decide +kernel
theorem ckG_77 : ckG 77 = true := by decide +kernel
theorem ckG_78 : ckG 78 = true := by decide +kernel
theorem ckG_79 : ckG 79 = true := by decide +kernel
theorem ckG_80 : ckG 80 = true := by decide +kernel
theorem ckG_81 : ckG 81 = true := by decide +kernel
theorem ckG_82 : ckG 82 = true := by decide +kernel
theorem ckG_83 : ckG 83 = true := by decide +kernel
theorem ckG_84 : ckG 84 = true := by decide +kernel
theorem ckG_85 : ckG 85 = true := by decide +kernel
theorem ckG_86 : ckG 86 = true := by decide +kernel
theorem ckG_87 : ckG 87 = true := by decide +kernel
theorem ckG_88 : ckG 88 = true := by decide +kernel
theorem ckG_89 : ckG 89 = true := by decide +kernel
theorem ckG_90 : ckG 90 = true := by decide +kernel
theorem ckG_91 : ckG 91 = true := by decide +kernel
theorem ckG_92 : ckG 92 = true := by decide +kernel
theorem ckG_93 : ckG 93 = true := by decide +kernel
theorem ckG_94 : ckG 94 = true := by decide +kernel
theorem ckG_95 : ckG 95 = true := by decide +kernel
theorem ckG_96 : ckG 96 = true := by decide +kernel
theorem ckG_97 : ckG 97 = true := by decide +kernel
theorem ckG_98 : ckG 98 = true := by decide +kernel
theorem ckG_99 : ckG 99 = true := by decide +kernel
theorem ckG_100 : ckG 100 = true := by decide +kernel
theorem ckG_101 : ckG 101 = true := by decide +kernel
theorem ckG_102 : ckG 102 = true := by decide +kernel
theorem ckG_103 : ckG 103 = true := by decide +kernel
theorem ckG_104 : ckG 104 = true := by decide +kernel
theorem ckG_105 : ckG 105 = true := by decide +kernel
theorem ckG_106 : ckG 106 = true := by decide +kernel
theorem ckG_107 : ckG 107 = true := by decide +kernel
theorem ckG_108 : ckG 108 = true := by decide +kernel
theorem ckG_109 : ckG 109 = true := by decide +kernel
theorem ckG_110 : ckG 110 = true := by decide +kernel
theorem ckG_111 : ckG 111 = true := by decide +kernel
theorem ckG_112 : ckG 112 = true := by decide +kernel
theorem ckG_113 : ckG 113 = true := by decide +kernel
theorem ckG_114 : ckG 114 = true := by decide +kernel
theorem ckG_115 : ckG 115 = true := by decide +kernel
theorem ckG_116 : ckG 116 = true := by decide +kernel
theorem ckG_117 : ckG 117 = true := by decide +kernel
theorem ckG_118 : ckG 118 = true := by decide +kernel
theorem ckG_119 : ckG 119 = true := by decide +kernel
theorem ckG_120 : ckG 120 = true := by decide +kernel
theorem ckG_121 : ckG 121 = true := by decide +kernel
theorem ckG_122 : ckG 122 = true := by decide +kernel
theorem ckG_123 : ckG 123 = true := by decide +kernel
theorem ckG_124 : ckG 124 = true := by decide +kernel
theorem ckG_125 : ckG 125 = true := by decide +kernel
theorem ckG_126 : ckG 126 = true := by decide +kernel
theorem ckG_127 : ckG 127 = true := by decide +kernel
theorem ckG_128 : ckG 128 = true := by decide +kernel
theorem ckG_129 : ckG 129 = true := by decide +kernel
theorem ckG_130 : ckG 130 = true := by decide +kernel
theorem ckG_131 : ckG 131 = true := by decide +kernel
theorem ckG_132 : ckG 132 = true := by decide +kernel
end
section
theorem ckL_0 : ckR 133 0 = true := by decide +kernel
theorem ckL_1 : ckR 133 1 = true := by decide +kernel
theorem ckL_2 : ckR 133 2 = true := by decide +kernel
theorem ckL_3 : ckR 133 3 = true := by decide +kernel
theorem ckL_4 : ckR 133 4 = true := by decide +kernel
theorem ckL_5 : ckR 133 5 = true := by decide +kernel
theorem ckL_6 : ckR 133 6 = true := by decide +kernel
theorem ckL_7 : ckR 133 7 = true := by decide +kernel
theorem ckL_8 : ckR 133 8 = true := by decide +kernel
theorem ckL_9 : ckR 133 9 = true := by decide +kernel
end
section
theorem ckL_10 : ckR 133 10 = true := by decide +kernel
theorem ckL_11 : ckR 133 11 = true := by decide +kernel
theorem ckL_12 : ckR 133 12 = true := by decide +kernel
theorem ckL_13 : ckR 133 13 = true := by decide +kernel
theorem ckL_14 : ckR 133 14 = true := by decide +kernel
theorem ckL_15 : ckR 133 15 = true := by decide +kernel
theorem ckL_16 : ckR 133 16 = true := by decide +kernel
theorem ckL_17 : ckR 133 17 = true := by decide +kernel
theorem ckL_18 : ckR 133 18 = true := by decide +kernel
theorem ckL_19 : ckR 133 19 = true := by decide +kernel
theorem ckL_20 : ckR 133 20 = true := by decide +kernel
theorem ckL_21 : ckR 133 21 = true := by decide +kernel
theorem ckL_22 : ckR 133 22 = true := by decide +kernel
theorem ckL_23 : ckR 133 23 = true := by decide +kernel
theorem ckL_24 : ckR 133 24 = true := by decide +kernel
theorem ckL_25 : ckR 133 25 = true := by decide +kernel
theorem ckL_26 : ckR 133 26 = true := by decide +kernel
theorem ckL_27 : ckR 133 27 = true := by decide +kernel
end
section
theorem ckL_28 : ckR 133 28 = true := by decide +kernel
theorem ckL_29 : ckR 133 29 = true := by decide +kernel
theorem ckL_30 : ckR 133 30 = true := by decide +kernel
theorem ckL_31 : ckR 133 31 = true := by decide +kernel
theorem ckL_32 : ckR 133 32 = true := by decide +kernel
theorem ckL_33 : ckR 133 33 = true := by decide +kernel
theorem ckL_34 : ckR 133 34 = true := by decide +kernel
theorem ckL_35 : ckR 133 35 = true := by decide +kernel
theorem ckL_36 : ckR 133 36 = true := by decide +kernel
theorem ckL_37 : ckR 133 37 = true := by decide +kernel
theorem ckL_38 : ckR 133 38 = true := by decide +kernel
theorem ckL_39 : ckR 133 39 = true := by decide +kernel
theorem ckL_40 : ckR 133 40 = true := by decide +kernel
theorem ckL_41 : ckR 133 41 = true := by decide +kernel
end
section
theorem ckL_42 : ckR 133 42 = true := by decide +kernel
theorem ckL_43 : ckR 133 43 = true := by decide +kernel
theorem ckL_44 : ckR 133 44 = true := by decide +kernel
theorem ckL_45 : ckR 133 45 = true := by decide +kernel
theorem ckL_46 : ckR 133 46 = true := by decide +kernel
theorem ckL_47 : ckR 133 47 = true := by decide +kernel
theorem ckL_48 : ckR 133 48 = true := by decide +kernel
theorem ckL_49 : ckR 133 49 = true := by decide +kernel
theorem ckL_50 : ckR 133 50 = true := by decide +kernel
theorem ckL_51 : ckR 133 51 = true := by decide +kernel
theorem ckL_52 : ckR 133 52 = true := by decide +kernel
theorem ckL_53 : ckR 133 53 = true := by decide +kernel
theorem ckL_54 : ckR 133 54 = true := by decide +kernel
theorem ckL_55 : ckR 133 55 = true := by decide +kernel
theorem ckL_all : ∀ r, r < 56 → ckR 133 r = true :=
  have a1 := al_s (P := fun r => ckR 133 r = true) al_0 ckL_0
  have a2 := al_s a1 ckL_1
  have a3 := al_s a2 ckL_2
  have a4 := al_s a3 ckL_3
  have a5 := al_s a4 ckL_4
  have a6 := al_s a5 ckL_5
  have a7 := al_s a6 ckL_6
  have a8 := al_s a7 ckL_7
  have a9 := al_s a8 ckL_8
  have a10 := al_s a9 ckL_9
  have a11 := al_s a10 ckL_10
  have a12 := al_s a11 ckL_11
  have a13 := al_s a12 ckL_12
  have a14 := al_s a13 ckL_13
  have a15 := al_s a14 ckL_14
  have a16 := al_s a15 ckL_15
  have a17 := al_s a16 ckL_16
  have a18 := al_s a17 ckL_17
  have a19 := al_s a18 ckL_18
  have a20 := al_s a19 ckL_19
  have a21 := al_s a20 ckL_20
  have a22 := al_s a21 ckL_21
  have a23 := al_s a22 ckL_22
  have a24 := al_s a23 ckL_23
  have a25 := al_s a24 ckL_24
  have a26 := al_s a25 ckL_25
  have a27 := al_s a26 ckL_26
  have a28 := al_s a27 ckL_27
  have a29 := al_s a28 ckL_28
  have a30 := al_s a29 ckL_29
  have a31 := al_s a30 ckL_30
  have a32 := al_s a31 ckL_31
  have a33 := al_s a32 ckL_32
  have a34 := al_s a33 ckL_33
  have a35 := al_s a34 ckL_34
  have a36 := al_s a35 ckL_35
  have a37 := al_s a36 ckL_36
  have a38 := al_s a37 ckL_37
  have a39 := al_s a38 ckL_38
  have a40 := al_s a39 ckL_39
  have a41 := al_s a40 ckL_40
  have a42 := al_s a41 ckL_41
  have a43 := al_s a42 ckL_42
  have a44 := al_s a43 ckL_43
  have a45 := al_s a44 ckL_44
  have a46 := al_s a45 ckL_45
  have a47 := al_s a46 ckL_46
  have a48 := al_s a47 ckL_47
  have a49 := al_s a48 ckL_48
  have a50 := al_s a49 ckL_49
  have a51 := al_s a50 ckL_50
  have a52 := al_s a51 ckL_51
  have a53 := al_s a52 ckL_52
  have a54 := al_s a53 ckL_53
  have a55 := al_s a54 ckL_54
  have a56 := al_s a55 ckL_55
  a56
theorem ckG_133 : ckG 133 = true := List.all_eq_true.mpr (fun r hr => ckL_all r (by
  have h1 := List.mem_range.mp hr
  have h2 : (mCode 133).length = 56 := by decide +kernel
  omega))
theorem ck_all : ∀ m, m < 134 → ckG m = true :=
  have a1 := al_s (P := fun m => ckG m = true) al_0 ckG_0
  have a2 := al_s a1 ckG_1
  have a3 := al_s a2 ckG_2
  have a4 := al_s a3 ckG_3
  have a5 := al_s a4 ckG_4
  have a6 := al_s a5 ckG_5
  have a7 := al_s a6 ckG_6
  have a8 := al_s a7 ckG_7
  have a9 := al_s a8 ckG_8
  have a10 := al_s a9 ckG_9
  have a11 := al_s a10 ckG_10
  have a12 := al_s a11 ckG_11
  have a13 := al_s a12 ckG_12
  have a14 := al_s a13 ckG_13
  have a15 := al_s a14 ckG_14
  have a16 := al_s a15 ckG_15
  have a17 := al_s a16 ckG_16
  have a18 := al_s a17 ckG_17
  have a19 := al_s a18 ckG_18
  have a20 := al_s a19 ckG_19
  have a21 := al_s a20 ckG_20
  have a22 := al_s a21 ckG_21
  have a23 := al_s a22 ckG_22
  have a24 := al_s a23 ckG_23
  have a25 := al_s a24 ckG_24
  have a26 := al_s a25 ckG_25
  have a27 := al_s a26 ckG_26
  have a28 := al_s a27 ckG_27
  have a29 := al_s a28 ckG_28
  have a30 := al_s a29 ckG_29
  have a31 := al_s a30 ckG_30
  have a32 := al_s a31 ckG_31
  have a33 := al_s a32 ckG_32
  have a34 := al_s a33 ckG_33
  have a35 := al_s a34 ckG_34
  have a36 := al_s a35 ckG_35
  have a37 := al_s a36 ckG_36
  have a38 := al_s a37 ckG_37
  have a39 := al_s a38 ckG_38
  have a40 := al_s a39 ckG_39
  have a41 := al_s a40 ckG_40
  have a42 := al_s a41 ckG_41
  have a43 := al_s a42 ckG_42
  have a44 := al_s a43 ckG_43
  have a45 := al_s a44 ckG_44
  have a46 := al_s a45 ckG_45
  have a47 := al_s a46 ckG_46
  have a48 := al_s a47 ckG_47
  have a49 := al_s a48 ckG_48
  have a50 := al_s a49 ckG_49
  have a51 := al_s a50 ckG_50
  have a52 := al_s a51 ckG_51
  have a53 := al_s a52 ckG_52
  have a54 := al_s a53 ckG_53
  have a55 := al_s a54 ckG_54
  have a56 := al_s a55 ckG_55
  have a57 := al_s a56 ckG_56
  have a58 := al_s a57 ckG_57
  have a59 := al_s a58 ckG_58
  have a60 := al_s a59 ckG_59
  have a61 := al_s a60 ckG_60
  have a62 := al_s a61 ckG_61
  have a63 := al_s a62 ckG_62
  have a64 := al_s a63 ckG_63
  have a65 := al_s a64 ckG_64
  have a66 := al_s a65 ckG_65
  have a67 := al_s a66 ckG_66
  have a68 := al_s a67 ckG_67
  have a69 := al_s a68 ckG_68
  have a70 := al_s a69 ckG_69
  have a71 := al_s a70 ckG_70
  have a72 := al_s a71 ckG_71
  have a73 := al_s a72 ckG_72
  have a74 := al_s a73 ckG_73
  have a75 := al_s a74 ckG_74
  have a76 := al_s a75 ckG_75
  have a77 := al_s a76 ckG_76
  have a78 := al_s a77 ckG_77
  have a79 := al_s a78 ckG_78
  have a80 := al_s a79 ckG_79
  have a81 := al_s a80 ckG_80
  have a82 := al_s a81 ckG_81
  have a83 := al_s a82 ckG_82
  have a84 := al_s a83 ckG_83
  have a85 := al_s a84 ckG_84
  have a86 := al_s a85 ckG_85
  have a87 := al_s a86 ckG_86
  have a88 := al_s a87 ckG_87
  have a89 := al_s a88 ckG_88
  have a90 := al_s a89 ckG_89
  have a91 := al_s a90 ckG_90
  have a92 := al_s a91 ckG_91
  have a93 := al_s a92 ckG_92
  have a94 := al_s a93 ckG_93
  have a95 := al_s a94 ckG_94
  have a96 := al_s a95 ckG_95
  have a97 := al_s a96 ckG_96
  have a98 := al_s a97 ckG_97
  have a99 := al_s a98 ckG_98
  have a100 := al_s a99 ckG_99
  have a101 := al_s a100 ckG_100
  have a102 := al_s a101 ckG_101
  have a103 := al_s a102 ckG_102
  have a104 := al_s a103 ckG_103
  have a105 := al_s a104 ckG_104
  have a106 := al_s a105 ckG_105
  have a107 := al_s a106 ckG_106
  have a108 := al_s a107 ckG_107
  have a109 := al_s a108 ckG_108
  have a110 := al_s a109 ckG_109
  have a111 := al_s a110 ckG_110
  have a112 := al_s a111 ckG_111
  have a113 := al_s a112 ckG_112
  have a114 := al_s a113 ckG_113
  have a115 := al_s a114 ckG_114
  have a116 := al_s a115 ckG_115
  have a117 := al_s a116 ckG_116
  have a118 := al_s a117 ckG_117
  have a119 := al_s a118 ckG_118
  have a120 := al_s a119 ckG_119
  have a121 := al_s a120 ckG_120
  have a122 := al_s a121 ckG_121
  have a123 := al_s a122 ckG_122
  have a124 := al_s a123 ckG_123
  have a125 := al_s a124 ckG_124
  have a126 := al_s a125 ckG_125
  have a127 := al_s a126 ckG_126
  have a128 := al_s a127 ckG_127
  have a129 := al_s a128 ckG_128
  have a130 := al_s a129 ckG_129
  have a131 := al_s a130 ckG_130
  have a132 := al_s a131 ckG_131
  have a133 := al_s a132 ckG_132
  have a134 := al_s a133 ckG_133
  a134
theorem pg_in : ∀ (m pc : Nat) (e : mE), pg m pc = some e → m < 134 := by
  intro m pc e h
  rcases Nat.lt_or_ge m 134 with q | q
  · exact q
  · exfalso
    have hz : mCode m = [] := by
      unfold mCode
      rcases Nat.lt_or_ge (m / 16) 9 with z | z
      · have h8 : m / 16 = 8 := by omega
        rw [h8]
        have : ∀ k, 6 ≤ k → mNth [mp_128, mp_129, mp_130, mp_131, mp_132, mp_133] k = none := by
          intro k hk
          rw [mNth_get]
          simp; omega
        show (match mNth [mp_128, mp_129, mp_130, mp_131, mp_132, mp_133] (m % 16) with
          | some c => c
          | none => []) = []
        rw [this _ (by omega)]
      · have : mNth pgs (m / 16) = none := by
          rw [mNth_get]
          have hl : pgs.length = 9 := rfl
          simp; omega
        rw [this]
    unfold pg mGrid at h
    rw [hz] at h
    simp [mNth] at h
theorem ck_at {m pc : Nat} {e : mE} (h : pg m pc = some e) : ck m pc e = true := by
  have h1 := ck_all m (pg_in m pc e h)
  unfold pg mGrid at h
  have hr : ∃ r, mNth (mCode m) (pc / 16) = some r ∧ mNth r (pc % 16) = some (some e) := by
    split at h
    next r hr =>
      split at h
      next e2 he =>
        subst h
        exact ⟨r, hr, he⟩
      next => cases h
    next => cases h
  obtain ⟨r, hr, he⟩ := hr
  unfold ckG at h1
  have hl : pc / 16 < (mCode m).length := by
    rw [mNth_get] at hr
    exact (List.getElem?_eq_some_iff.mp hr).1
  have h2 := List.all_eq_true.mp h1 (pc / 16) (List.mem_range.mpr hl)
  unfold ckR at h2
  have h3 := List.all_eq_true.mp h2 (pc % 16) (List.mem_range.mpr (Nat.mod_lt _ (by decide)))
  rw [hr] at h3
  simp only [Option.getD_some] at h3
  rw [he] at h3
  have : 16 * (pc / 16) + pc % 16 = pc := Nat.div_add_mod pc 16
  rw [this] at h3
  exact h3
end
section
/-! THE WORLD of the small machine as cells of the machine's heap; its locals as the machine's -/
def cvV (aO aA : Nat → Nat) : mV → Value
  | .inl z => .int (jI z)
  | .inr (.inl z) => .long (jL z)
  | .inr (.inr (.inl o)) => .ref (aO o)
  | .inr (.inr (.inr a)) => .ref (aA a)
theorem cv_1 {aO aA : Nat → Nat} {v : mV} (h : m2 v = false) : (cvV aO aA v).category = 1 := by
  rcases v with z | z | z | z <;> first | rfl | cases h
theorem cv_2 {aO aA : Nat → Nat} {v : mV} (h : m2 v = true) : (cvV aO aA v).category = 2 := by
  rcases v with z | z | z | z <;> first | rfl | cases h
theorem cv_12 {aO aA : Nat → Nat} {v : mV} (h : (cvV aO aA v).category = 2) : m2 v = true := by
  rcases v with z | z | z | z <;> first | rfl | cases h
theorem cv_cats (aO aA : Nat → Nat) : ∀ S : List mV, ((S.map (cvV aO aA)).map fun v => v.category).sum = mCat S
  | [] => rfl
  | .inl z :: S => by
    have := cv_cats aO aA S
    simp only [List.map_cons, List.sum_cons, mCat] at this ⊢
    rw [this]; show 1 + _ = _; omega
  | .inr (.inl z) :: S => by
    have := cv_cats aO aA S
    simp only [List.map_cons, List.sum_cons, mCat] at this ⊢
    rw [this]; show 2 + _ = _; omega
  | .inr (.inr (.inl z)) :: S => by
    have := cv_cats aO aA S
    simp only [List.map_cons, List.sum_cons, mCat] at this ⊢
    rw [this]; show 1 + _ = _; omega
  | .inr (.inr (.inr z)) :: S => by
    have := cv_cats aO aA S
    simp only [List.map_cons, List.sum_cons, mCat] at this ⊢
    rw [this]; show 1 + _ = _; omega
def HL (cv : mV → Value) (ls : Array Slot) (L : mL) : Prop := ls.size = L.length ∧ lv_wf ls ∧ ∀ (i : Nat) (v : mV), mNth L i = some (some v) → ls[i]? = some (.val (cv v))
def lvl (cv : mV → Value) (L : mL) : List (Nat × Value) := (List.range L.length).filterMap (fun i => match mNth L i with
  | some (some v) => some (i, cv v)
  | _ => none)
theorem mNth_lt {α : Type} {l : List α} {i : Nat} {x : α} (h : mNth l i = some x) : i < l.length := by
  rw [mNth_get] at h
  exact (List.getElem?_eq_some_iff.mp h).1
theorem lvl_mem {cv : mV → Value} {L : mL} {i : Nat} {v : mV} (h : mNth L i = some (some v)) : (i, cv v) ∈ lvl cv L :=
  List.mem_filterMap.mpr ⟨i, List.mem_range.mpr (mNth_lt h), by rw [h]⟩
theorem lvl_out {cv : mV → Value} {L : mL} {q : Nat × Value} (h : q ∈ lvl cv L) : ∃ v, mNth L q.1 = some (some v) ∧ q.2 = cv v := by
  obtain ⟨i, -, hi⟩ := List.mem_filterMap.mp h
  split at hi
  next v hv =>
    cases hi
    exact ⟨v, hv, rfl⟩
  next => cases hi
theorem HL.has {cv : mV → Value} {ls : Array Slot} {L : mL} (h : HL cv ls L) : lv_has ls L.length (lvl cv L) :=
  ⟨h.1, h.2.1, fun q hq => by
    obtain ⟨v, h1, h2⟩ := lvl_out hq
    rw [h2]; exact h.2.2 _ _ h1⟩
theorem mSet_len {α : Type} (l : List α) (i : Nat) (x : α) : (mSet l i x).length = l.length := by rw [mSet_set]; simp
theorem mSet_eq {α : Type} {l : List α} {i : Nat} (x : α) (h : i < l.length) : mNth (mSet l i x) i = some x := by rw [mSet_set, mNth_get]; simp [h]
theorem mSet_ne {α : Type} {l : List α} {i j : Nat} (x : α) (h : j ≠ i) : mNth (mSet l i x) j = mNth l j := by rw [mSet_set, mNth_get, mNth_get]; exact List.getElem?_set_ne (Ne.symm h)
theorem mCut_len (L : mL) (i : Nat) : (mCut L i).length = L.length := by
  cases i with
  | zero => rfl
  | succ i =>
    simp only [mCut]
    split
    next => exact mSet_len _ _ _
    next => rfl
theorem mCut_get {L : mL} {i j : Nat} {w : mV} (h : mNth (mCut L i) j = some (some w)) : mNth L j = some (some w) ∧ ¬ (j + 1 = i ∧ m2 w = true) := by
  cases i with
  | zero => exact ⟨h, fun q => by omega⟩
  | succ i =>
    simp only [mCut] at h
    split at h
    next z hz =>
      by_cases e : j = i
      · subst e
        rw [mSet_eq _ (mNth_lt hz)] at h
        cases h
      · rw [mSet_ne _ e] at h
        exact ⟨h, fun q => by omega⟩
    next hz =>
      refine ⟨h, fun q => ?_⟩
      have : j = i := by omega
      subst this
      rcases w with z | z | z | z
      · cases q.2
      · exact hz z h
      · cases q.2
      · cases q.2
theorem mPut_1 {L : mL} {i : Nat} {v : mV} (h : m2 v = false) : mPut L i v = mSet (mCut L i) i (some v) := by
  rcases v with z | z | z | z <;> first | rfl | cases h
theorem HL.put1 {aO aA : Nat → Nat} {ls' : Array Slot} {L : mL} {i : Nat} {v : mV} (hv : m2 v = false) (hi : i < L.length)
    (h : lv_has ls' L.length ((i, cvV aO aA v) :: (lvl (cvV aO aA) L).filter (fun q => !(q.1 == i) && !(q.1 + 1 == i && q.2.category == 2)))) : HL (cvV aO aA) ls' (mPut L i v) := by
  rw [mPut_1 hv]
  refine ⟨by rw [mSet_len, mCut_len]; exact h.1, h.2.1, fun j w hw => ?_⟩
  by_cases e : j = i
  · subst e
    rw [mSet_eq _ (by rw [mCut_len]; exact hi)] at hw
    cases hw
    exact h.2.2 _ List.mem_cons_self
  · rw [mSet_ne _ e] at hw
    obtain ⟨h1, h2⟩ := mCut_get hw
    refine h.2.2 (j, cvV aO aA w) (List.mem_cons_of_mem _ (List.mem_filter.mpr ⟨lvl_mem h1, ?_⟩))
    have e1 : (j == i) = false := by simp [e]
    have e2 : (j + 1 == i && (cvV aO aA w).category == 2) = false := by
      rw [Bool.and_eq_false_iff]
      by_cases z : j + 1 = i
      · refine Or.inr ?_
        have : m2 w = false := by
          cases hm : m2 w with
          | false => rfl
          | true => exact absurd ⟨z, hm⟩ h2
        rw [cv_1 this]; rfl
      · exact Or.inl (by simp [z])
    simp only [e1, e2]; rfl
theorem HL.put2 {aO aA : Nat → Nat} {ls' : Array Slot} {L : mL} {i : Nat} {z : Int} (hi : i + 1 < L.length)
    (h : lv_has ls' L.length ((i, cvV aO aA (vL z)) :: (lvl (cvV aO aA) L).filter (fun q => !(q.1 == i) && (!(q.1 == i + 1) && !(q.1 + 1 == i && q.2.category == 2))))) : HL (cvV aO aA) ls' (mPut L i (vL z)) := by
  show HL (cvV aO aA) ls' (mSet (mSet (mCut L i) i (some (vL z))) (i + 1) none)
  refine ⟨by rw [mSet_len, mSet_len, mCut_len]; exact h.1, h.2.1, fun j w hw => ?_⟩
  by_cases e2 : j = i + 1
  · subst e2
    rw [mSet_eq _ (by rw [mSet_len, mCut_len]; exact hi)] at hw
    cases hw
  rw [mSet_ne _ e2] at hw
  by_cases e : j = i
  · subst e
    rw [mSet_eq _ (by rw [mCut_len]; omega)] at hw
    cases hw
    exact h.2.2 _ List.mem_cons_self
  · rw [mSet_ne _ e] at hw
    obtain ⟨h1, h2⟩ := mCut_get hw
    refine h.2.2 (j, cvV aO aA w) (List.mem_cons_of_mem _ (List.mem_filter.mpr ⟨lvl_mem h1, ?_⟩))
    have e1 : (j == i) = false := by simp [e]
    have e3 : (j == i + 1) = false := by simp [e2]
    have e2 : (j + 1 == i && (cvV aO aA w).category == 2) = false := by
      rw [Bool.and_eq_false_iff]
      by_cases z : j + 1 = i
      · refine Or.inr ?_
        have : m2 w = false := by
          cases hm : m2 w with
          | false => rfl
          | true => exact absurd ⟨z, hm⟩ h2
        rw [cv_1 this]; rfl
      · exact Or.inl (by simp [z])
    simp only [e1, e2, e3]; rfl
theorem mFlat_sl (aO aA : Nat → Nat) : ∀ args : List mV, (lg_sl (args.map (cvV aO aA))).length = (mFlat args).length
  | [] => rfl
  | .inl z :: S => by
    have := mFlat_sl aO aA S
    simp only [lg_sl, List.map_cons, List.flatMap_cons, List.length_append, mFlat, List.length_cons] at this ⊢
    rw [this]; show 1 + _ = _; omega
  | .inr (.inl z) :: S => by
    have := mFlat_sl aO aA S
    simp only [lg_sl, List.map_cons, List.flatMap_cons, List.length_append, mFlat, List.length_cons] at this ⊢
    rw [this]; show 2 + _ = _; omega
  | .inr (.inr (.inl z)) :: S => by
    have := mFlat_sl aO aA S
    simp only [lg_sl, List.map_cons, List.flatMap_cons, List.length_append, mFlat, List.length_cons] at this ⊢
    rw [this]; show 1 + _ = _; omega
  | .inr (.inr (.inr z)) :: S => by
    have := mFlat_sl aO aA S
    simp only [lg_sl, List.map_cons, List.flatMap_cons, List.length_append, mFlat, List.length_cons] at this ⊢
    rw [this]; show 1 + _ = _; omega
theorem mPad_len : ∀ (n : Nat) (L : mL), L.length ≤ n → (mPad n L).length = n
  | 0, [], _ => rfl
  | 0, _ :: _, h => by simp at h
  | n + 1, [], _ => by simp [mPad, mPad_len n [] (Nat.zero_le _)]
  | n + 1, a :: L, h => by simp [mPad, mPad_len n L (by simpa using h)]
theorem mPad_get : ∀ (n : Nat) (L : mL) (i : Nat) (v : mV), mNth (mPad n L) i = some (some v) → mNth L i = some (some v)
  | 0, L, i, v, h => h
  | n + 1, [], 0, v, h => by simp [mPad, mNth] at h
  | n + 1, [], i + 1, v, h => by
    have := mPad_get n [] i v (by simpa [mPad, mNth] using h)
    simp [mNth] at this
  | n + 1, a :: L, 0, v, h => by simpa [mPad, mNth] using h
  | n + 1, a :: L, i + 1, v, h => by
    have := mPad_get n L i v (by simpa [mPad, mNth] using h)
    simpa [mNth] using this
theorem mFlat_args (aO aA : Nat → Nat) : ∀ (args : List mV) (k i : Nat) (v : mV), mNth (mFlat args) i = some (some v) → (k + i, cvV aO aA v) ∈ lv_args k (args.map (cvV aO aA))
  | [], k, i, v, h => by simp [mFlat, mNth] at h
  | .inr (.inl z) :: S, k, 0, v, h => by
    simp [mFlat, mNth] at h
    subst h
    exact List.mem_cons_self
  | .inr (.inl z) :: S, k, 1, v, h => by simp [mFlat, mNth] at h
  | .inr (.inl z) :: S, k, i + 2, v, h => by
    have := mFlat_args aO aA S (k + 2) i v (by simpa [mFlat, mNth] using h)
    rw [show k + (i + 2) = k + 2 + i by omega]
    exact List.mem_cons_of_mem _ this
  | .inl z :: S, k, 0, v, h => by
    simp [mFlat, mNth] at h
    subst h
    exact List.mem_cons_self
  | .inl z :: S, k, i + 1, v, h => by
    have := mFlat_args aO aA S (k + 1) i v (by simpa [mFlat, mNth] using h)
    rw [show k + (i + 1) = k + 1 + i by omega]
    exact List.mem_cons_of_mem _ this
  | .inr (.inr (.inl z)) :: S, k, 0, v, h => by
    simp [mFlat, mNth] at h
    subst h
    exact List.mem_cons_self
  | .inr (.inr (.inl z)) :: S, k, i + 1, v, h => by
    have := mFlat_args aO aA S (k + 1) i v (by simpa [mFlat, mNth] using h)
    rw [show k + (i + 1) = k + 1 + i by omega]
    exact List.mem_cons_of_mem _ this
  | .inr (.inr (.inr z)) :: S, k, 0, v, h => by
    simp [mFlat, mNth] at h
    subst h
    exact List.mem_cons_self
  | .inr (.inr (.inr z)) :: S, k, i + 1, v, h => by
    have := mFlat_args aO aA S (k + 1) i v (by simpa [mFlat, mNth] using h)
    rw [show k + (i + 1) = k + 1 + i by omega]
    exact List.mem_cons_of_mem _ this
theorem HL.entry (aO aA : Nat → Nat) {m : Nat} {args : List mV} (h : (mFlat args).length ≤ mW m) : HL (cvV aO aA) ((lg_sl (args.map (cvV aO aA)) ++ List.replicate (mW m - (lg_sl (args.map (cvV aO aA))).length) Slot.unset).toArray) (mIn m args) := by
  have hl := lv_entry (args.map (cvV aO aA)) (n := mW m) (by rw [mFlat_sl]; exact h)
  refine ⟨hl.1.trans (mPad_len _ _ h).symm, hl.2.1, fun i v hi => ?_⟩
  have := mFlat_args aO aA args 0 i v (mPad_get _ _ _ _ hi)
  rw [Nat.zero_add] at this
  exact hl.2.2 _ this
/-! the cells -/
def wFld (aO aA : Nat → Nat) (h : mH) (o c k : Nat) : Value := match fK c k with
  | 0 => .int (jI (h.1 (16 * o + k)))
  | 1 => .long (jL (h.1 (16 * o + k)))
  | 2 => .ref (aA (16 * o + k))
  | _ => .ref (aO (sO o k))
def wObj (aO aA : Nat → Nat) (h : mH) (o c : Nat) : va_E := .inr (c, (List.range (cF c)).map (wFld aO aA h o c))
def wCel (aO aA : Nat → Nat) (G : ClassId × ClassId × ClassId) (h : mH) (q : Nat × Nat × Nat) : Nat × va_E := match q.1 with
  | 0 => (aO q.2.1, wObj aO aA h q.2.1 q.2.2)
  | 1 => (aA q.2.1, .inl (G.1, q.2.2, .inl (fun i => jI (h.2 q.2.1 i))))
  | 2 => (aA q.2.1, .inl (G.2.1, q.2.2, .inr (.inl (fun i => jL (h.2 q.2.1 i)))))
  | _ => (aA q.2.1, .inl (G.2.2, q.2.2, .inl (fun i => jI (h.2 q.2.1 i))))
def wW (aO aA : Nat → Nat) (G : ClassId × ClassId × ClassId) (h : mH) : va_W := wI.map (wCel aO aA G h)
abbrev wT (G : ClassId × ClassId × ClassId) : List (ClassId × FieldType) := [(G.1, .int), (G.2.1, .long), (G.2.2, .boolean)]
def wAd (aO aA : Nat → Nat) (q : Nat × Nat × Nat) : Nat := if q.1 = 0 then aO q.2.1 else aA q.2.1
theorem wAd_eq (aO aA : Nat → Nat) (G : ClassId × ClassId × ClassId) (h : mH) (q : Nat × Nat × Nat) : (wCel aO aA G h q).1 = wAd aO aA q := by
  obtain ⟨k, a, n⟩ := q
  match k with
  | 0 => rfl
  | 1 => rfl
  | 2 => rfl
  | n + 3 => rfl
def wDd (A : Nat → Prop) (aO aA : Nat → Nat) : Prop := (∀ (i j : Nat) (p q : Nat × Nat × Nat), wI[i]? = some p → wI[j]? = some q → wAd aO aA p = wAd aO aA q → i = j) ∧ ∀ (k : Nat) (q : Nat × Nat × Nat), wI[k]? = some q → A (wAd aO aA q)
theorem wW_at {aO aA : Nat → Nat} {G : ClassId × ClassId × ClassId} {h : mH} {k : Nat} {q : Nat × Nat × Nat} (hq : wI[k]? = some q) : (wW aO aA G h)[k]? = some (wCel aO aA G h q) := by
  unfold wW
  rw [List.getElem?_map, hq]; rfl
theorem wW_of {aO aA : Nat → Nat} {G : ClassId × ClassId × ClassId} {h : mH} {k : Nat} {e : Nat × va_E} (he : (wW aO aA G h)[k]? = some e) : ∃ q, wI[k]? = some q ∧ e = wCel aO aA G h q := by
  unfold wW at he
  rw [List.getElem?_map] at he
  cases hq : wI[k]? with
  | none => rw [hq] at he; cases he
  | some q => rw [hq] at he; cases he; exact ⟨q, rfl, rfl⟩
theorem wDd.D {A : Nat → Prop} {aO aA : Nat → Nat} (hd : wDd A aO aA) (G : ClassId × ClassId × ClassId) (h : mH) : va_D A (wW aO aA G h) := by
  refine ⟨fun i j p q hi hj e => ?_, fun k q hk => ?_⟩
  · obtain ⟨x, hx, rfl⟩ := wW_of hi
    obtain ⟨y, hy, rfl⟩ := wW_of hj
    rw [wAd_eq, wAd_eq] at e
    exact hd.1 i j x y hx hy e
  · obtain ⟨x, hx, rfl⟩ := wW_of hk
    rw [wAd_eq]
    exact hd.2 k x hx
theorem wI_obj : ∀ o, o < 12 → wI[o]? = some (0, o, cO o) := by decide +kernel
theorem cO_lt {o c : Nat} (h : cO o = c) (hc : c < 99) : o < 12 := by
  rcases Nat.lt_or_ge o 12 with q | q
  · exact q
  · unfold cO at h
    rw [mNth_get, List.getElem?_eq_none (by show 12 ≤ o; exact q)] at h
    simp at h; omega
def wPos (a : Nat) : Nat := (wI.findIdx? (fun q => decide (q.1 ≠ 0 ∧ q.2.1 = a))).getD 0
theorem wI_arr0 : ∀ a, a < 192 → aK a ≤ 2 → wI[wPos a]? = some (aK a + 1, a, aN a) := by decide +kernel
theorem aK_lt {a : Nat} (h : aK a ≤ 2) (h9 : a ≠ 999) : a < 192 := by
  rcases Nat.lt_or_ge a 192 with q | q
  · exact q
  · unfold aK at h
    rw [if_neg h9, mNth_get aKs, List.getElem?_eq_none (by show 12 ≤ a / 16; omega)] at h
    simp [mNth] at h
theorem wI_arr {a : Nat} (h : aK a ≤ 2) (h9 : a ≠ 999) : wI[wPos a]? = some (aK a + 1, a, aN a) := wI_arr0 a (aK_lt h h9) h
theorem aN_small : ∀ a, a < 192 → aN a ≤ 256 := by decide +kernel
theorem wI_one : ∀ i, i < 40 → ∀ j, j < 40 → (wI.getD i (0, 0, 0)).1 ≠ 0 → (wI.getD j (0, 0, 0)).1 ≠ 0 → (wI.getD i (0, 0, 0)).2.1 = (wI.getD j (0, 0, 0)).2.1 → i = j := by decide +kernel
theorem wI_oneO : ∀ i, i < 40 → ∀ j, j < 40 → (wI.getD i (0, 0, 0)).1 = 0 → (wI.getD j (0, 0, 0)).1 = 0 → (wI.getD i (0, 0, 0)).2.1 = (wI.getD j (0, 0, 0)).2.1 → i = j := by decide +kernel
theorem wI_cls : ∀ i, i < 40 → (wI.getD i (0, 0, 0)).1 = 0 → (wI.getD i (0, 0, 0)).2.2 < 10 := by decide +kernel
theorem wI_len : wI.length = 40 := by decide +kernel
theorem wI_D {i : Nat} {q : Nat × Nat × Nat} (h : wI[i]? = some q) : i < 40 ∧ wI.getD i (0, 0, 0) = q := by
  have := (List.getElem?_eq_some_iff.mp h).1
  rw [wI_len] at this
  exact ⟨this, by rw [List.getD_eq_getElem?_getD, h]; rfl⟩
/-- an array's new row is the world's -/
theorem wW_setA {aO aA : Nat → Nat} {G : ClassId × ClassId × ClassId} {h : mH} {a k : Nat} {q : Nat × Nat × Nat} {f : Nat → Int} (hk : wI[k]? = some q) (h1 : q.1 ≠ 0) (h2 : q.2.1 = a) : (wW aO aA G h).set k (wCel aO aA G (h.1, up h.2 a f) q) = wW aO aA G (h.1, up h.2 a f) := by
  apply List.ext_getElem?
  intro j
  by_cases e : j = k
  · subst e
    rw [List.getElem?_set_self (by rw [wW, List.length_map]; exact (List.getElem?_eq_some_iff.mp hk).1), wW_at hk]
  · rw [List.getElem?_set_ne (Ne.symm e)]
    unfold wW
    rw [List.getElem?_map, List.getElem?_map]
    cases hj : wI[j]? with
    | none => rfl
    | some y =>
      show some _ = some _
      congr 1
      obtain ⟨z, b, n⟩ := y
      have hne : z ≠ 0 → b ≠ a := fun hz hb => e (wI_one j (wI_D hj).1 k (wI_D hk).1 (by rw [(wI_D hj).2]; exact hz) (by rw [(wI_D hk).2]; exact h1) (by rw [(wI_D hj).2, (wI_D hk).2, h2]; exact hb))
      match z, hne with
      | 0, _ => rfl
      | 1, hne => show (_, Sum.inl (_, _, Sum.inl _)) = (_, Sum.inl (_, _, Sum.inl _)); simp only [up, if_neg (hne (by decide))]
      | 2, hne => show (_, Sum.inl (_, _, Sum.inr (Sum.inl _))) = (_, Sum.inl (_, _, Sum.inr (Sum.inl _))); simp only [up, if_neg (hne (by decide))]
      | n + 3, hne => show (_, Sum.inl (_, _, Sum.inl _)) = (_, Sum.inl (_, _, Sum.inl _)); simp only [up, if_neg (hne (by omega))]
theorem wW_set1 {aO aA : Nat → Nat} {G : ClassId × ClassId × ClassId} {h : mH} {a k n : Nat} {f : Nat → Int} (hk : wI[k]? = some (0 + 1, a, n)) : (wW aO aA G h).set k (aA a, .inl (G.1, n, .inl (fun i => jI (f i)))) = wW aO aA G (h.1, up h.2 a f) := by
  rw [← wW_setA (q := (1, a, n)) (a := a) (f := f) hk (fun q => by cases q) rfl]
  simp only [wCel, up, if_pos]
theorem wW_set2 {aO aA : Nat → Nat} {G : ClassId × ClassId × ClassId} {h : mH} {a k n : Nat} {f : Nat → Int} (hk : wI[k]? = some (1 + 1, a, n)) : (wW aO aA G h).set k (aA a, .inl (G.2.1, n, .inr (.inl (fun i => jL (f i))))) = wW aO aA G (h.1, up h.2 a f) := by
  rw [← wW_setA (q := (2, a, n)) (a := a) (f := f) hk (fun q => by cases q) rfl]
  simp only [wCel, up, if_pos]
theorem wW_set3 {aO aA : Nat → Nat} {G : ClassId × ClassId × ClassId} {h : mH} {a k n : Nat} {f : Nat → Int} (hk : wI[k]? = some (2 + 1, a, n)) : (wW aO aA G h).set k (aA a, .inl (G.2.2, n, .inl (fun i => jI (f i)))) = wW aO aA G (h.1, up h.2 a f) := by
  rw [← wW_setA (q := (3, a, n)) (a := a) (f := f) hk (fun q => by cases q) rfl]
  simp only [wCel, up, if_pos]
/-- an object's new number is the world's -/
theorem wW_setF {aO aA : Nat → Nat} {G : ClassId × ClassId × ClassId} {h : mH} {o c k j : Nat} {z : Int} (hj : wI[j]? = some (0, o, c)) (hc : c < 10) (hk : k < cF c) (hf : fK c k = 0 ∨ fK c k = 1) :
    (wW aO aA G h).set j (aO o, .inr (c, ((List.range (cF c)).map (wFld aO aA h o c)).set k (if fK c k = 0 then .int (jI z) else .long (jL z)))) = wW aO aA G (up h.1 (16 * o + k) z, h.2) := by
  apply List.ext_getElem?
  intro i
  by_cases e : i = j
  · subst e
    rw [List.getElem?_set_self (by rw [wW, List.length_map]; exact (List.getElem?_eq_some_iff.mp hj).1), wW_at hj]
    show some (aO o, Sum.inr (c, _)) = some (aO o, Sum.inr (c, _))
    congr 4
    apply List.ext_getElem?
    intro x
    by_cases ex : x = k
    · subst ex
      rw [List.getElem?_set_self (by simpa using hk), List.getElem?_map, List.getElem?_range hk]
      show some _ = some _
      congr 1
      unfold wFld
      rcases hf with hf | hf <;> rw [hf] <;> simp [up]
    · rw [List.getElem?_set_ne (Ne.symm ex), List.getElem?_map, List.getElem?_map]
      cases hx : (List.range (cF c))[x]? with
      | none => rfl
      | some y =>
        have hy : y = x := by
          have := (List.getElem?_eq_some_iff.mp hx).2
          simpa using this.symm
        subst hy
        show some _ = some _
        congr 1
        unfold wFld
        have hne : 16 * o + y ≠ 16 * o + k := by omega
        simp only [up, if_neg hne]
  · rw [List.getElem?_set_ne (Ne.symm e)]
    unfold wW
    rw [List.getElem?_map, List.getElem?_map]
    cases hi : wI[i]? with
    | none => rfl
    | some y =>
      show some _ = some _
      congr 1
      obtain ⟨zz, b, n⟩ := y
      have h16 := cF_16 c hc
      match zz with
      | 0 =>
        have hb : b ≠ o := fun hb => e (wI_oneO i (wI_D hi).1 j (wI_D hj).1 (by rw [(wI_D hi).2]) (by rw [(wI_D hj).2]) (by rw [(wI_D hi).2, (wI_D hj).2]; exact hb))
        have hn : n < 10 := by
          have := wI_cls i (wI_D hi).1 (by rw [(wI_D hi).2])
          rw [(wI_D hi).2] at this
          exact this
        have hn16 := cF_16 n hn
        show (aO b, Sum.inr (n, _)) = (aO b, Sum.inr (n, _))
        congr 3
        apply List.map_congr_left
        intro y hy
        have hy : y < cF n := List.mem_range.mp hy
        have hne : 16 * b + y ≠ 16 * o + k := by omega
        unfold wFld
        simp only [up, if_neg hne]
      | 1 => rfl
      | 2 => rfl
      | n + 3 => rfl
end
section
/-! what a step can be -/
abbrev rT0 (pc : Nat) (L : mL) (S : List mV) (h : mH) : (Option Prop × mC) ⊕ (Prop × Prop × Nat × Nat × mL × List mV × mH) ⊕ (Option Prop × Nat × List mV × Nat × mL × List mV × mH) ⊕ (Option Prop × Option mV × mH) := .inl (none, pc, L, S, h)
theorem mLoad_out {pc : Nat} {L : mL} {S : List mV} {h : mH} {i k : Nat} {r : (Option Prop × mC) ⊕ (Prop × Prop × Nat × Nat × mL × List mV × mH) ⊕ (Option Prop × Nat × List mV × Nat × mL × List mV × mH) ⊕ (Option Prop × Option mV × mH)} (hs : mLoad pc L S h i k = some r) :
    (∃ z, k = 0 ∧ mNth L i = some (some (vI z)) ∧ r = rT0 pc L (vI z :: S) h) ∨ (∃ z, k = 1 ∧ mNth L i = some (some (vL z)) ∧ r = rT0 pc L (vL z :: S) h) ∨ (∃ o, k = 2 ∧ mNth L i = some (some (vO o)) ∧ r = rT0 pc L (vO o :: S) h) ∨ (∃ a, k = 2 ∧ mNth L i = some (some (vA a)) ∧ r = rT0 pc L (vA a :: S) h) := by
  unfold mLoad at hs
  split at hs
  next z hz => exact Or.inl ⟨z, rfl, hz, (Option.some.inj hs).symm⟩
  next z hz => exact Or.inr (Or.inl ⟨z, rfl, hz, (Option.some.inj hs).symm⟩)
  next z hz => exact Or.inr (Or.inr (Or.inl ⟨z, rfl, hz, (Option.some.inj hs).symm⟩))
  next z hz => exact Or.inr (Or.inr (Or.inr ⟨z, rfl, hz, (Option.some.inj hs).symm⟩))
  next => cases hs
theorem mStore_out {pc : Nat} {L : mL} {S : List mV} {h : mH} {i k : Nat} {r : (Option Prop × mC) ⊕ (Prop × Prop × Nat × Nat × mL × List mV × mH) ⊕ (Option Prop × Nat × List mV × Nat × mL × List mV × mH) ⊕ (Option Prop × Option mV × mH)} (hs : mStore pc L S h i k = some r) :
    (∃ z T, S = vI z :: T ∧ k = 0 ∧ i < L.length ∧ r = rT0 pc (mPut L i (vI z)) T h) ∨ (∃ z T, S = vL z :: T ∧ k = 1 ∧ i + 1 < L.length ∧ r = rT0 pc (mPut L i (vL z)) T h) ∨ (∃ o T, S = vO o :: T ∧ k = 2 ∧ i < L.length ∧ r = rT0 pc (mPut L i (vO o)) T h) ∨ (∃ a T, S = vA a :: T ∧ k = 2 ∧ i < L.length ∧ r = rT0 pc (mPut L i (vA a)) T h) := by
  unfold mStore at hs
  split at hs
  next w z T hz => exact Or.inl ⟨z, T, rfl, rfl, mLt_lt _ _ hz, (Option.some.inj hs).symm⟩
  next w z T hz => exact Or.inr (Or.inl ⟨z, T, rfl, rfl, mLt_lt _ _ hz, (Option.some.inj hs).symm⟩)
  next w z T hz => exact Or.inr (Or.inr (Or.inl ⟨z, T, rfl, rfl, mLt_lt _ _ hz, (Option.some.inj hs).symm⟩))
  next w z T hz => exact Or.inr (Or.inr (Or.inr ⟨z, T, rfl, rfl, mLt_lt _ _ hz, (Option.some.inj hs).symm⟩))
  next => cases hs
theorem mCall_out {pc : Nat} {L : mL} {S : List mV} {h : mH} {m : Nat} {st : Bool} {r : (Option Prop × mC) ⊕ (Prop × Prop × Nat × Nat × mL × List mV × mH) ⊕ (Option Prop × Nat × List mV × Nat × mL × List mV × mH) ⊕ (Option Prop × Option mV × mH)} (hs : mCall pc L S h m st = some r) :
    ∃ args rest, mTake (mA m) [] S = some (args, rest) ∧ mCat rest ≤ 8 ∧ (mFlat args).length ≤ mW m ∧ ((st = true ∧ mS m = true ∧ r = .inr (.inr (.inl (none, m, args, pc + 3, L, rest, h)))) ∨ (st = false ∧ mS m = false ∧ ∃ o as, args = vO o :: as ∧ r = .inr (.inr (.inl (some (cO o = mK m), m, args, pc + 3, L, rest, h))))) := by
  unfold mCall at hs
  split at hs
  next args rest ht =>
    split at hs
    next h1 h2 =>
      refine ⟨args, rest, ht, Nat.le_of_ble_eq_true h1, Nat.le_of_ble_eq_true h2, ?_⟩
      split at hs
      next hm => exact Or.inl ⟨rfl, hm, (Option.some.inj hs).symm⟩
      next o as hm => exact Or.inr ⟨rfl, hm, o, as, rfl, (Option.some.inj hs).symm⟩
      next => cases hs
    next => cases hs
  next => cases hs
theorem mTake_out : ∀ (n : Nat) (acc S : List mV) (args rest : List mV), mTake n acc S = some (args, rest) → args.reverse ++ rest = acc.reverse ++ S ∧ args.length = acc.length + n
  | 0, acc, S, args, rest, h => by
    simp only [mTake, Option.some.injEq, Prod.mk.injEq] at h
    obtain ⟨rfl, rfl⟩ := h
    simp
  | n + 1, acc, [], args, rest, h => by simp [mTake] at h
  | n + 1, acc, v :: S, args, rest, h => by
    obtain ⟨h1, h2⟩ := mTake_out n (v :: acc) S args rest (by simpa [mTake] using h)
    refine ⟨?_, ?_⟩
    · rw [h1]; simp
    · rw [h2]; simp; omega
theorem mTake_all {n : Nat} {S args rest : List mV} (h : mTake n [] S = some (args, rest)) : S = args.reverse ++ rest ∧ args.length = n := by
  obtain ⟨h1, h2⟩ := mTake_out _ _ _ _ _ h
  exact ⟨by simpa using h1.symm, by simpa using h2⟩
theorem ck_dec {m pc : Nat} {e : mE} (h : ck m pc e = true) : decode (bN m) pc = .ok (e.1, ilen pc e.1) := by
  unfold ck at h
  exact of_decide_eq_true (Bool.and_eq_true_iff.mp h).1
theorem kF_word {q : Nat × Nat × Nat × Nat × Nat} (h : q ∈ kF) : Cond.fieldLink (cN q.1) q.2.1 (cN q.2.2.1) (cT q.2.2.1 q.2.2.2.1).2.1 (cT q.2.2.1 q.2.2.2.1).2.2.1 ∈ lw_good := good_at (kF_at q h) rfl
theorem kV_word {q : Nat × Nat × Nat × Nat} (h : q ∈ kV) : Cond.methodLink (cN q.1) q.2.1 (yN q.2.2.1) ∈ lw_good := good_at (kV_at q h) rfl
theorem kS_word {q : Nat × Nat × Nat × Nat} (h : q ∈ kS) : Cond.methodLink (cN q.1) q.2.1 (yN q.2.2.1) ∈ lw_good := good_at (kS_at q h) rfl
theorem kI_word {q : Nat × Nat × Int × Nat} (h : q ∈ kI) : Cond.constant (cN q.1) q.2.1 (jI q.2.2.1) ∈ lw_good := good_at (kI_at q h) rfl
theorem kL_word {q : Nat × Nat × Int × Nat} (h : q ∈ kL) : Cond.constantLong (cN q.1) q.2.1 (jL q.2.2.1) ∈ lw_good := good_at (kL_at q h) rfl
theorem kX_word {q : Nat × Nat × Nat × Nat} (h : q ∈ kX) : Cond.methodLink (cN q.1) q.2.1 (if q.2.2.1 = 901 then Lib.Math.max.name else Lib.Math.min.name) ∈ lw_good := good_at (kX_at q h) rfl
theorem kM_codeW {m : Nat} (h : m < 133) : Cond.code (yN m) (bN m) (mW m) (rN m) ∈ lw_good := good_at (kM_code m h) rfl
theorem kM_initW {m : Nat} (h : m < 133) : Cond.initialized (yN m).cls ∈ lw_good := good_at (kM_init m h) rfl
theorem kM_statW {m : Nat} (h : m < 133) (k : mS m = true) : Cond.static (yN m) ∈ lw_good := good_at (kM_stat m h k) rfl
theorem kM_instW {m : Nat} (h : m < 133) (k : mS m = false) : Cond.instanceMethod (yN m) ∈ lw_good := good_at (kM_inst m h k) rfl
theorem kM_selW {m : Nat} (h : m < 133) (k : mS m = false) : Cond.selects (cN (mK m)) (yN m) (yN m) ∈ lw_good := good_at (kM_sel m h k) rfl
theorem good_in {w : Cond} (h : w ∈ lw_tbl) (g : goodWord w = true) : w ∈ lw_good := List.mem_filter.mpr ⟨h, g⟩
theorem kW_words {c : Nat} (h : c < 10) : ∀ w ∈ u_ws (cN c) (cT c) (cF c), w ∈ lw_good := by
  intro w hw
  obtain ⟨k, hk, rfl⟩ := List.mem_map.mp hw
  refine good_at (kW_at c h k (List.mem_range.mp hk)) ?_
  unfold u_lay
  split <;> rfl
theorem good_GoodIn : GoodIn lw_good lw_good := fun w hw => ⟨hw, good_of_word (List.mem_filter.mp hw).2⟩
theorem ck_F {m i : Nat} {e : mE} (h : kF.any (fun q => decide (q.1 = mK m ∧ q.2.1 = i ∧ q.2.2.1 = e.2.1 ∧ q.2.2.2.1 = e.2.2.1)) = true) : ∃ q ∈ kF, q.1 = mK m ∧ q.2.1 = i ∧ q.2.2.1 = e.2.1 ∧ q.2.2.2.1 = e.2.2.1 := by
  obtain ⟨q, h1, h2⟩ := List.any_eq_true.mp h
  exact ⟨q, h1, of_decide_eq_true h2⟩
end
section
/-! ONE STEP of the small machine is a step of the machine -/
def hScr (b Ls : Nat) (xs : Nat → Int32) (h : mH) : Prop := h.1 999 = (Ls : Int) ∧ ∀ j, j < Ls → xs j = jI (h.2 999 j)
def Cx (p : Program) (s : State) (m : MethodId) (args : Array Value) (c : Code) (M : Nat) (D : va_G) (G : ClassId × ClassId × ClassId) (aO aA : Nat → Nat) (A : Nat → Prop) (b Ls : Nat) (xs : Nat → Int32) : Prop :=
  p.tables.exec = Jvm.exec ∧ c.code = bN M ∧ c.maxLocals = mW M ∧ s.vm.findClass (cN (mK M)) = some m.cls ∧ (∀ w ∈ lw_good, w.before args s = true) ∧ (∀ q ∈ kN, va_Nw (.methodLinkNest (cN q.1) q.2.1 (yN q.2.2.1) "DesignTurns") s) ∧ va_K D vwCl (wT G) s ∧ wDd A aO aA ∧ (∀ q, s.heap.size ≤ q → A q) ∧ va_X b Ls xs s s.heap ∧ b < s.heap.size ∧ ¬ A b ∧ aA 999 = b ∧ Ls < 2147483648
section STEP
variable {p : Program} {l : Launch} {e : Env} {R : Room} {s : State} {m : MethodId} {args : Array Value} {below : List Frame} {meth : Method} {c : Code} {H : Heap} {locs : List Loc} {cells slots : Nat} {Q : State → Prop}
variable {D : va_G} {G : ClassId × ClassId × ClassId} {aO aA : Nat → Nat} {A : Nat → Prop} {b Ls : Nat} {xs : Nat → Int32}
set_option maxHeartbeats 4000000 in
theorem step_ok {M pc : Nat} {en : mE} {L L2 : mL} {S S2 : List mV} {h h2 : mH} {g : Option Prop} {pc2 : Nat} {ls : Array Slot} (C : Cx p s m args c M D G aO aA A b Ls xs) (he : pg M pc = some en) (hs : stp en pc L S h = some (.inl (g, pc2, L2, S2, h2))) (hg : gd g True) (hR : 1 ≤ R.frames ∧ 40 ≤ R.locals ∧ cells ≤ R.cells ∧ slots ≤ R.slots)
    (hl : HL (cvV aO aA) ls L) (hn : L.length = mW M) (hP : va_P D vwCl (wW aO aA G h) H) (hS : va_S A s.heap H locs) (hc : hScr b Ls xs h)
    (kk : ∀ (ls2 : Array Slot) (H2 : Heap) (locs2 : List Loc), HL (cvV aO aA) ls2 L2 → L2.length = mW M → va_P D vwCl (wW aO aA G h2) H2 → va_S A s.heap H2 locs2 → hScr b Ls xs h2 → W p l e R s m args below meth c H2 locs2 cells slots Q (F0 m pc2 ls2 (S2.map (cvV aO aA)))) :
    W p l e R s m args below meth c H locs cells slots Q (F0 m pc ls (S.map (cvV aO aA))) := by
  obtain ⟨hx, hb, hml, hown, hts, hnest, hK, hDd, hA, hX, hbl, hbA, hb9, hLs⟩ := C
  have hck := ck_at he
  have hd := ck_dec hck
  have hD := hDd.D G h
  have ha := (Bool.and_eq_true_iff.mp (by unfold ck at hck; exact hck)).2
  obtain ⟨i, x, y, z⟩ := en
  have mput : ∀ (i : Nat) (v : mV), (mPut L i v).length = L.length := by
    intro i v
    unfold mPut
    split <;> simp only [mSet_len, mCut_len]
  cases i
  case iload i =>
    rcases mLoad_out hs with ⟨z, hk, hz, hr⟩ | ⟨z, hk, hz, hr⟩ | ⟨z, hk, hz, hr⟩ | ⟨z, hk, hz, hr⟩ <;> first | (cases hk; done) | skip
    cases hr
    exact lv_iload hx hb hd (hl.2.2 _ _ hz) (kk ls H locs hl hn hP hS hc)
  case iload_n i =>
    rcases mLoad_out hs with ⟨z, hk, hz, hr⟩ | ⟨z, hk, hz, hr⟩ | ⟨z, hk, hz, hr⟩ | ⟨z, hk, hz, hr⟩ <;> first | (cases hk; done) | skip
    cases hr
    exact lv_iload_n hx hb hd rfl (hl.2.2 _ _ hz) (kk ls H locs hl hn hP hS hc)
  case lload i =>
    rcases mLoad_out hs with ⟨z, hk, hz, hr⟩ | ⟨z, hk, hz, hr⟩ | ⟨z, hk, hz, hr⟩ | ⟨z, hk, hz, hr⟩ <;> first | (cases hk; done) | skip
    cases hr
    exact lv_lload hx hb hd (hl.2.2 _ _ hz) (kk ls H locs hl hn hP hS hc)
  case lload_n i =>
    rcases mLoad_out hs with ⟨z, hk, hz, hr⟩ | ⟨z, hk, hz, hr⟩ | ⟨z, hk, hz, hr⟩ | ⟨z, hk, hz, hr⟩ <;> first | (cases hk; done) | skip
    cases hr
    exact lv_lload_n hx hb hd rfl (hl.2.2 _ _ hz) (kk ls H locs hl hn hP hS hc)
  case aload i =>
    rcases mLoad_out hs with ⟨z, hk, hz, hr⟩ | ⟨z, hk, hz, hr⟩ | ⟨z, hk, hz, hr⟩ | ⟨z, hk, hz, hr⟩ <;> first | (cases hk; done) | skip
    · cases hr
      exact lv_aload hx hb hd (hl.2.2 _ _ hz) (kk ls H locs hl hn hP hS hc)
    · cases hr
      exact lv_aload hx hb hd (hl.2.2 _ _ hz) (kk ls H locs hl hn hP hS hc)
  case aload_n i =>
    rcases mLoad_out hs with ⟨z, hk, hz, hr⟩ | ⟨z, hk, hz, hr⟩ | ⟨z, hk, hz, hr⟩ | ⟨z, hk, hz, hr⟩ <;> first | (cases hk; done) | skip
    · cases hr
      exact lv_aload_n hx hb hd rfl (hl.2.2 _ _ hz) (kk ls H locs hl hn hP hS hc)
    · cases hr
      exact lv_aload_n hx hb hd rfl (hl.2.2 _ _ hz) (kk ls H locs hl hn hP hS hc)
  case istore i =>
    rcases mStore_out hs with ⟨z, T, rfl, hk, hi, hr⟩ | ⟨z, T, rfl, hk, hi, hr⟩ | ⟨z, T, rfl, hk, hi, hr⟩ | ⟨z, T, rfl, hk, hi, hr⟩ <;> first | (cases hk; done) | skip
    cases hr
    exact lv_istore hx hb hd hl.has hi rfl (fun ls2 hl2 => kk ls2 H locs (HL.put1 (v := vI z) rfl hi hl2) ((mput _ _).trans hn) hP hS hc)
  case istore_n i =>
    rcases mStore_out hs with ⟨z, T, rfl, hk, hi, hr⟩ | ⟨z, T, rfl, hk, hi, hr⟩ | ⟨z, T, rfl, hk, hi, hr⟩ | ⟨z, T, rfl, hk, hi, hr⟩ <;> first | (cases hk; done) | skip
    cases hr
    exact lv_istore_n hx hb hd rfl hl.has hi rfl (fun ls2 hl2 => kk ls2 H locs (HL.put1 (v := vI z) rfl hi hl2) ((mput _ _).trans hn) hP hS hc)
  case lstore i =>
    rcases mStore_out hs with ⟨z, T, rfl, hk, hi, hr⟩ | ⟨z, T, rfl, hk, hi, hr⟩ | ⟨z, T, rfl, hk, hi, hr⟩ | ⟨z, T, rfl, hk, hi, hr⟩ <;> first | (cases hk; done) | skip
    cases hr
    exact lv_lstore hx hb hd hl.has hi rfl (fun ls2 hl2 => kk ls2 H locs (HL.put2 hi hl2) ((mput _ _).trans hn) hP hS hc)
  case lstore_n i =>
    rcases mStore_out hs with ⟨z, T, rfl, hk, hi, hr⟩ | ⟨z, T, rfl, hk, hi, hr⟩ | ⟨z, T, rfl, hk, hi, hr⟩ | ⟨z, T, rfl, hk, hi, hr⟩ <;> first | (cases hk; done) | skip
    cases hr
    exact lv_lstore_n hx hb hd rfl hl.has hi rfl (fun ls2 hl2 => kk ls2 H locs (HL.put2 hi hl2) ((mput _ _).trans hn) hP hS hc)
  case astore i =>
    rcases mStore_out hs with ⟨z, T, rfl, hk, hi, hr⟩ | ⟨z, T, rfl, hk, hi, hr⟩ | ⟨z, T, rfl, hk, hi, hr⟩ | ⟨z, T, rfl, hk, hi, hr⟩ <;> first | (cases hk; done) | skip
    · cases hr
      exact lv_astore hx hb hd hl.has hi rfl (fun ls2 hl2 => kk ls2 H locs (HL.put1 (v := vO z) rfl hi hl2) ((mput _ _).trans hn) hP hS hc)
    · cases hr
      exact lv_astore hx hb hd hl.has hi rfl (fun ls2 hl2 => kk ls2 H locs (HL.put1 (v := vA z) rfl hi hl2) ((mput _ _).trans hn) hP hS hc)
  case astore_n i =>
    rcases mStore_out hs with ⟨z, T, rfl, hk, hi, hr⟩ | ⟨z, T, rfl, hk, hi, hr⟩ | ⟨z, T, rfl, hk, hi, hr⟩ | ⟨z, T, rfl, hk, hi, hr⟩ <;> first | (cases hk; done) | skip
    · cases hr
      exact lv_astore_n hx hb hd rfl hl.has hi rfl (fun ls2 hl2 => kk ls2 H locs (HL.put1 (v := vO z) rfl hi hl2) ((mput _ _).trans hn) hP hS hc)
    · cases hr
      exact lv_astore_n hx hb hd rfl hl.has hi rfl (fun ls2 hl2 => kk ls2 H locs (HL.put1 (v := vA z) rfl hi hl2) ((mput _ _).trans hn) hP hS hc)
  case iconst n =>
    cases hs
    exact lv_iconst hx hb hd (of_decide_eq_true ha) (kk ls H locs hl hn hP hS hc)
  case bipush n =>
    cases hs
    exact lv_bipush hx hb hd (of_decide_eq_true ha) (kk ls H locs hl hn hP hS hc)
  case sipush n =>
    cases hs
    exact lv_sipush hx hb hd (of_decide_eq_true ha) (kk ls H locs hl hn hP hS hc)
  case lconst n =>
    cases hs
    exact lv_lconst hx hb hd (of_decide_eq_true ha) (kk ls H locs hl hn hP hS hc)
  case ldc n =>
    cases hs
    obtain ⟨q, hq, hq2⟩ := List.any_eq_true.mp ha
    obtain ⟨q1, q2, q3⟩ := of_decide_eq_true hq2
    have hw := hts _ (kI_word hq)
    rw [q1, q2, q3] at hw
    exact lv_ldc hx hb hown hw hd (kk ls H locs hl hn hP hS hc)
  case ldc2_w n =>
    cases hs
    obtain ⟨q, hq, hq2⟩ := List.any_eq_true.mp ha
    obtain ⟨q1, q2, q3⟩ := of_decide_eq_true hq2
    have hw := hts _ (kL_word hq)
    rw [q1, q2, q3] at hw
    exact lv_ldc2 hx hb hown hw hd (kk ls H locs hl hn hP hS hc)
  case iadd =>
    dsimp only [stp] at hs
    split at hs
    · cases hs
      refine lv_iadd hx hb hd ?_
      rw [← jI_add]
      exact kk ls H locs hl hn hP hS hc
    · cases hs
  case isub =>
    dsimp only [stp] at hs
    split at hs
    · cases hs
      refine lv_isub hx hb hd ?_
      rw [← jI_sub]
      exact kk ls H locs hl hn hP hS hc
    · cases hs
  case imul =>
    dsimp only [stp] at hs
    split at hs
    · cases hs
      refine lv_imul hx hb hd ?_
      rw [← jI_mul]
      exact kk ls H locs hl hn hP hS hc
    · cases hs
  case idiv =>
    dsimp only [stp] at hs
    split at hs
    · cases hs
      obtain ⟨⟨g1, g2, g3⟩, -⟩ := hg
      refine lv_idiv hx hb hd (jI_ne0 g2 g3) ?_
      rw [← jI_div g1 g2]
      exact kk ls H locs hl hn hP hS hc
    · cases hs
  case iand =>
    dsimp only [stp] at hs
    split at hs
    · cases hs
      refine lv_iand hx hb hd ?_
      rw [← jI_and]
      exact kk ls H locs hl hn hP hS hc
    · cases hs
  case ior =>
    dsimp only [stp] at hs
    split at hs
    · cases hs
      refine lv_ior hx hb hd ?_
      rw [← jI_or]
      exact kk ls H locs hl hn hP hS hc
    · cases hs
  case ixor =>
    dsimp only [stp] at hs
    split at hs
    · cases hs
      refine lv_ixor hx hb hd ?_
      rw [← jI_xor]
      exact kk ls H locs hl hn hP hS hc
    · cases hs
  case ishl =>
    dsimp only [stp] at hs
    split at hs
    · cases hs
      refine lv_ishl hx hb hd ?_
      rw [← jI_shl]
      exact kk ls H locs hl hn hP hS hc
    · cases hs
  case ishr =>
    dsimp only [stp] at hs
    split at hs
    · cases hs
      refine lv_ishr hx hb hd ?_
      rw [← jI_shr]
      exact kk ls H locs hl hn hP hS hc
    · cases hs
  case i2l =>
    dsimp only [stp] at hs
    split at hs
    · cases hs
      exact lv_i2l hx hb hd (jI_i2l hg.1) (kk ls H locs hl hn hP hS hc)
    · cases hs
  case ladd =>
    dsimp only [stp] at hs
    split at hs
    · cases hs
      refine lv_ladd hx hb hd ?_
      rw [← jL_add]
      exact kk ls H locs hl hn hP hS hc
    · cases hs
  case lmul =>
    dsimp only [stp] at hs
    split at hs
    · cases hs
      refine lv_lmul hx hb hd ?_
      rw [← jL_mul]
      exact kk ls H locs hl hn hP hS hc
    · cases hs
  case ldiv =>
    dsimp only [stp] at hs
    split at hs
    · cases hs
      obtain ⟨⟨g1, g2, g3⟩, -⟩ := hg
      refine lv_ldiv hx hb hd (jL_ne0 g2 g3) ?_
      rw [← jL_div g1 g2]
      exact kk ls H locs hl hn hP hS hc
    · cases hs
  case lrem =>
    dsimp only [stp] at hs
    split at hs
    · cases hs
      obtain ⟨⟨g1, g2, g3⟩, -⟩ := hg
      refine lv_lrem hx hb hd (jL_ne0 g2 g3) ?_
      rw [← jL_rem g1 g2]
      exact kk ls H locs hl hn hP hS hc
    · cases hs
  case lcmp =>
    dsimp only [stp] at hs
    split at hs
    · cases hs
      obtain ⟨⟨g1, g2⟩, -⟩ := hg
      refine W.lcmp hx hb hd ?_
      rw [jI_cmp g1 g2]
      exact kk ls H locs hl hn hP hS hc
    · cases hs
  case iinc i n =>
    dsimp only [stp] at hs
    split at hs
    next x hx1 hx2 =>
      cases hs
      have hi := mLt_lt _ _ hx2
      obtain ⟨k, hk, hk2⟩ := List.getElem_of_mem (lvl_mem (cv := cvV aO aA) hx1)
      exact lv_iinc hx hb hd hl.has (k := k) ((List.getElem?_eq_getElem hk).trans (congrArg some hk2)) (jI_add x n).symm hi rfl (fun ls2 hl2 => kk ls2 H locs (HL.put1 (v := vI (x + n)) rfl hi hl2) ((mput _ _).trans hn) hP hS hc)
    next => cases hs
  case goto n =>
    cases hs
    exact lv_goto hx hb hd (of_decide_eq_true ha) (kk ls H locs hl hn hP hS hc)
  case getfield i =>
    dsimp only [stp] at hs
    split at hs
    next o T =>
      obtain ⟨q, hq, q1, q2, q3, q4⟩ := ck_F (e := (Instr.getfield i, x, y, z)) ha
      have hw := hts _ (kF_word hq)
      obtain ⟨hc10, hk10⟩ := kF_in q hq
      rw [q1, q2, q3, q4] at hw
      rw [q3] at hc10 hk10
      rw [q4] at hk10
      dsimp only at hw hc10 hk10 hs
      have go : ∀ (v : Value), cO o = x → wFld aO aA h o x y = v → (W p l e R s m args below meth c H locs cells slots Q (F0 m (pc + 3) ls (v :: T.map (cvV aO aA)))) → W p l e R s m args below meth c H locs cells slots Q (F0 m pc ls ((vO o :: T).map (cvV aO aA))) := by
        intro v hco hv k
        have ho := wI_obj o (cO_lt hco (by omega))
        rw [hco] at ho
        exact va_get hx hb hts (kW_words hc10) hown hK hP o (wW_at ho) (kC_at x hc10) y hk10 hw (fun w hw2 => by rw [← kT_own x hc10 y hk10]; exact hw2) (by rw [List.getElem?_map, List.getElem?_range hk10]; exact congrArg some hv) hd k
      unfold mGet at hs
      unfold wFld at go
      split at hs
      next hk => cases hs; exact go _ hg.1 (by rw [hk]; rfl) (kk ls H locs hl hn hP hS hc)
      next hk => cases hs; exact go _ hg.1 (by rw [hk]; rfl) (kk ls H locs hl hn hP hS hc)
      next hk => cases hs; exact go _ hg.1 (by rw [hk]; rfl) (kk ls H locs hl hn hP hS hc)
      next k0 k1 k2 =>
        cases hs
        refine go _ hg.1 ?_ (kk ls H locs hl hn hP hS hc)
        split
        next e => exact absurd e k0
        next e => exact absurd e k1
        next e => exact absurd e k2
        next => rfl
    next => cases hs
  case putfield i =>
    dsimp only [stp] at hs
    split at hs
    next v o T =>
      obtain ⟨q, hq, q1, q2, q3, q4⟩ := ck_F (e := (Instr.putfield i, x, y, z)) ha
      have hw := hts _ (kF_word hq)
      obtain ⟨hc10, hk10⟩ := kF_in q hq
      rw [q1, q2, q3, q4] at hw
      rw [q3] at hc10 hk10
      rw [q4] at hk10
      dsimp only at hw hc10 hk10 hs
      have hkin := kT_kind x hc10 y hk10
      unfold mPutf at hs
      split at hs
      next zv hk =>
        cases hs
        have ho := wI_obj o (cO_lt hg.1 (by omega))
        rw [hg.1] at ho
        have hset := wW_setF (aO := aO) (aA := aA) (G := G) (h := h) (z := zv) ho hc10 hk10 (Or.inl hk)
        rw [if_pos hk] at hset
        refine va_put (v := .int (jI zv)) (ty := .int) hx hb hts (kW_words hc10) (cY x) (kY_ok x hc10) (kT_ok x hc10) hown hK hP hD hS o (wW_at ho) (kC_at x hc10) y hk10 hw (fun w hw2 => by rw [← kT_own x hc10 y hk10]; exact hw2) (hkin.1 hk).2 (by rw [kY_ok x hc10 y hk10, (hkin.1 hk).1]) rfl rfl (by simpa using hk10) hd (fun H2 locs2 hP2 hD2 hS2 => ?_)
        rw [hset] at hP2
        refine kk ls H2 locs2 hl hn hP2 hS2 ⟨?_, hc.2⟩
        have ho12 := cO_lt hg.1 (by omega)
        have h16 := cF_16 x hc10
        show up h.1 (16 * o + y) zv 999 = _
        rw [up, if_neg (by omega)]
        exact hc.1
      next zv hk =>
        cases hs
        have ho := wI_obj o (cO_lt hg.1 (by omega))
        rw [hg.1] at ho
        have hset := wW_setF (aO := aO) (aA := aA) (G := G) (h := h) (z := zv) ho hc10 hk10 (Or.inr hk)
        rw [if_neg (by rw [hk]; decide)] at hset
        refine va_put (v := .long (jL zv)) (ty := .long) hx hb hts (kW_words hc10) (cY x) (kY_ok x hc10) (kT_ok x hc10) hown hK hP hD hS o (wW_at ho) (kC_at x hc10) y hk10 hw (fun w hw2 => by rw [← kT_own x hc10 y hk10]; exact hw2) (hkin.2 hk).2 (by rw [kY_ok x hc10 y hk10, (hkin.2 hk).1]) rfl rfl (by simpa using hk10) hd (fun H2 locs2 hP2 hD2 hS2 => ?_)
        rw [hset] at hP2
        refine kk ls H2 locs2 hl hn hP2 hS2 ⟨?_, hc.2⟩
        have ho12 := cO_lt hg.1 (by omega)
        have h16 := cF_16 x hc10
        show up h.1 (16 * o + y) zv 999 = _
        rw [up, if_neg (by omega)]
        exact hc.1
      next => cases hs
    next => cases hs
  case iaload =>
    dsimp only [stp] at hs
    split at hs
    next i a T =>
      cases hs
      obtain ⟨⟨g1, g2, g3⟩, -⟩ := hg
      by_cases h9 : a = 999
      · subst h9
        unfold mLen at g3
        rw [if_pos rfl, hc.1] at g3
        have hi : inR i := by omega
        show W p l e R s m args below meth c H locs cells slots Q (F0 m pc ls (.int (jI i) :: .ref (aA 999) :: T.map (cvV aO aA)))
        rw [hb9]
        refine va_sld hx hb hX hbl hbA hS (jI_vin g2 g3 hLs) hd ?_
        rw [jI_nat g2 hi, hc.2 _ (by omega)]
        exact kk ls H locs hl hn hP hS hc
      · unfold mLen at g3
        rw [if_neg h9] at g3
        have hw := wI_arr (by omega : aK a ≤ 2) h9
        have hsm := aN_small a (aK_lt (by omega) h9)
        rw [g1] at hw
        have hi : inR i := by omega
        refine va_iald hx hb hK hP (wPos a) 0 (wW_at hw) rfl (jI_vin (n := aN a) g2 g3 (by omega)) hd ?_
        rw [jI_nat g2 hi]
        exact kk ls H locs hl hn hP hS hc
    next => cases hs
  case laload =>
    dsimp only [stp] at hs
    split at hs
    next i a T =>
      cases hs
      obtain ⟨⟨g1, g2, g3⟩, -⟩ := hg
      have h9 : a ≠ 999 := by rintro rfl; exact absurd g1 (by decide)
      unfold mLen at g3
      rw [if_neg h9] at g3
      have hw := wI_arr (by omega : aK a ≤ 2) h9
      have hsm := aN_small a (aK_lt (by omega) h9)
      rw [g1] at hw
      have hi : inR i := by omega
      refine va_lald hx hb hK hP (wPos a) 1 (wW_at hw) rfl (jI_vin (n := aN a) g2 g3 (by omega)) hd ?_
      rw [jI_nat g2 hi]
      exact kk ls H locs hl hn hP hS hc
    next => cases hs
  case baload =>
    dsimp only [stp] at hs
    split at hs
    next i a T =>
      cases hs
      obtain ⟨⟨g1, g2, g3⟩, -⟩ := hg
      have h9 : a ≠ 999 := by rintro rfl; exact absurd g1 (by decide)
      unfold mLen at g3
      rw [if_neg h9] at g3
      have hw := wI_arr (by omega : aK a ≤ 2) h9
      have hsm := aN_small a (aK_lt (by omega) h9)
      rw [g1] at hw
      have hi : inR i := by omega
      refine va_zald hx hb hK hP (wPos a) 2 (wW_at hw) rfl (jI_vin (n := aN a) g2 g3 (by omega)) hd ?_
      rw [jI_nat g2 hi]
      exact kk ls H locs hl hn hP hS hc
    next => cases hs
  case iastore =>
    dsimp only [stp] at hs
    split at hs
    next v i a T =>
      cases hs
      obtain ⟨⟨g1, h9, g2, g3⟩, -⟩ := hg
      unfold mLen at g3
      rw [if_neg h9] at g3
      have hw := wI_arr (by omega : aK a ≤ 2) h9
      have hsm := aN_small a (aK_lt (by omega) h9)
      rw [g1] at hw
      have hi : inR i := by omega
      refine va_iast hx hb hK hP hD hS (wPos a) 0 (wW_at hw) rfl (jI_vin (n := aN a) g2 g3 (by omega)) hd (fun H2 locs2 hP2 hD2 hS2 => ?_)
      rw [jI_nat g2 hi, up_jI, wW_set1 hw] at hP2
      exact kk ls H2 locs2 hl hn hP2 hS2 ⟨hc.1, fun j hj => by show _ = jI (up h.2 a _ 999 j); rw [up, if_neg (Ne.symm h9)]; exact hc.2 j hj⟩
    next => cases hs
  case lastore =>
    dsimp only [stp] at hs
    split at hs
    next v i a T =>
      cases hs
      obtain ⟨⟨g1, h9, g2, g3⟩, -⟩ := hg
      unfold mLen at g3
      rw [if_neg h9] at g3
      have hw := wI_arr (by omega : aK a ≤ 2) h9
      have hsm := aN_small a (aK_lt (by omega) h9)
      rw [g1] at hw
      have hi : inR i := by omega
      refine va_last hx hb hK hP hD hS (wPos a) 1 (wW_at hw) rfl (jI_vin (n := aN a) g2 g3 (by omega)) hd (fun H2 locs2 hP2 hD2 hS2 => ?_)
      rw [jI_nat g2 hi, up_jL, wW_set2 hw] at hP2
      exact kk ls H2 locs2 hl hn hP2 hS2 ⟨hc.1, fun j hj => by show _ = jI (up h.2 a _ 999 j); rw [up, if_neg (Ne.symm h9)]; exact hc.2 j hj⟩
    next => cases hs
  case bastore =>
    dsimp only [stp] at hs
    split at hs
    next v i a T =>
      cases hs
      obtain ⟨⟨g1, h9, g2, g3, g4, g5⟩, -⟩ := hg
      unfold mLen at g3
      rw [if_neg h9] at g3
      have hw := wI_arr (by omega : aK a ≤ 2) h9
      have hsm := aN_small a (aK_lt (by omega) h9)
      rw [g1] at hw
      have hi : inR i := by omega
      refine va_zast hx hb hK hP hD hS (wPos a) 2 (wW_at hw) rfl (jI_vin (n := aN a) g2 g3 (by omega)) hd (fun H2 locs2 hP2 hD2 hS2 => ?_)
      rw [jI_nat g2 hi, jI_bool g4 g5, up_jI, wW_set3 hw] at hP2
      exact kk ls H2 locs2 hl hn hP2 hS2 ⟨hc.1, fun j hj => by show _ = jI (up h.2 a _ 999 j); rw [up, if_neg (Ne.symm h9)]; exact hc.2 j hj⟩
    next => cases hs
  case arraylength =>
    dsimp only [stp] at hs
    split at hs
    next a T =>
      cases hs
      have g1 := hg.1
      by_cases h9 : a = 999
      · subst h9
        show W p l e R s m args below meth c H locs cells slots Q (F0 m pc ls (.ref (aA 999) :: T.map (cvV aO aA)))
        rw [hb9]
        refine va_slen hx hb hX hbl hbA hS hd ?_
        have := kk ls H locs hl hn hP hS hc
        unfold mLen at this
        rw [if_pos rfl, hc.1] at this
        rw [jI_len]
        exact this
      · have hw := wI_arr g1 h9
        have := kk ls H locs hl hn hP hS hc
        unfold mLen at this
        rw [if_neg h9] at this
        rcases (by omega : aK a = 0 ∨ aK a = 1 ∨ aK a = 2) with z | z | z <;> rw [z] at hw
        · exact va_alen hx hb hK hP (wPos a) (t0 := 0) (wW_at hw) rfl (jI_len _) hd this
        · exact va_alen hx hb hK hP (wPos a) (t0 := 1) (wW_at hw) rfl (jI_len _) hd this
        · exact va_alen hx hb hK hP (wPos a) (t0 := 2) (wW_at hw) rfl (jI_len _) hd this
    next => cases hs
  case dup =>
    dsimp only [stp] at hs
    split at hs
    · cases hs
      exact lv_dup hx hb hd rfl (kk ls H locs hl hn hP hS hc)
    next v T =>
      cases hs
      rcases v with v | v
      · exact lv_dup hx hb hd rfl (kk ls H locs hl hn hP hS hc)
      · exact lv_dup hx hb hd rfl (kk ls H locs hl hn hP hS hc)
    · cases hs
  case pop =>
    dsimp only [stp] at hs
    split at hs
    · cases hs
      exact lv_pop hx hb hd rfl (kk ls H locs hl hn hP hS hc)
    next v T =>
      cases hs
      rcases v with v | v
      · exact lv_pop hx hb hd rfl (kk ls H locs hl hn hP hS hc)
      · exact lv_pop hx hb hd rfl (kk ls H locs hl hn hP hS hc)
    · cases hs
  case dup2 =>
    dsimp only [stp] at hs
    split at hs
    next x v T =>
      cases hs
      rcases v with v | v
      · exact lv_dup2_11 hx hb hd rfl rfl (kk ls H locs hl hn hP hS hc)
      · exact lv_dup2_11 hx hb hd rfl rfl (kk ls H locs hl hn hP hS hc)
    · cases hs
  case invokestatic i =>
    have hls : c.maxLocals = ls.size := by rw [hml, hl.1, hn]
    dsimp only [stp] at hs
    split at hs
    next =>
      dsimp only at ha
      rw [if_pos rfl] at ha
      obtain ⟨q1, q2⟩ := of_decide_eq_true ha
      split at hs
      next n dp b2 sp a2 =>
        cases hs
        obtain ⟨⟨g1, h9, g2, h92, g3, g4, g5, g6, g7⟩, -⟩ := hg
        have hw1 := wI_arr (by omega : aK a2 ≤ 2) h9
        have hw2 := wI_arr (by omega : aK b2 ≤ 2) h92
        have hs1 := aN_small a2 (aK_lt (by omega) h9)
        have hs2 := aN_small b2 (aK_lt (by omega) h92)
        rw [g1] at hw1
        rw [g2] at hw2
        have i1 : inR n := by omega
        have i2 : inR sp := by omega
        have i3 : inR dp := by omega
        have hlk := hts _ (good_in kA_link rfl)
        rw [← q1, ← q2] at hlk
        refine va_copyi (n0 := aN a2) (n1 := aN b2) hx hb hls hown hlk (hts _ (good_in kA_nat rfl)) (hts _ (good_in kA_stat rfl)) (hts _ (good_in kA_init rfl)) hK hP hD hS (wPos a2) (wPos b2) 0 0 (wW_at hw1) (wW_at hw2) rfl rfl rfl (by rw [← jI_0, jI_lt i2 inR0]; omega) (by rw [← jI_0, jI_lt i3 inR0]; omega) (by rw [← jI_0, jI_lt i1 inR0]; omega) (by rw [jI_nat g4 i2, jI_nat g3 i1]; omega) (by rw [jI_nat g5 i3, jI_nat g3 i1]; omega) (fun _ _ => rfl) hR.1 ?_ hd (fun H2 locs2 hP2 hD2 hS2 => ?_)
        · have : nativeFrameWords "java/lang/System" "arraycopy" 5 = 7 := by decide +kernel
          rw [this]
          have := hR.2.1
          show 0 + (7 + 11) ≤ _
          omega
        · rw [jI_nat g3 i1, jI_nat g4 i2, jI_nat g5 i3, cpy_jI, wW_set1 hw2] at hP2
          exact kk ls H2 locs2 hl hn hP2 hS2 ⟨hc.1, fun j hj => by show _ = jI (up h.2 b2 _ 999 j); rw [up, if_neg (Ne.symm h92)]; exact hc.2 j hj⟩
      next => cases hs
    next =>
      dsimp only at ha
      rw [if_neg (by decide), if_pos (Or.inl rfl)] at ha
      obtain ⟨q, hq, hq2⟩ := List.any_eq_true.mp ha
      obtain ⟨q1, q2, q3⟩ := of_decide_eq_true hq2
      have hlk := hts _ (kX_word hq)
      rw [q1, q2, q3, if_pos rfl] at hlk
      split at hs
      next y2 x2 T =>
        cases hs
        obtain ⟨⟨g1, g2, g3⟩, -⟩ := hg
        refine va_mmax hx hb hls hown hlk (hts _ (good_in kX_st1 rfl)) (hts _ (good_in kX_in rfl)) (hts _ (good_in kX_code1 rfl)) hR.1 (by rw [cv_cats]; have := hR.2.1; omega) hR.2.2.1 hR.2.2.2 hd ?_
        have := kk ls H locs hl hn hP hS hc
        rw [show (if jI x2 < jI y2 then jI y2 else jI x2) = jI (if x2 < y2 then y2 else x2) by simp only [jI_lt g1 g2]; split <;> rfl]
        exact this
      next => cases hs
    next =>
      dsimp only at ha
      rw [if_neg (by decide), if_pos (Or.inr rfl)] at ha
      obtain ⟨q, hq, hq2⟩ := List.any_eq_true.mp ha
      obtain ⟨q1, q2, q3⟩ := of_decide_eq_true hq2
      have hlk := hts _ (kX_word hq)
      rw [q1, q2, q3, if_neg (by decide)] at hlk
      split at hs
      next y2 x2 T =>
        cases hs
        obtain ⟨⟨g1, g2, g3⟩, -⟩ := hg
        refine va_mmin hx hb hls hown hlk (hts _ (good_in kX_st2 rfl)) (hts _ (good_in kX_in rfl)) (hts _ (good_in kX_code2 rfl)) hR.1 (by rw [cv_cats]; have := hR.2.1; omega) hR.2.2.1 hR.2.2.2 hd ?_
        have := kk ls H locs hl hn hP hS hc
        rw [show (if jI y2 < jI x2 then jI y2 else jI x2) = jI (if y2 < x2 then y2 else x2) by simp only [jI_lt g2 g1]; split <;> rfl]
        exact this
      next => cases hs
    next =>
      obtain ⟨_, _, _, _, _, h5⟩ := mCall_out hs
      rcases h5 with ⟨_, _, h5⟩ | ⟨_, _, _, _, _, h5⟩ <;> cases h5
  case invokevirtual i =>
    obtain ⟨_, _, _, _, _, h5⟩ := mCall_out hs
    rcases h5 with ⟨_, _, h5⟩ | ⟨_, _, _, _, _, h5⟩ <;> cases h5
  case ifCond =>
    dsimp only [stp] at hs
    split at hs <;> cases hs
  case if_icmp =>
    dsimp only [stp] at hs
    split at hs <;> cases hs
  case tableswitch =>
    dsimp only [stp] at hs
    split at hs <;> cases hs
  case ireturn =>
    dsimp only [stp] at hs
    split at hs <;> cases hs
  case lreturn =>
    dsimp only [stp] at hs
    split at hs <;> cases hs
  case areturn =>
    dsimp only [stp] at hs
    split at hs <;> cases hs
  case return_ =>
    dsimp only [stp] at hs
    split at hs <;> cases hs
  all_goals (cases hs)
end STEP
end
section
/-! A WHOLE RUN of the small machine is one of the machine -/
def rDec (M pc : Nat) (r : Option mV) : Prop := match r with
  | none => decode (bN M) pc = .ok (.return_, 1) ∧ rN M = none
  | some (.inl z) => decode (bN M) pc = .ok (.ireturn, 1) ∧ (rN M = some .int ∨ (rN M = some .boolean ∧ 0 ≤ z ∧ z ≤ 1))
  | some (.inr (.inl _)) => decode (bN M) pc = .ok (.lreturn, 1) ∧ rN M = some .long
  | some (.inr (.inr _)) => decode (bN M) pc = .ok (.areturn, 1) ∧ ∃ n, rN M = some (.object n)
section SOUND
variable {p : Program} {l : Launch} {e : Env} {R : Room} {s : State} {m : MethodId} {args : Array Value} {below : List Frame} {meth : Method} {c : Code} {H : Heap} {locs : List Loc} {cells slots : Nat} {Q : State → Prop}
variable {D : va_G} {G : ClassId × ClassId × ClassId} {aO aA : Nat → Nat} {A : Nat → Prop} {b Ls : Nat} {xs : Nat → Int32}
set_option maxHeartbeats 4000000 in
theorem branch_ok {M pc : Nat} {en : mE} {L L2 : mL} {S S2 : List mV} {h h2 : mH} {g k : Prop} {p1 p2 : Nat} {ls : Array Slot} (C : Cx p s m args c M D G aO aA A b Ls xs) (he : pg M pc = some en) (hs : stp en pc L S h = some (.inr (.inl (g, k, p1, p2, L2, S2, h2)))) (hg : g)
    (kt : k → L2 = L → h2 = h → W p l e R s m args below meth c H locs cells slots Q (F0 m p1 ls (S2.map (cvV aO aA)))) (kf : ¬ k → L2 = L → h2 = h → W p l e R s m args below meth c H locs cells slots Q (F0 m p2 ls (S2.map (cvV aO aA)))) :
    W p l e R s m args below meth c H locs cells slots Q (F0 m pc ls (S.map (cvV aO aA))) := by
  obtain ⟨hx, hb, -⟩ := C
  have hck := ck_at he
  have hd := ck_dec hck
  have ha := (Bool.and_eq_true_iff.mp (by unfold ck at hck; exact hck)).2
  obtain ⟨i, x, y, z⟩ := en
  cases i
  case ifCond cnd off =>
    have ht : (pc : Int) + off = (x : Int) := of_decide_eq_true ha
    dsimp only [stp] at hs
    split at hs
    next v T =>
      cases hs
      have kt := fun q => kt q rfl rfl
      have kf := fun q => kf q rfl rfl
      cases cnd
      · exact lv_if_eq hx hb hd ht (fun q => kt ((jI_eq hg inR0).mp q)) (fun q => kf (fun w => q ((jI_eq hg inR0).mpr w)))
      · exact lv_if_ne hx hb hd ht (fun q => kt (fun w => q ((jI_eq hg inR0).mpr w))) (fun q => kf (fun w => w ((jI_eq hg inR0).mp q)))
      · exact lv_if_lt hx hb hd ht (fun q => kt ((jI_lt hg inR0).mp q)) (fun q => kf (fun w => q ((jI_lt hg inR0).mpr w)))
      · exact lv_if_ge hx hb hd ht (fun q => kt ((jI_le inR0 hg).mp q)) (fun q => kf (fun w => q ((jI_le inR0 hg).mpr w)))
      · exact lv_if_gt hx hb hd ht (fun q => kt ((jI_lt inR0 hg).mp q)) (fun q => kf (fun w => q ((jI_lt inR0 hg).mpr w)))
      · exact lv_if_le hx hb hd ht (fun q => kt ((jI_le hg inR0).mp q)) (fun q => kf (fun w => q ((jI_le hg inR0).mpr w)))
    next => cases hs
  case if_icmp cnd off =>
    have ht : (pc : Int) + off = (x : Int) := of_decide_eq_true ha
    dsimp only [stp] at hs
    split at hs
    next v w T =>
      cases hs
      have kt := fun q => kt q rfl rfl
      have kf := fun q => kf q rfl rfl
      obtain ⟨h1, h2⟩ := hg
      cases cnd
      · exact lv_icmp_eq hx hb hd ht (fun q => kt ((jI_eq h1 h2).mp q)) (fun q => kf (fun w => q ((jI_eq h1 h2).mpr w)))
      · exact lv_icmp_ne hx hb hd ht (fun q => kt (fun w => q ((jI_eq h1 h2).mpr w))) (fun q => kf (fun w => w ((jI_eq h1 h2).mp q)))
      · exact lv_icmp_lt hx hb hd ht (fun q => kt ((jI_lt h1 h2).mp q)) (fun q => kf (fun w => q ((jI_lt h1 h2).mpr w)))
      · exact lv_icmp_ge hx hb hd ht (fun q => kt ((jI_le h2 h1).mp q)) (fun q => kf (fun w => q ((jI_le h2 h1).mpr w)))
      · exact lv_icmp_gt hx hb hd ht (fun q => kt ((jI_lt h2 h1).mp q)) (fun q => kf (fun w => q ((jI_lt h2 h1).mpr w)))
      · exact lv_icmp_le hx hb hd ht (fun q => kt ((jI_le h1 h2).mp q)) (fun q => kf (fun w => q ((jI_le h1 h2).mpr w)))
    next => cases hs
  case tableswitch dd lo hi offs =>
    obtain ⟨t1, t2, t3⟩ := of_decide_eq_true ha
    dsimp only [stp] at hs
    split at hs
    next v T =>
      cases hs
      have kt := fun q => kt q rfl rfl
      have kf := fun q => kf q rfl rfl
      obtain ⟨h1, h2, h3⟩ := hg
      rcases Classical.em (v < lo ∨ hi < v) with q | q
      · exact lv_tableOut hx hb hd (by rw [jI_in h1]; exact q) t1 (kt q)
      · have hlt : (v - lo).toNat < offs.size := by omega
        have hget : offs[(v - lo).toNat]? = some offs[(v - lo).toNat] := Array.getElem?_eq_getElem hlt
        have hmem : offs[(v - lo).toNat] ∈ offs.toList := by rw [Array.mem_toList_iff]; exact Array.getElem_mem hlt
        have hD : offs.toList.getD (v - lo).toNat 0 = offs[(v - lo).toNat] := by
          rw [List.getD_eq_getElem?_getD, Array.getElem?_toList, hget]; rfl
        have hnn := t3 _ hmem
        have kf := kf q
        rw [hD] at kf
        exact lv_tableIn hx hb hd (by rw [jI_in h1]; omega) (by rw [jI_in h1]; omega) (off := offs[(v - lo).toNat]) (by rw [jI_in h1]; exact hget) (tgt := ((pc : Int) + offs[(v - lo).toNat]).toNat) (by omega) kf
    next => cases hs
  case getfield =>
    dsimp only [stp] at hs
    split at hs
    · unfold mGet at hs
      split at hs <;> cases hs
    · cases hs
  case putfield =>
    dsimp only [stp] at hs
    split at hs
    · unfold mPutf at hs
      split at hs <;> cases hs
    · cases hs
  case invokevirtual =>
    obtain ⟨_, _, _, _, _, h5⟩ := mCall_out hs
    rcases h5 with ⟨_, _, h5⟩ | ⟨_, _, _, _, _, h5⟩ <;> cases h5
  case invokestatic =>
    dsimp only [stp] at hs
    split at hs
    · split at hs <;> cases hs
    · split at hs <;> cases hs
    · split at hs <;> cases hs
    · obtain ⟨_, _, _, _, _, h5⟩ := mCall_out hs
      rcases h5 with ⟨_, _, h5⟩ | ⟨_, _, _, _, _, h5⟩ <;> cases h5
  all_goals first
    | (rcases mLoad_out hs with ⟨z, hk, hz, hr⟩ | ⟨z, hk, hz, hr⟩ | ⟨z, hk, hz, hr⟩ | ⟨z, hk, hz, hr⟩ <;> cases hr; done)
    | (rcases mStore_out hs with ⟨z, T, rfl, hk, hi, hr⟩ | ⟨z, T, rfl, hk, hi, hr⟩ | ⟨z, T, rfl, hk, hi, hr⟩ | ⟨z, T, rfl, hk, hi, hr⟩ <;> cases hr; done)
    | (cases hs; done)
    | (dsimp only [stp] at hs; split at hs <;> cases hs; done)
set_option maxHeartbeats 4000000 in
theorem end_ok {M pc : Nat} {en : mE} {L : mL} {S : List mV} {h h2 : mH} {g : Option Prop} {v : Option mV} (he : pg M pc = some en) (hs : stp en pc L S h = some (.inr (.inr (.inr (g, v, h2))))) (hg : gd g True) : h2 = h ∧ S = mPush v [] ∧ rDec M pc v := by
  have hck := ck_at he
  have hd := ck_dec hck
  have ha := (Bool.and_eq_true_iff.mp (by unfold ck at hck; exact hck)).2
  obtain ⟨i, x, y, z⟩ := en
  cases i
  case ireturn =>
    dsimp only [stp] at hs
    dsimp only at ha
    split at hs
    next x2 =>
      cases hs
      rw [if_pos rfl] at ha
      exact ⟨rfl, rfl, hd, Or.inl (of_decide_eq_true ha)⟩
    next x2 hz =>
      cases hs
      rw [if_neg hz] at ha
      exact ⟨rfl, rfl, hd, Or.inr ⟨of_decide_eq_true ha, hg.1⟩⟩
    next => cases hs
  case lreturn =>
    dsimp only [stp] at hs
    split at hs
    · cases hs
      exact ⟨rfl, rfl, hd, of_decide_eq_true ha⟩
    · cases hs
  case areturn =>
    dsimp only [stp] at hs
    dsimp only at ha
    split at hs
    · cases hs
      refine ⟨rfl, rfl, hd, ?_⟩
      split at ha
      next n hn => exact ⟨n, hn⟩
      next => cases ha
    · cases hs
  case return_ =>
    dsimp only [stp] at hs
    split at hs
    · cases hs
      exact ⟨rfl, rfl, hd, of_decide_eq_true ha⟩
    · cases hs
  case getfield =>
    dsimp only [stp] at hs
    split at hs
    · unfold mGet at hs
      split at hs <;> cases hs
    · cases hs
  case putfield =>
    dsimp only [stp] at hs
    split at hs
    · unfold mPutf at hs
      split at hs <;> cases hs
    · cases hs
  case invokevirtual =>
    obtain ⟨_, _, _, _, _, h5⟩ := mCall_out hs
    rcases h5 with ⟨_, _, h5⟩ | ⟨_, _, _, _, _, h5⟩ <;> cases h5
  case invokestatic =>
    dsimp only [stp] at hs
    split at hs
    · split at hs <;> cases hs
    · split at hs <;> cases hs
    · split at hs <;> cases hs
    · obtain ⟨_, _, _, _, _, h5⟩ := mCall_out hs
      rcases h5 with ⟨_, _, h5⟩ | ⟨_, _, _, _, _, h5⟩ <;> cases h5
  all_goals first
    | (rcases mLoad_out hs with ⟨z, hk, hz, hr⟩ | ⟨z, hk, hz, hr⟩ | ⟨z, hk, hz, hr⟩ | ⟨z, hk, hz, hr⟩ <;> cases hr; done)
    | (rcases mStore_out hs with ⟨z, T, rfl, hk, hi, hr⟩ | ⟨z, T, rfl, hk, hi, hr⟩ | ⟨z, T, rfl, hk, hi, hr⟩ | ⟨z, T, rfl, hk, hi, hr⟩ <;> cases hr; done)
    | (cases hs; done)
    | (dsimp only [stp] at hs; split at hs <;> cases hs; done)
def sW (k : Nat) : List Cond := Cond.code (yN k) (bN k) (mW k) (rN k) :: lw_good
def sR (d : Nat) : Room := { frames := d + 1, cells := 0, slots := 0, locals := 40 * (d + 1) }
def sB (D : va_G) (G : ClassId × ClassId × ClassId) (aO aA : Nat → Nat) (A : Nat → Prop) (b Ls : Nat) (xs : Nat → Int32) (h : mH) (U : State) : Prop := va_P D vwCl (wW aO aA G h) U.heap ∧ va_K D vwCl (wT G) U ∧ (∀ q ∈ kN, va_Nw (.methodLinkNest (cN q.1) q.2.1 (yN q.2.2.1) "DesignTurns") U) ∧ va_X b Ls xs U U.heap ∧ (∀ q, U.heap.size ≤ q → A q)
def sQ (D : va_G) (G : ClassId × ClassId × ClassId) (aO aA : Nat → Nat) (A : Nat → Prop) (b Ls : Nat) (xs : Nat → Int32) (r : Option mV) (t : mH) : Array Value → State → Outcome → State → Prop := fun _ st oc u => (oc = .returned (r.map (cvV aO aA)) ∧ va_P D vwCl (wW aO aA G t) u.heap ∧ hScr b Ls xs t) ∧ va_F A st u
theorem callX {v : Option Value} {B : State → Prop} {H0 : Heap} {pc : Nat} {ls : Array Slot} {rest st0 : List Value} (hr : va_Run p l e R s m args below meth c H locs cells slots 0 0 (F0 m pc ls st0) rest (fun st oc u => (oc = .returned v ∧ B u) ∧ va_F A st u) A) (hS : va_S A H0 H locs)
    (kk : ∀ (t : State) (H1 : Heap) (locs1 : List Loc), t.heap = H1 → B t → va_S A H0 H1 locs1 → W p l e R s m args below meth c H1 locs1 cells slots Q (F0 m (pc + 3) ls (v.toList ++ rest))) : W p l e R s m args below meth c H locs cells slots Q (F0 m pc ls st0) := by
  intro T hT X
  obtain ⟨v2, st₀, t, T', L, h0, X', hL, e1, e2, ⟨⟨hv, hb⟩, hz, hk⟩, st⟩ := hr T hT X
  cases hv
  rw [h0] at hz hk
  obtain ⟨t2, a1, b1⟩ := kk t T'.heap (locs ++ L) e1.symm hb
    ⟨Nat.le_trans hS.1 (by rw [e1]; exact hz), fun q h1 h2 => by rw [e1, hk q (Nat.lt_of_lt_of_le h1 hS.1) h2]; exact hS.2.1 q h1 h2, fun q hq => by
      rcases List.mem_append.mp hq with h | h
      · exact hS.2.2 q h
      · exact hL q h⟩ T' rfl X'
  exact ⟨t2, st t2 a1, b1⟩
/-- what a run at n gives of the machine, at each place -/
def sOk (l : Launch) (D : va_G) (G : ClassId × ClassId × ClassId) (aO aA : Nat → Nat) (A : Nat → Prop) (b Ls : Nat) (xs : Nat → Int32) (n : Nat) : Prop := ∀ (d M : Nat) (cf : mC) (r : Option mV) (t : mH), run n d M cf r t →
  ∀ (p : Program) (e : Env) (R : Room) (s : State) (m : MethodId) (args : Array Value) (below : List Frame) (meth : Method) (c : Code) (H : Heap) (locs : List Loc) (cells slots : Nat) (Q : State → Prop) (ls : Array Slot),
  Cx p s m args c M D G aO aA A b Ls xs → (d + 1 ≤ R.frames ∧ 40 * (d + 1) ≤ R.locals ∧ cells ≤ R.cells ∧ slots ≤ R.slots) → HL (cvV aO aA) ls cf.2.1 → cf.2.1.length = mW M → va_P D vwCl (wW aO aA G cf.2.2.2) H → va_S A s.heap H locs → hScr b Ls xs cf.2.2.2 →
  (∀ (pc2 : Nat) (ls2 : Array Slot) (H2 : Heap) (locs2 : List Loc), rDec M pc2 r → va_P D vwCl (wW aO aA G t) H2 → va_S A s.heap H2 locs2 → hScr b Ls xs t → W p l e R s m args below meth c H2 locs2 cells slots Q (F0 m pc2 ls2 ((mPush r []).map (cvV aO aA)))) →
  W p l e R s m args below meth c H locs cells slots Q (F0 m cf.1 ls (cf.2.2.1.map (cvV aO aA)))
set_option maxHeartbeats 4000000 in
theorem met_ok {n d k : Nat} {a : List mV} {h t : mH} {r : Option mV} (ih : sOk l D G aO aA A b Ls xs n) (hk : k < 133) (hk2 : 2 ≤ k) (ha : (mFlat a).length ≤ mW k) (hr : run n d k (0, mIn k a, [], h) r t) (hDd : wDd A aO aA) (hbA : ¬ A b) (hb9 : aA 999 = b) (hLs : Ls < 2147483648) (hc : hScr b Ls xs h) :
    Met l (yN k) (sW k) (sR d) (va_Pc (a.map (cvV aO aA)) (fun U => sB D G aO aA A b Ls xs h U ∧ b < U.heap.size)) (sQ D G aO aA A b Ls xs r t) 0 0 A := by
  refine Met.ofW (cc := bN k) (maxL := mW k) (ret := rN k) (ws' := lw_good) (kM_name3 k hk hk2) rfl ?_
  intro p e s m args below meth c s₁ B hml hv
  obtain ⟨rfl, ⟨hP, hK, hN, hX, hA⟩, hbl⟩ := hv
  have hts := atoms_spec (ws := sW k) B.pre
  have hown : s.vm.findClass (yN k).cls = some m.cls := findClass_of_methodNamed B.named
  rw [kM_name k hk] at hown
  rw [lg_entry_eq]
  have hlocks := B.notSynchronized
  have hret := B.returns
  have hx := B.exec
  have hb := B.bytes
  refine ih d k (0, mIn k a, [], h) r t hr p e (sR d) s m _ below meth c s.heap [] 0 0 _ _ ⟨hx, hb, hml, hown, fun w hw => hts w (List.mem_cons_of_mem _ hw), hN, hK, hDd, hA, hX, hbl, hbA, hb9, hLs⟩ ⟨Nat.le_refl _, Nat.le_refl _, Nat.le_refl _, Nat.le_refl _⟩ (HL.entry aO aA ha) (mPad_len _ _ ha) hP va_S.rf hc ?_
  intro pc2 ls2 H2 locs2 hdec hP2 hS2 hct
  rcases r with _ | z | z | z | z
  · exact W.vret hx hb (hret.trans hdec.2) (fun t ht hW => ⟨⟨rfl, by rw [ht]; exact hP2, hct⟩, hS2.F ht⟩) hS2.2.2 hdec.1 hlocks
  · rcases hdec.2 with q | ⟨q, q0, q1⟩
    · exact W.iret hx hb (hret.trans q) (fun t ht hW => ⟨⟨rfl, by rw [ht]; exact hP2, hct⟩, hS2.F ht⟩) hS2.2.2 hdec.1 hlocks
    · exact W.zret hx hb (hret.trans q) (jI_nbool q0 q1) (fun t ht hW => ⟨⟨rfl, by rw [ht]; exact hP2, hct⟩, hS2.F ht⟩) hS2.2.2 hdec.1 hlocks
  · exact W.lret hx hb (hret.trans hdec.2) (fun t ht hW => ⟨⟨rfl, by rw [ht]; exact hP2, hct⟩, hS2.F ht⟩) hS2.2.2 hdec.1 hlocks
  · obtain ⟨nm, q⟩ := hdec.2
    exact W.aret hx hb (hret.trans q) (Or.inl ⟨nm, rfl⟩) (Or.inr ⟨_, rfl⟩) (fun t ht hW => ⟨⟨rfl, by rw [ht]; exact hP2, hct⟩, hS2.F ht⟩) hS2.2.2 hdec.1 hlocks
  · obtain ⟨nm, q⟩ := hdec.2
    exact W.aret hx hb (hret.trans q) (Or.inl ⟨nm, rfl⟩) (Or.inr ⟨_, rfl⟩) (fun t ht hW => ⟨⟨rfl, by rw [ht]; exact hP2, hct⟩, hS2.F ht⟩) hS2.2.2 hdec.1 hlocks
theorem gi_of {X : List Cond} (h : ∀ w ∈ X, w ∈ lw_good) : GoodIn lw_good X := fun w hw => ⟨h w hw, good_of_word (List.mem_filter.mp (h w hw)).2⟩
theorem sW_good {k : Nat} (hk : k < 133) : ∀ w ∈ sW k, w ∈ lw_good := by
  intro w hw
  rcases List.mem_cons.mp hw with rfl | hw
  · exact kM_codeW hk
  · exact hw
theorem run_call {M pc : Nat} {en : mE} {L L2 : mL} {S S2 : List mV} {h h2 : mH} {g : Option Prop} {k pc2 : Nat} {a : List mV} (he : pg M pc = some en) (hs : stp en pc L S h = some (.inr (.inr (.inl (g, k, a, pc2, L2, S2, h2))))) (hg : gd g True) :
    pc2 = pc + 3 ∧ L2 = L ∧ h2 = h ∧ S = a.reverse ++ S2 ∧ mCat S2 ≤ 8 ∧ (mFlat a).length ≤ mW k ∧ a.length = mA k ∧
    ((∃ i q o as, en.1 = .invokevirtual i ∧ decode (bN M) pc = .ok (.invokevirtual i, 3) ∧ q ∈ kV ∧ q.1 = mK M ∧ q.2.1 = i ∧ q.2.2.1 = k ∧ a = vO o :: as ∧ cO o = mK k) ∨
     (∃ i q, en.1 = .invokestatic i ∧ decode (bN M) pc = .ok (.invokestatic i, 3) ∧ (q ∈ kS ∨ q ∈ kN) ∧ q.1 = mK M ∧ q.2.1 = i ∧ q.2.2.1 = k)) := by
  have hck := ck_at he
  have hd := ck_dec hck
  have ha := (Bool.and_eq_true_iff.mp (by unfold ck at hck; exact hck)).2
  obtain ⟨i, x, y, z⟩ := en
  cases i
  case getfield =>
    dsimp only [stp] at hs
    split at hs
    · unfold mGet at hs
      split at hs <;> cases hs
    · cases hs
  case putfield =>
    dsimp only [stp] at hs
    split at hs
    · unfold mPutf at hs
      split at hs <;> cases hs
    · cases hs
  case invokevirtual i =>
    obtain ⟨q, hq, hq2⟩ := List.any_eq_true.mp ha
    obtain ⟨q1, q2, q3⟩ := of_decide_eq_true hq2
    obtain ⟨a2, rest, ht, h1, h2, h5⟩ := mCall_out hs
    obtain ⟨t1, t2⟩ := mTake_all ht
    rcases h5 with ⟨hf, _, h5⟩ | ⟨_, _, o, as, rfl, h5⟩
    · cases hf
    · cases h5
      exact ⟨rfl, rfl, rfl, t1, h1, h2, t2, Or.inl ⟨i, q, o, as, rfl, hd, hq, q1, q2, q3, rfl, hg.1⟩⟩
  case invokestatic i =>
    dsimp only [stp] at hs
    split at hs
    · split at hs <;> cases hs
    · split at hs <;> cases hs
    · split at hs <;> cases hs
    next n1 n2 n3 =>
      dsimp only at ha
      rw [if_neg n1, if_neg (by rintro (w | w); exact n2 w; exact n3 w)] at ha
      obtain ⟨a2, rest, ht, h1, h2, h5⟩ := mCall_out hs
      obtain ⟨t1, t2⟩ := mTake_all ht
      have hq : ∃ q, (q ∈ kS ∨ q ∈ kN) ∧ q.1 = mK M ∧ q.2.1 = i ∧ q.2.2.1 = x := by
        rcases Bool.or_eq_true_iff.mp ha with w | w
        · obtain ⟨q, hq, hq2⟩ := List.any_eq_true.mp w
          exact ⟨q, Or.inl hq, of_decide_eq_true hq2⟩
        · obtain ⟨q, hq, hq2⟩ := List.any_eq_true.mp w
          exact ⟨q, Or.inr hq, of_decide_eq_true hq2⟩
      obtain ⟨q, hq, q1, q2, q3⟩ := hq
      rcases h5 with ⟨_, _, h5⟩ | ⟨hf, _⟩
      · cases h5
        exact ⟨rfl, rfl, rfl, t1, h1, h2, t2, Or.inr ⟨i, q, rfl, hd, hq, q1, q2, q3⟩⟩
      · cases hf
  all_goals first
    | (rcases mLoad_out hs with ⟨z, hk, hz, hr⟩ | ⟨z, hk, hz, hr⟩ | ⟨z, hk, hz, hr⟩ | ⟨z, hk, hz, hr⟩ <;> cases hr; done)
    | (rcases mStore_out hs with ⟨z, T, rfl, hk, hi, hr⟩ | ⟨z, T, rfl, hk, hi, hr⟩ | ⟨z, T, rfl, hk, hi, hr⟩ | ⟨z, T, rfl, hk, hi, hr⟩ <;> cases hr; done)
    | (cases hs; done)
    | (dsimp only [stp] at hs; split at hs <;> cases hs; done)
set_option maxHeartbeats 4000000 in
theorem sound : ∀ n, sOk l D G aO aA A b Ls xs n := by
  intro n
  induction n with
  | zero => intro d M cf r t hr; exact hr.elim
  | succ n ih =>
    intro d M cf r t hr p e R s m args below meth c H locs cells slots Q ls C hR hl hn hP hS hc fin
    unfold run at hr
    split at hr
    next => exact hr.elim
    next en he =>
      split at hr
      next => exact hr.elim
      next g c2 hs =>
        obtain ⟨pc2, L2, S2, h2⟩ := c2
        exact step_ok C he hs (gd_imp hr (fun _ => trivial)) ⟨by omega, by omega, hR.2.2.1, hR.2.2.2⟩ hl hn hP hS hc (fun ls2 H2 locs2 hl2 hn2 hP2 hS2 hc2 => ih d M (pc2, L2, S2, h2) r t (gd_out hr) p e R s m args below meth c H2 locs2 cells slots Q ls2 C hR hl2 hn2 hP2 hS2 hc2 fin)
      next g k p1 p2 L2 S2 h2 hs =>
        refine branch_ok C he hs hr.1 (fun hk e1 e2 => ?_) (fun hk e1 e2 => ?_)
        · subst e1; subst e2
          rcases hr.2 with q | q
          · exact ih d M (p1, cf.2.1, S2, cf.2.2.2) r t q.2 p e R s m args below meth c H locs cells slots Q ls C hR hl hn hP hS hc fin
          · exact absurd hk q.1
        · subst e1; subst e2
          rcases hr.2 with q | q
          · exact absurd q.1 hk
          · exact ih d M (p2, cf.2.1, S2, cf.2.2.2) r t q.2 p e R s m args below meth c H locs cells slots Q ls C hR hl hn hP hS hc fin
      next g k a pc2 L2 S2 h2 hs =>
        have hg := gd_imp hr (fun _ => trivial)
        have hr2 := gd_out hr
        cases d with
        | zero => exact hr2.elim
        | succ d =>
          obtain ⟨r1, h1, hr1, hr3⟩ := hr2
          obtain ⟨e1, e2, e3, hS2, hcat, hfl, hal, hcall⟩ := run_call he hs hg
          subst e1; subst e2; subst e3
          obtain ⟨hx, hb, hml, hown, hts, hnest, hK, hDd, hA, hX, hbl, hbA, hb9, hLs⟩ := id C
          have hk : k < 133 ∧ 2 ≤ k := by
            rcases hcall with ⟨i, q, o, as, -, -, hq, -, -, e, -⟩ | ⟨i, q, -, -, hq, -, -, e⟩
            · have := kV_in q hq
              rw [e] at this
              exact ⟨this.1, this.2.1⟩
            · rcases hq with hq | hq
              · have := kS_in q hq
                rw [e] at this
                exact ⟨this.1, this.2.1⟩
              · have := kN_in q hq
                rw [e] at this
                exact ⟨this.1, this.2.1⟩
          obtain ⟨hk, hk2⟩ := hk
          have hM := met_ok (l := l) (D := D) (G := G) ih hk hk2 hfl hr1 hDd hbA hb9 hLs hc
          have hsB : ∀ U : State, U.heap = H → s.WarmedH U.vm → sB D G aO aA A b Ls xs cf.2.2.2 U ∧ b < U.heap.size := by
            intro U hU hW
            refine ⟨⟨by rw [hU]; exact hP, va_K.moved hW.alike hK, fun q hq => va_Nw.warmM hW (hnest q hq), ?_, ?_⟩, ?_⟩
            · rw [hU]
              exact va_X.moved hW.alike (hX.kept (hS.2.1 b hbl hbA))
            · intro q hq
              rw [hU] at hq
              exact hA q (Nat.le_trans hS.1 hq)
            · rw [hU]
              exact Nat.lt_of_lt_of_le hbl hS.1
          have hblind : FrameBlind (va_Pc (a.map (cvV aO aA)) (fun U => sB D G aO aA A b Ls xs cf.2.2.2 U ∧ b < U.heap.size)) := by
            intro a2 U g2 mk q
            obtain ⟨q1, ⟨q2, q3, q4, q5, q6⟩, q7⟩ := q
            exact ⟨q1, ⟨q2, va_K.moved (u := U) (U := U.calling g2 mk a2) (Vm.Alike.refl U.vm) q3, fun q hq => va_Nw.same rfl (u := U) rfl (q4 q hq), va_X.moved (u := U) (U := U.calling g2 mk a2) (Vm.Alike.refl U.vm) q5, q6⟩, q7⟩
          have hroom : (sR d).frames + 1 ≤ R.frames ∧ 8 + (mW k + 11) + (sR d).locals ≤ R.locals := by
            have hw := kM_loc k hk
            refine ⟨?_, ?_⟩
            · show d + 1 + 1 ≤ _; omega
            · show 8 + (mW k + 11) + 40 * (d + 1) ≤ _; omega
          have hargs := kM_arg k hk
          have hsz : ls.size = mW M := hl.1.trans hn
          have hW8 : 2 * (F0 m cf.1 ls (cf.2.2.1.map (cvV aO aA))).monitorRoom + ((S2.map (cvV aO aA)).map fun v => v.category).sum ≤ 8 := lv_room (by rw [cv_cats]; exact hcat)
          have hgo : ∀ (hrun : va_Run p l e R s m args below meth c H locs cells slots 0 0 (F0 m cf.1 ls (cf.2.2.1.map (cvV aO aA))) (S2.map (cvV aO aA)) (sQ D G aO aA A b Ls xs r1 h1 (a.map (cvV aO aA)).toArray) A), W p l e R s m args below meth c H locs cells slots Q (F0 m cf.1 ls (cf.2.2.1.map (cvV aO aA))) := by
            intro hrun
            refine callX hrun hS (fun t2 H1 locs1 ht hB hS1 => ?_)
            obtain ⟨hP1, hc1⟩ := hB
            rw [ht] at hP1
            have := ih (d + 1) M (cf.1 + 3, cf.2.1, mPush r1 S2, h1) r t hr3 p e R s m args below meth c H1 locs1 cells slots Q ls C hR hl hn hP1 hS1 hc1 fin
            have e : (r1.map (cvV aO aA)).toList ++ S2.map (cvV aO aA) = (mPush r1 S2).map (cvV aO aA) := by cases r1 <;> rfl
            rw [e]
            exact this
          rcases hcall with ⟨i, q, o, as, -, hd, hq, q1, q2, q3, rfl, hco⟩ | ⟨i, q, -, hd, hq, q1, q2, q3⟩
          · have hlk := kV_word hq
            have hst := (kV_in q hq).2.2
            rw [q1, q2, q3] at hlk
            rw [q3] at hst
            have hargs2 := hargs
            rw [if_neg (by rw [hst]; decide)] at hargs2
            have h10 := kM_cls k hk hst
            have ho := wI_obj o (cO_lt hco (by omega))
            rw [hco] at ho
            have hcw : CallW R s args (cN (mK M)) (cN (mK k)) i (yN k) (bN k) (mW k) (rN k) (sW k) (sR d) 0 0 (mA k - 1) := cwV (Ts := lw_good) (mA k - 1) hts (gi_of (by
              intro w hw
              rcases List.mem_append.mp hw with hw | hw
              · simp only [List.mem_cons, List.not_mem_nil, or_false] at hw
                rcases hw with rfl | rfl | rfl | rfl
                · exact hlk
                · exact kM_instW hk hst
                · exact kM_selW hk hst
                · rw [← kM_name k hk]; exact kM_initW hk
              · exact sW_good hk w hw)) rfl rfl rfl ⟨kM_name k hk, kM_name1 k hk, kM_name2 k hk, hargs2⟩ hroom
            exact hgo (va_runV (As := as.map (cvV aO aA)) (rest := S2.map (cvV aO aA)) (Ts := lw_good) ⟨hx, hb, hml, hown, hts⟩ hM hcw ⟨hblind, va_recv hK hP (kC_at (mK k) h10) (wW_at ho), fun U hU hW => ⟨rfl, hsB U hU hW⟩⟩ rfl (by simp at hal ⊢; omega) hsz (by show cf.2.2.1.map (cvV aO aA) = _; rw [hS2]; simp [cvV]) hW8 hd ⟨hR.2.2.1, hR.2.2.2⟩)
          · have hst : mS k = true := by
              rcases hq with hq | hq
              · have := (kS_in q hq).2.2
                rw [q3] at this
                exact this
              · have := (kN_in q hq).2.2
                rw [q3] at this
                exact this
            have hargs2 := hargs
            rw [if_pos hst] at hargs2
            have hpS : PreS s H (va_Pc (a.map (cvV aO aA)) (fun U => sB D G aO aA A b Ls xs cf.2.2.2 U ∧ b < U.heap.size)) (a.map (cvV aO aA)) := ⟨hblind, fun U hU hW => ⟨rfl, hsB U hU hW⟩⟩
            have hstk : (F0 m cf.1 ls (cf.2.2.1.map (cvV aO aA))).stack = (a.map (cvV aO aA)).reverse ++ S2.map (cvV aO aA) := by
              show cf.2.2.1.map (cvV aO aA) = _
              rw [hS2]
              simp
            rcases hq with hq | hq
            · have hlk := kS_word hq
              rw [q1, q2, q3] at hlk
              have hcw := va_cwS (R := R) (s := s) (args := args) (own := cN (mK M)) (index := i) (y := yN k) (bytes := bN k) (maxL := mW k) (ret := rN k) (rm := sR d) (ws := sW k) (mc := 0) (ms := 0) (Ts := lw_good) (mA k) hts (gi_of (by
                intro w hw
                rcases List.mem_append.mp hw with hw | hw
                · simp only [List.mem_cons, List.not_mem_nil, or_false] at hw
                  rcases hw with rfl | rfl | rfl
                  · exact hlk
                  · exact kM_statW hk hst
                  · exact kM_initW hk
                · exact sW_good hk w hw)) rfl rfl rfl ⟨kM_name1 k hk, kM_name2 k hk, hargs2⟩ hroom
              exact hgo (va_runS (As := a.map (cvV aO aA)) (rest := S2.map (cvV aO aA)) (Ts := lw_good) ⟨hx, hb, hml, hown, hts⟩ hM hcw hpS rfl (by simpa using hal) hsz hstk hW8 hd ⟨hR.2.2.1, hR.2.2.2⟩)
            · have hlk := hnest q hq
              rw [q1, q2, q3] at hlk
              have hcw := va_cnB (R := R) (s := s) (args := args) (own := cN (mK M)) (index := i) (y := yN k) (bytes := bN k) (maxL := mW k) (ret := rN k) (rm := sR d) (ws := sW k) (mc := 0) (ms := 0) (Ts := lw_good) (mA k) hts (gi_of (sW_good hk)) rfl rfl rfl hlk (hts _ (kM_initW hk)) ⟨kM_name1 k hk, kM_name2 k hk, hargs2⟩ hroom
              exact hgo (va_runSN (As := a.map (cvV aO aA)) (rest := S2.map (cvV aO aA)) (Ts := lw_good) ⟨hx, hb, hml, hown, hts⟩ hM ⟨hcw, hts _ (kM_statW hk hst), trivial⟩ hpS rfl (by simpa using hal) hsz hstk hW8 hd ⟨hR.2.2.1, hR.2.2.2⟩)
      next g v h2 hs =>
        have hg := gd_imp hr (fun _ => trivial)
        obtain ⟨rfl, rfl⟩ := gd_out hr
        obtain ⟨e1, e2, e3⟩ := end_ok he hs hg
        subst e1
        rw [e2]
        exact fin cf.1 ls H locs e3 hP hS hc
end SOUND
end
section
/-! FEWER LOCALS do no harm; segments up to given places -/
def Lle (L L2 : mL) : Prop := L.length = L2.length ∧ ∀ (i : Nat) (v : mV), mNth L i = some (some v) → mNth L2 i = some (some v)
theorem mLt_of {α : Type} : ∀ (l : List α) (i : Nat), i < l.length → mLt l i = true
  | [], i, h => by simp at h
  | a :: l, 0, _ => rfl
  | a :: l, i + 1, h => by
    have := mLt_of l i (by simpa using h)
    simpa [mLt] using this
theorem mCut_put {L : mL} {i j : Nat} {w : mV} (h : mNth L j = some (some w)) (h2 : ¬ (j + 1 = i ∧ m2 w = true)) : mNth (mCut L i) j = some (some w) := by
  cases i with
  | zero => exact h
  | succ i =>
    simp only [mCut]
    split
    next z hz =>
      by_cases e : j = i
      · subst e
        rw [h] at hz
        cases hz
        exact absurd ⟨rfl, rfl⟩ h2
      · rw [mSet_ne _ e]
        exact h
    next => exact h
theorem mPut_2 {L : mL} {i : Nat} {z : Int} : mPut L i (vL z) = mSet (mSet (mCut L i) i (some (vL z))) (i + 1) none := rfl
theorem Lle.put {L L2 : mL} (h : Lle L L2) {i : Nat} {v : mV} (hi : i < L.length) : Lle (mPut L i v) (mPut L2 i v) := by
  have hi2 : i < L2.length := by rw [← h.1]; exact hi
  cases hv : m2 v with
  | false =>
    rw [mPut_1 hv, mPut_1 hv]
    refine ⟨by rw [mSet_len, mSet_len, mCut_len, mCut_len]; exact h.1, fun j w hw => ?_⟩
    by_cases e : j = i
    · subst e
      rw [mSet_eq _ (by rw [mCut_len]; exact hi)] at hw
      rw [mSet_eq _ (by rw [mCut_len]; exact hi2)]
      exact hw
    · rw [mSet_ne _ e] at hw ⊢
      obtain ⟨h1, h2⟩ := mCut_get hw
      exact mCut_put (h.2 _ _ h1) h2
  | true =>
    obtain ⟨z, rfl⟩ : ∃ z, v = vL z := by
      rcases v with z | z | z | z
      · cases hv
      · exact ⟨z, rfl⟩
      · cases hv
      · cases hv
    rw [mPut_2, mPut_2]
    refine ⟨by rw [mSet_len, mSet_len, mSet_len, mSet_len, mCut_len, mCut_len]; exact h.1, fun j w hw => ?_⟩
    by_cases e2 : j = i + 1
    · subst e2
      have hl := mNth_lt hw
      rw [mSet_len] at hl
      rw [mSet_eq _ hl] at hw
      cases hw
    rw [mSet_ne _ e2] at hw ⊢
    by_cases e : j = i
    · subst e
      rw [mSet_eq _ (by rw [mCut_len]; exact hi)] at hw
      rw [mSet_eq _ (by rw [mCut_len]; exact hi2)]
      exact hw
    · rw [mSet_ne _ e] at hw ⊢
      obtain ⟨h1, h2⟩ := mCut_get hw
      exact mCut_put (h.2 _ _ h1) h2
abbrev mRr : Type := (Option Prop × mC) ⊕ (Prop × Prop × Nat × Nat × mL × List mV × mH) ⊕ (Option Prop × Nat × List mV × Nat × mL × List mV × mH) ⊕ (Option Prop × Option mV × mH)
def Rle (r r2 : mRr) : Prop := match r, r2 with
  | .inl (g, pc, L, S, h), .inl (g2, pc2, L2, S2, h2) => g = g2 ∧ pc = pc2 ∧ S = S2 ∧ h = h2 ∧ Lle L L2
  | .inr (.inl (g, k, p, q, L, S, h)), .inr (.inl (g2, k2, p2, q2, L2, S2, h2)) => g = g2 ∧ k = k2 ∧ p = p2 ∧ q = q2 ∧ S = S2 ∧ h = h2 ∧ Lle L L2
  | .inr (.inr (.inl (g, k, a, pc, L, S, h))), .inr (.inr (.inl (g2, k2, a2, pc2, L2, S2, h2))) => g = g2 ∧ k = k2 ∧ a = a2 ∧ pc = pc2 ∧ S = S2 ∧ h = h2 ∧ Lle L L2
  | .inr (.inr (.inr x)), .inr (.inr (.inr y)) => x = y
  | _, _ => False
theorem mkS {X : mR} {g : Option Prop} {pc : Nat} {L L2 : mL} {S : List mV} {h : mH} (hL : Lle L L2) (e : X = some (.inl (g, pc, L2, S, h))) : ∃ r2, X = some r2 ∧ Rle (.inl (g, pc, L, S, h)) r2 := ⟨_, e, rfl, rfl, rfl, rfl, hL⟩
theorem mkB {X : mR} {g k : Prop} {p q : Nat} {L L2 : mL} {S : List mV} {h : mH} (hL : Lle L L2) (e : X = some (.inr (.inl (g, k, p, q, L2, S, h)))) : ∃ r2, X = some r2 ∧ Rle (.inr (.inl (g, k, p, q, L, S, h))) r2 := ⟨_, e, rfl, rfl, rfl, rfl, rfl, rfl, hL⟩
theorem mkC {X : mR} {g : Option Prop} {k pc : Nat} {a : List mV} {L L2 : mL} {S : List mV} {h : mH} (hL : Lle L L2) (e : X = some (.inr (.inr (.inl (g, k, a, pc, L2, S, h))))) : ∃ r2, X = some r2 ∧ Rle (.inr (.inr (.inl (g, k, a, pc, L, S, h)))) r2 := ⟨_, e, rfl, rfl, rfl, rfl, rfl, rfl, hL⟩
theorem mkE {X : mR} {x : Option Prop × Option mV × mH} (e : X = some (.inr (.inr (.inr x)))) : ∃ r2, X = some r2 ∧ Rle (.inr (.inr (.inr x))) r2 := ⟨_, e, rfl⟩
theorem mCall_weak {pc : Nat} {L L2 : mL} {S : List mV} {h : mH} {m : Nat} {st : Bool} {r : mRr} (hL : Lle L L2) (hs : mCall pc L S h m st = some r) : ∃ r2, mCall pc L2 S h m st = some r2 ∧ Rle r r2 := by
  obtain ⟨args, rest, ht, h1, h2, h5⟩ := mCall_out hs
  rcases h5 with ⟨rfl, hm, rfl⟩ | ⟨rfl, hm, o, as, rfl, rfl⟩
  · refine mkC hL ?_
    unfold mCall
    rw [ht]
    dsimp only
    rw [Nat.ble_eq_true_of_le h1, Nat.ble_eq_true_of_le h2]
    dsimp only
    rw [hm]
  · refine mkC hL ?_
    unfold mCall
    rw [ht]
    dsimp only
    rw [Nat.ble_eq_true_of_le h1, Nat.ble_eq_true_of_le h2]
    dsimp only
    rw [hm]
set_option maxHeartbeats 4000000 in
theorem stp_weak {e : mE} {pc : Nat} {L L2 : mL} {S : List mV} {h : mH} {r : mRr} (hL : Lle L L2) (hs : stp e pc L S h = some r) : ∃ r2, stp e pc L2 S h = some r2 ∧ Rle r r2 := by
  obtain ⟨i, x, y, z⟩ := e
  have ld : ∀ (pc i k : Nat), mLoad pc L S h i k = some r → ∃ r2, mLoad pc L2 S h i k = some r2 ∧ Rle r r2 := by
    intro pc i k q
    rcases mLoad_out q with ⟨z, rfl, hz, rfl⟩ | ⟨z, rfl, hz, rfl⟩ | ⟨z, rfl, hz, rfl⟩ | ⟨z, rfl, hz, rfl⟩ <;> exact mkS hL (by simp only [mLoad, hL.2 _ _ hz])
  have st : ∀ (pc i k : Nat), mStore pc L S h i k = some r → ∃ r2, mStore pc L2 S h i k = some r2 ∧ Rle r r2 := by
    intro pc i k q
    rcases mStore_out q with ⟨z, T, rfl, rfl, hi, rfl⟩ | ⟨z, T, rfl, rfl, hi, rfl⟩ | ⟨z, T, rfl, rfl, hi, rfl⟩ | ⟨z, T, rfl, rfl, hi, rfl⟩
    · exact mkS (hL.put hi) (by unfold mStore; rw [mLt_of L2 i (by rw [← hL.1]; exact hi)]; cases mLt L2 (i + 1) <;> rfl)
    · exact mkS (hL.put (by omega)) (by unfold mStore; rw [mLt_of L2 (i + 1) (by rw [← hL.1]; exact hi)]; cases mLt L2 i <;> rfl)
    · exact mkS (hL.put hi) (by unfold mStore; rw [mLt_of L2 i (by rw [← hL.1]; exact hi)]; cases mLt L2 (i + 1) <;> rfl)
    · exact mkS (hL.put hi) (by unfold mStore; rw [mLt_of L2 i (by rw [← hL.1]; exact hi)]; cases mLt L2 (i + 1) <;> rfl)
  cases i
  case iinc i n =>
    dsimp only [stp] at hs
    split at hs
    next v h1 h2 =>
      cases hs
      exact mkS (hL.put (mLt_lt _ _ h2)) (by simp only [stp, hL.2 _ _ h1, mLt_of L2 i (by rw [← hL.1]; exact mLt_lt _ _ h2)])
    next => cases hs
  case invokevirtual i => exact mCall_weak hL hs
  case invokestatic i =>
    dsimp only [stp] at hs
    split at hs
    next =>
      split at hs
      · cases hs
        exact mkS hL rfl
      · cases hs
    next =>
      split at hs
      · cases hs
        exact mkS hL rfl
      · cases hs
    next =>
      split at hs
      · cases hs
        exact mkS hL rfl
      · cases hs
    next n1 n2 n3 =>
      dsimp only [stp]
      split
      next => exact absurd rfl n1
      next => exact absurd rfl n2
      next => exact absurd rfl n3
      next => exact mCall_weak hL hs
  case getfield =>
    dsimp only [stp] at hs
    split at hs
    · unfold mGet at hs
      split at hs
      next q => cases hs; exact mkS hL (by simp only [stp, mGet, q])
      next q => cases hs; exact mkS hL (by simp only [stp, mGet, q])
      next q => cases hs; exact mkS hL (by simp only [stp, mGet, q])
      next k0 k1 k2 =>
        cases hs
        refine mkS hL ?_
        dsimp only [stp]
        unfold mGet
        split
        next q => exact absurd q k0
        next q => exact absurd q k1
        next q => exact absurd q k2
        next => rfl
    · cases hs
  case putfield =>
    dsimp only [stp] at hs
    split at hs
    · unfold mPutf at hs
      split at hs
      next q => cases hs; exact mkS hL (by simp only [stp, mPutf, q])
      next q => cases hs; exact mkS hL (by simp only [stp, mPutf, q])
      · cases hs
    · cases hs
  case ireturn =>
    dsimp only [stp] at hs
    split at hs
    next => cases hs; exact mkE rfl
    next q => cases hs; exact mkE (by simp only [stp])
    next => cases hs
  all_goals first
    | exact ld _ _ _ hs
    | exact st _ _ _ hs
    | (cases hs; exact mkS hL rfl)
    | (dsimp only [stp] at hs; split at hs <;> first | (cases hs; exact mkS hL rfl) | (cases hs; exact mkB hL rfl) | (cases hs; exact mkE rfl) | (cases hs; done))
    | (cases hs; done)
theorem run_weak : ∀ (n d m pc : Nat) (L L2 : mL) (S : List mV) (h : mH) (r : Option mV) (t : mH), Lle L L2 → run n d m (pc, L, S, h) r t → run n d m (pc, L2, S, h) r t := by
  intro n
  induction n with
  | zero => intro d m pc L L2 S h r t hL k; exact k.elim
  | succ n ih =>
    intro d m pc L L2 S h r t hL k
    unfold run at k ⊢
    dsimp only at k ⊢
    cases he : pg m pc with
    | none =>
      rw [he] at k
      exact k.elim
    | some e =>
      rw [he] at k
      dsimp only at k ⊢
      cases hs : stp e pc L S h with
      | none =>
        rw [hs] at k
        exact k.elim
      | some r1 =>
        obtain ⟨r2, hs2, hr⟩ := stp_weak hL hs
        rw [hs] at k
        rw [hs2]
        rcases r1 with ⟨g, pc1, L1, S1, h1⟩ | ⟨g, kk, p, q, L1, S1, h1⟩ | ⟨g, kk, a, pc1, L1, S1, h1⟩ | ⟨g, v, h1⟩ <;> rcases r2 with ⟨g2, pc2, L2', S2, h2⟩ | ⟨g2, k2, p2, q2, L2', S2, h2⟩ | ⟨g2, k2, a2, pc2, L2', S2, h2⟩ | ⟨g2, v2, h2⟩ <;> first | exact hr.elim | skip
        · obtain ⟨rfl, rfl, rfl, rfl, hl⟩ := hr
          exact gd_imp k (ih _ _ _ _ _ _ _ _ _ hl)
        · obtain ⟨rfl, rfl, rfl, rfl, rfl, rfl, hl⟩ := hr
          exact ⟨k.1, k.2.elim (fun z => Or.inl ⟨z.1, ih _ _ _ _ _ _ _ _ _ hl z.2⟩) (fun z => Or.inr ⟨z.1, ih _ _ _ _ _ _ _ _ _ hl z.2⟩)⟩
        · obtain ⟨rfl, rfl, rfl, rfl, rfl, rfl, hl⟩ := hr
          refine gd_imp k (fun z => ?_)
          cases d with
          | zero => exact z.elim
          | succ d =>
            obtain ⟨r1, t1, a1, b1⟩ := z
            exact ⟨r1, t1, a1, ih _ _ _ _ _ _ _ _ _ hl b1⟩
        · cases hr
          exact k
theorem Ev.weak {d m pc : Nat} {L L2 : mL} {S : List mV} {h : mH} {Q : Option mV → mH → Prop} (hL : Lle L L2) (k : Ev d m (pc, L, S, h) Q) : Ev d m (pc, L2, S, h) Q := by
  obtain ⟨n, r, t, a, b⟩ := k
  exact ⟨n, r, t, run_weak _ _ _ _ _ _ _ _ _ _ hL a, b⟩
/-- only the first k locals -/
def mKeep : Nat → mL → mL
  | _, [] => []
  | 0, _ :: L => none :: mKeep 0 L
  | k + 1, a :: L => a :: mKeep k L
theorem mKeep_le : ∀ (k : Nat) (L : mL), Lle (mKeep k L) L
  | k, [] => by cases k <;> exact ⟨rfl, fun _ _ h => h⟩
  | 0, a :: L => by
    have := mKeep_le 0 L
    refine ⟨by simp [mKeep, this.1], fun i v h => ?_⟩
    cases i with
    | zero => simp [mKeep, mNth] at h
    | succ i => exact this.2 i v h
  | k + 1, a :: L => by
    have := mKeep_le k L
    refine ⟨by simp [mKeep, this.1], fun i v h => ?_⟩
    cases i with
    | zero => exact h
    | succ i => exact this.2 i v h
def atP : List (Nat × Nat) → Nat → Option Nat
  | [], _ => none
  | (p, k) :: ps, pc => match Nat.beq p pc with
    | true => some k
    | false => atP ps pc
def wq : Nat → Nat → Nat → List (Nat × Nat) → Nat → mL → List mV → mH → (Option mV → mH → Prop) → Prop
  | 0, d, m, _, pc, L, S, h, Q => Ev d m (pc, L, S, h) Q
  | n + 1, d, m, ps, pc, L, S, h, Q => match pg m pc with
    | none => False
    | some e => match stp e pc L S h with
      | none => False
      | some (.inl (g, pc, L, S, h)) => gd g (match atP ps pc with
        | some k => Ev d m (pc, mKeep k L, S, h) Q
        | none => wq n d m ps pc L S h Q)
      | some (.inr (.inl (g, k, p, q, L, S, h))) => g ∧ (k → (match atP ps p with
        | some k => Ev d m (p, mKeep k L, S, h) Q
        | none => wq n d m ps p L S h Q)) ∧ (¬ k → (match atP ps q with
        | some k => Ev d m (q, mKeep k L, S, h) Q
        | none => wq n d m ps q L S h Q))
      | some (.inr (.inr (.inl (g, k, a, pc, L, S, h)))) => gd g (match d with
        | 0 => False
        | d2 + 1 => Ev d2 k (0, mIn k a, [], h) (fun r1 h1 => match atP ps pc with
          | some k => Ev d m (pc, mKeep k L, mPush r1 S, h1) Q
          | none => Ev d m (pc, L, mPush r1 S, h1) Q))
      | some (.inr (.inr (.inr (g, v, h)))) => gd g (Q v h)
theorem wq_ok : ∀ (n d m : Nat) (ps : List (Nat × Nat)) (pc : Nat) (L : mL) (S : List mV) (h : mH) (Q : Option mV → mH → Prop), wq n d m ps pc L S h Q → Ev d m (pc, L, S, h) Q := by
  intro n
  induction n with
  | zero => intro d m ps pc L S h Q k; exact k
  | succ n ih =>
    intro d m ps pc L S h Q k
    have pick : ∀ (pc : Nat) (L : mL) (S : List mV) (h : mH), (match atP ps pc with
        | some k => Ev d m (pc, mKeep k L, S, h) Q
        | none => wq n d m ps pc L S h Q) → Ev d m (pc, L, S, h) Q := by
      intro pc L S h k
      split at k
      next => exact Ev.weak (mKeep_le _ _) k
      next => exact ih _ _ _ _ _ _ _ _ k
    unfold wq at k
    have one : ∀ (j : Nat) (r : Option mV) (t : mH), run (j + 1) d m (pc, L, S, h) r t → Q r t → Ev d m (pc, L, S, h) Q := fun j r t a b => ⟨j + 1, r, t, a, b⟩
    unfold run at one
    dsimp only at one
    split at k
    next => exact k.elim
    next e he =>
      rw [he] at one
      dsimp only at one
      split at k
      next => exact k.elim
      next hs =>
        rw [hs] at one
        obtain ⟨j, r, t, a, b⟩ := pick _ _ _ _ (gd_out k)
        exact one j r t (gd_imp k (fun _ => a)) b
      next hs =>
        rw [hs] at one
        rename_i g kk p q L S hh
        rcases Classical.em kk with z | z
        · obtain ⟨j, r, t, a, b⟩ := pick _ _ _ _ (k.2.1 z)
          exact one j r t ⟨k.1, Or.inl ⟨z, a⟩⟩ b
        · obtain ⟨j, r, t, a, b⟩ := pick _ _ _ _ (k.2.2 z)
          exact one j r t ⟨k.1, Or.inr ⟨z, a⟩⟩ b
      next hs =>
        rw [hs] at one
        rename_i gx kx ax pcx Lx Sx hx
        have h2 := gd_out k
        cases d with
        | zero => exact h2.elim
        | succ d =>
          obtain ⟨j, r, t, a, hc⟩ := h2
          have hc2 : Ev (d + 1) m (pcx, Lx, mPush r Sx, t) Q := by
            split at hc
            next => exact Ev.weak (mKeep_le _ _) hc
            next => exact hc
          obtain ⟨k2, r2, t2, a2, b2⟩ := hc2
          exact one (j + k2) r2 t2 (gd_imp k (fun _ => ⟨r, t, run_le (Nat.le_add_right _ _) a, run_le (Nat.le_add_left _ _) a2⟩)) b2
      next hs =>
        rw [hs] at one
        exact one 0 _ _ (gd_imp k (fun _ => ⟨rfl, rfl⟩)) (gd_out k)
end
section
/-! small things for the segments -/
theorem sgn_in (x y : Int) : inR (sgn x y) := by
  unfold sgn
  split
  · omega
  · split <;> omega
theorem sgn_ge {x y : Int} : 0 ≤ sgn x y ↔ y ≤ x := by
  unfold sgn
  split
  · omega
  · split <;> omega
theorem sgn_lt {x y : Int} : sgn x y < 0 ↔ x < y := by
  unfold sgn
  split
  · omega
  · split <;> omega
theorem sgn_gt {x y : Int} : 0 < sgn x y ↔ y < x := by
  unfold sgn
  split
  · omega
  · split <;> omega
theorem sgn_le {x y : Int} : sgn x y ≤ 0 ↔ x ≤ y := by
  unfold sgn
  split
  · omega
  · split <;> omega
theorem sgn_eq {x y : Int} : sgn x y = 0 ↔ x = y := by
  unfold sgn
  split
  · omega
  · split <;> omega
theorem sgn_ne {x y : Int} : sgn x y ≠ 0 ↔ x ≠ y := not_congr sgn_eq
theorem run_deep : ∀ (n d m : Nat) (c : mC) (r : Option mV) (t : mH), run n d m c r t → run n (d + 1) m c r t := by
  intro n
  induction n with
  | zero => intro d m c r t h; exact h.elim
  | succ n ih =>
    intro d m c r t h
    unfold run at h ⊢
    split at h
    next => exact h.elim
    next e he =>
      split at h
      next => exact h.elim
      next => exact gd_imp h (ih _ _ _ _ _)
      next => exact ⟨h.1, h.2.elim (fun q => Or.inl ⟨q.1, ih _ _ _ _ _ q.2⟩) (fun q => Or.inr ⟨q.1, ih _ _ _ _ _ q.2⟩)⟩
      next =>
        refine gd_imp h (fun h2 => ?_)
        cases d with
        | zero => exact h2.elim
        | succ d =>
          obtain ⟨r1, h1, a, b⟩ := h2
          exact ⟨r1, h1, ih _ _ _ _ _ a, ih _ _ _ _ _ b⟩
      next => exact h
theorem Ev.deep {d d2 m : Nat} {c : mC} {Q : Option mV → mH → Prop} (h : d ≤ d2) (k : Ev d m c Q) : Ev d2 m c Q := by
  induction h with
  | refl => exact k
  | step _ ih =>
    obtain ⟨n, r, t, a, b⟩ := ih
    exact ⟨n, r, t, run_deep _ _ _ _ _ _ a, b⟩
/-- a call: its contract, and what follows it -/
theorem Ev.then {d d2 m : Nat} {c : mC} {Q Q2 : Option mV → mH → Prop} (k : Ev d m c Q) (h : d ≤ d2) (f : ∀ r t, Q r t → Q2 r t) : Ev d2 m c Q2 := Ev.mono (Ev.deep h k) f
theorem up_eq {α : Type} (f : Nat → α) (k : Nat) (x : α) : up f k x k = x := by simp [up]
theorem up_ne {α : Type} (f : Nat → α) {k i : Nat} (x : α) (h : i ≠ k) : up f k x i = f i := by simp [up, h]
theorem up_up {α : Type} (f : Nat → α) (k : Nat) (x y : α) : up (up f k x) k y = up f k y := by
  funext i
  by_cases h : i = k <;> simp [up, h]
theorem up_id {α : Type} (f : Nat → α) (k : Nat) : up f k (f k) = f := by
  funext i
  by_cases h : i = k <;> simp [up, h]
end
section
/-! segments of the methods, printed by tools/seg.py: what must hold at a place for the walk to the next ones -/
theorem sg_Arr_fillL_0 {x0 : Nat} {sc : Nat → Int} {ar : Nat → Nat → Int} {x1 : Int} {Q : Option mV → mH → Prop} (k : aK x0 ≤ 2 ∧ 
  (Ev 0 M_Arr_fillL (6, [some (vA x0), some (vL x1), none, some (vI 0), some (vI (mLen (sc, ar) x0))], [], (sc, ar)) Q)) :
  Ev 0 M_Arr_fillL (0, [some (vA x0), some (vL x1), none, none, none], [], (sc, ar)) Q :=
  wq_ok 200 _ _ [(6, 5)] _ _ _ _ _ (show (aK x0 ≤ 2) ∧ (Ev 0 M_Arr_fillL (6, [some (vA x0), some (vL x1), none, some (vI 0), some (vI (mLen (sc, ar) x0))], [], (sc, ar)) Q) from ⟨k.1, k.2⟩)
theorem sg_Arr_fillL_6 {x0 : Nat} {sc : Nat → Int} {ar : Nat → Nat → Int} {x1 x3 x4 : Int} {Q : Option mV → mH → Prop} (k : inR x3 ∧ inR x4 ∧ 
  (x4 ≤ x3 → (Q none (sc, ar))) ∧ 
  (¬ (x4 ≤ x3) → (aK x0 = 1 ∧ x0 ≠ 999 ∧ (0 : Int) ≤ x3 ∧ x3 < (mLen (sc, ar) x0 : Int) ∧ 
    (Ev 0 M_Arr_fillL (6, [some (vA x0), some (vL x1), none, some (vI (x3 + 1)), some (vI x4)], [], (sc, (up ar x0 (up (ar x0) x3.toNat x1)))) Q)))) :
  Ev 0 M_Arr_fillL (6, [some (vA x0), some (vL x1), none, some (vI x3), some (vI x4)], [], (sc, ar)) Q :=
  wq_ok 200 _ _ [(6, 5)] _ _ _ _ _ (show (inR x3 ∧ inR x4) ∧ (x4 ≤ x3 → (Q none (sc, ar))) ∧ (¬ (x4 ≤ x3) → ((aK x0 = 1 ∧ x0 ≠ 999 ∧ (0 : Int) ≤ x3 ∧ x3 < (mLen (sc, ar) x0 : Int)) ∧ (Ev 0 M_Arr_fillL (6, [some (vA x0), some (vL x1), none, some (vI (x3 + 1)), some (vI x4)], [], (sc, (up ar x0 (up (ar x0) x3.toNat x1)))) Q))) from ⟨⟨k.1, k.2.1⟩, fun c1 => (k.2.2.1 c1), fun c1 => ⟨⟨(k.2.2.2 c1).1, (k.2.2.2 c1).2.1, (k.2.2.2 c1).2.2.1, (k.2.2.2 c1).2.2.2.1⟩, (k.2.2.2 c1).2.2.2.2⟩⟩)
theorem sg_Arr_fillI_0 {x0 : Nat} {sc : Nat → Int} {ar : Nat → Nat → Int} {x1 : Int} {Q : Option mV → mH → Prop} (k : aK x0 ≤ 2 ∧ 
  (Ev 0 M_Arr_fillI (5, [some (vA x0), some (vI x1), some (vI 0), some (vI (mLen (sc, ar) x0))], [], (sc, ar)) Q)) :
  Ev 0 M_Arr_fillI (0, [some (vA x0), some (vI x1), none, none], [], (sc, ar)) Q :=
  wq_ok 200 _ _ [(5, 4)] _ _ _ _ _ (show (aK x0 ≤ 2) ∧ (Ev 0 M_Arr_fillI (5, [some (vA x0), some (vI x1), some (vI 0), some (vI (mLen (sc, ar) x0))], [], (sc, ar)) Q) from ⟨k.1, k.2⟩)
theorem sg_Arr_fillI_5 {x0 : Nat} {sc : Nat → Int} {ar : Nat → Nat → Int} {x1 x2 x3 : Int} {Q : Option mV → mH → Prop} (k : inR x2 ∧ inR x3 ∧ 
  (x3 ≤ x2 → (Q none (sc, ar))) ∧ 
  (¬ (x3 ≤ x2) → (aK x0 = 0 ∧ x0 ≠ 999 ∧ (0 : Int) ≤ x2 ∧ x2 < (mLen (sc, ar) x0 : Int) ∧ 
    (Ev 0 M_Arr_fillI (5, [some (vA x0), some (vI x1), some (vI (x2 + 1)), some (vI x3)], [], (sc, (up ar x0 (up (ar x0) x2.toNat x1)))) Q)))) :
  Ev 0 M_Arr_fillI (5, [some (vA x0), some (vI x1), some (vI x2), some (vI x3)], [], (sc, ar)) Q :=
  wq_ok 200 _ _ [(5, 4)] _ _ _ _ _ (show (inR x2 ∧ inR x3) ∧ (x3 ≤ x2 → (Q none (sc, ar))) ∧ (¬ (x3 ≤ x2) → ((aK x0 = 0 ∧ x0 ≠ 999 ∧ (0 : Int) ≤ x2 ∧ x2 < (mLen (sc, ar) x0 : Int)) ∧ (Ev 0 M_Arr_fillI (5, [some (vA x0), some (vI x1), some (vI (x2 + 1)), some (vI x3)], [], (sc, (up ar x0 (up (ar x0) x2.toNat x1)))) Q))) from ⟨⟨k.1, k.2.1⟩, fun c1 => (k.2.2.1 c1), fun c1 => ⟨⟨(k.2.2.2 c1).1, (k.2.2.2 c1).2.1, (k.2.2.2 c1).2.2.1, (k.2.2.2 c1).2.2.2.1⟩, (k.2.2.2 c1).2.2.2.2⟩⟩)
theorem sg_Dt_valueOf_0 {x0 : Nat} {sc : Nat → Int} {ar : Nat → Nat → Int} {x1 : Int} {Q : Option mV → mH → Prop} (k : inR x1 ∧ 
  (x1 < 0 → (Q (some (vI 0)) (sc, ar))) ∧ 
  (¬ (x1 < 0) → (aK x0 ≤ 2 ∧ 
    (inR x1 ∧ inR (mLen (sc, ar) x0) ∧ 
    ((mLen (sc, ar) x0) ≤ x1 → (Q (some (vI 0)) (sc, ar))) ∧ 
    (¬ ((mLen (sc, ar) x0) ≤ x1) → (aK x0 = 0 ∧ (0 : Int) ≤ x1 ∧ x1 < (mLen (sc, ar) x0 : Int) ∧ 
      (Q (some (vI ((ar x0) x1.toNat))) (sc, ar)))))))) :
  Ev 0 M_Dt_valueOf (0, [some (vA x0), some (vI x1)], [], (sc, ar)) Q :=
  wq_ok 200 _ _ [] _ _ _ _ _ (show (inR x1) ∧ (x1 < 0 → (Q (some (vI 0)) (sc, ar))) ∧ (¬ (x1 < 0) → ((aK x0 ≤ 2) ∧ ((inR x1 ∧ inR (mLen (sc, ar) x0)) ∧ ((mLen (sc, ar) x0) ≤ x1 → (Q (some (vI 0)) (sc, ar))) ∧ (¬ ((mLen (sc, ar) x0) ≤ x1) → ((aK x0 = 0 ∧ (0 : Int) ≤ x1 ∧ x1 < (mLen (sc, ar) x0 : Int)) ∧ (Q (some (vI ((ar x0) x1.toNat))) (sc, ar))))))) from ⟨k.1, fun c1 => (k.2.1 c1), fun c1 => ⟨(k.2.2 c1).1, ⟨⟨(k.2.2 c1).2.1, (k.2.2 c1).2.2.1⟩, fun c2 => ((k.2.2 c1).2.2.2.1 c2), fun c2 => ⟨⟨((k.2.2 c1).2.2.2.2 c2).1, ((k.2.2 c1).2.2.2.2 c2).2.1, ((k.2.2 c1).2.2.2.2 c2).2.2.1⟩, ((k.2.2 c1).2.2.2.2 c2).2.2.2⟩⟩⟩⟩)
theorem sg_Table_get_0n {sc : Nat → Int} {ar : Nat → Nat → Int} {x1 x2 : Int} {Q : Option mV → mH → Prop} (k : Ev 0 M_Table_holds (0, [some (vI x1), some (vI x2)], [], (sc, ar)) (fun r1 h1 => Ev 1 M_Table_get (5, [some (vO 1), some (vI x1), some (vI x2)], mPush r1 [], h1) Q)) :
  Ev 1 M_Table_get (0, [some (vO 1), some (vI x1), some (vI x2)], [], (sc, ar)) Q :=
  wq_ok 200 _ _ [(5, 3)] _ _ _ _ _ (show Ev 0 M_Table_holds (0, [some (vI x1), some (vI x2)], [], (sc, ar)) (fun r1 h1 => Ev 1 M_Table_get (5, [some (vO 1), some (vI x1), some (vI x2)], mPush r1 [], h1) Q) from k)
theorem sg_Table_get_5n {sc : Nat → Int} {ar : Nat → Nat → Int} {x1 x2 s0 : Int} {Q : Option mV → mH → Prop} (k : inR s0 ∧ 
  (s0 = 0 → (Q (some (vI 0)) (sc, ar))) ∧ 
  (¬ (s0 = 0) → ((0 : Int) ≤ ((x1 * 8) + x2) ∧ ((x1 * 8) + x2) < (64 : Int) ∧ 
    (Q (some (vI (ar 16 ((x1 * 8) + x2).toNat))) (sc, ar))))) :
  Ev 1 M_Table_get (5, [some (vO 1), some (vI x1), some (vI x2)], [vI s0], (sc, ar)) Q :=
  wq_ok 200 _ _ [(5, 3)] _ _ _ _ _ (show (inR s0) ∧ (s0 = 0 → (Q (some (vI 0)) (sc, ar))) ∧ (¬ (s0 = 0) → ((cO 1 = 6) ∧ ((aK 16 = 0 ∧ (0 : Int) ≤ ((x1 * 8) + x2) ∧ ((x1 * 8) + x2) < (64 : Int)) ∧ (Q (some (vI (ar 16 ((x1 * 8) + x2).toNat))) (sc, ar))))) from ⟨k.1, fun c1 => (k.2.1 c1), fun c1 => ⟨(by decide), ⟨⟨(by decide), (k.2.2 c1).1, (k.2.2 c1).2.1⟩, (k.2.2 c1).2.2⟩⟩⟩)
theorem sg_Table_get_0c {sc : Nat → Int} {ar : Nat → Nat → Int} {x1 x2 : Int} {Q : Option mV → mH → Prop} (k : Ev 0 M_Table_holds (0, [some (vI x1), some (vI x2)], [], (sc, ar)) (fun r1 h1 => Ev 1 M_Table_get (5, [some (vO 2), some (vI x1), some (vI x2)], mPush r1 [], h1) Q)) :
  Ev 1 M_Table_get (0, [some (vO 2), some (vI x1), some (vI x2)], [], (sc, ar)) Q :=
  wq_ok 200 _ _ [(5, 3)] _ _ _ _ _ (show Ev 0 M_Table_holds (0, [some (vI x1), some (vI x2)], [], (sc, ar)) (fun r1 h1 => Ev 1 M_Table_get (5, [some (vO 2), some (vI x1), some (vI x2)], mPush r1 [], h1) Q) from k)
theorem sg_Table_get_5c {sc : Nat → Int} {ar : Nat → Nat → Int} {x1 x2 s0 : Int} {Q : Option mV → mH → Prop} (k : inR s0 ∧ 
  (s0 = 0 → (Q (some (vI 0)) (sc, ar))) ∧ 
  (¬ (s0 = 0) → ((0 : Int) ≤ ((x1 * 8) + x2) ∧ ((x1 * 8) + x2) < (64 : Int) ∧ 
    (Q (some (vI (ar 32 ((x1 * 8) + x2).toNat))) (sc, ar))))) :
  Ev 1 M_Table_get (5, [some (vO 2), some (vI x1), some (vI x2)], [vI s0], (sc, ar)) Q :=
  wq_ok 200 _ _ [(5, 3)] _ _ _ _ _ (show (inR s0) ∧ (s0 = 0 → (Q (some (vI 0)) (sc, ar))) ∧ (¬ (s0 = 0) → ((cO 2 = 6) ∧ ((aK 32 = 0 ∧ (0 : Int) ≤ ((x1 * 8) + x2) ∧ ((x1 * 8) + x2) < (64 : Int)) ∧ (Q (some (vI (ar 32 ((x1 * 8) + x2).toNat))) (sc, ar))))) from ⟨k.1, fun c1 => (k.2.1 c1), fun c1 => ⟨(by decide), ⟨⟨(by decide), (k.2.2 c1).1, (k.2.2 c1).2.1⟩, (k.2.2 c1).2.2⟩⟩⟩)
theorem sg_Table_bothWays_0 {sc : Nat → Int} {ar : Nat → Nat → Int} {x1 x2 : Int} {Q : Option mV → mH → Prop} (k : Ev 1 M_Table_get (0, [some (vO 1), some (vI x1), some (vI x2)], [], (sc, ar)) (fun r1 h1 => Ev 2 M_Table_bothWays (6, [some (vO 1), some (vI x1), some (vI x2)], mPush r1 [], h1) Q)) :
  Ev 2 M_Table_bothWays (0, [some (vO 1), some (vI x1), some (vI x2)], [], (sc, ar)) Q :=
  wq_ok 200 _ _ [(6, 3), (12, 3)] _ _ _ _ _ (show (cO 1 = mK M_Table_get) ∧ (Ev 1 M_Table_get (0, [some (vO 1), some (vI x1), some (vI x2)], [], (sc, ar)) (fun r1 h1 => Ev 2 M_Table_bothWays (6, [some (vO 1), some (vI x1), some (vI x2)], mPush r1 [], h1) Q)) from ⟨(by decide), k⟩)
theorem sg_Table_bothWays_6 {sc : Nat → Int} {ar : Nat → Nat → Int} {x1 x2 s0 : Int} {Q : Option mV → mH → Prop} (k : Ev 1 M_Table_get (0, [some (vO 1), some (vI x2), some (vI x1)], [], (sc, ar)) (fun r1 h1 => Ev 2 M_Table_bothWays (12, [some (vO 1), some (vI x1), some (vI x2)], mPush r1 [vI s0], h1) Q)) :
  Ev 2 M_Table_bothWays (6, [some (vO 1), some (vI x1), some (vI x2)], [vI s0], (sc, ar)) Q :=
  wq_ok 200 _ _ [(6, 3), (12, 3)] _ _ _ _ _ (show (cO 1 = mK M_Table_get) ∧ (Ev 1 M_Table_get (0, [some (vO 1), some (vI x2), some (vI x1)], [], (sc, ar)) (fun r1 h1 => Ev 2 M_Table_bothWays (12, [some (vO 1), some (vI x1), some (vI x2)], mPush r1 [vI s0], h1) Q)) from ⟨(by decide), k⟩)
theorem sg_Table_bothWays_12 {sc : Nat → Int} {ar : Nat → Nat → Int} {x1 x2 s0 s1 : Int} {Q : Option mV → mH → Prop} (k : Q (some (vI (s1 + s0))) (sc, ar)) :
  Ev 2 M_Table_bothWays (12, [some (vO 1), some (vI x1), some (vI x2)], [vI s0, vI s1], (sc, ar)) Q :=
  wq_ok 200 _ _ [(6, 3), (12, 3)] _ _ _ _ _ (show Q (some (vI (s1 + s0))) (sc, ar) from k)
theorem sg_Table_put_0n {sc : Nat → Int} {ar : Nat → Nat → Int} {x1 x2 x3 : Int} {Q : Option mV → mH → Prop} (k : Ev 0 M_Table_holds (0, [some (vI x1), some (vI x2)], [], (sc, ar)) (fun r1 h1 => Ev 1 M_Table_put (5, [some (vO 1), some (vI x1), some (vI x2), some (vI x3), none, none], mPush r1 [], h1) Q)) :
  Ev 1 M_Table_put (0, [some (vO 1), some (vI x1), some (vI x2), some (vI x3), none, none], [], (sc, ar)) Q :=
  wq_ok 200 _ _ [(5, 4)] _ _ _ _ _ (show Ev 0 M_Table_holds (0, [some (vI x1), some (vI x2)], [], (sc, ar)) (fun r1 h1 => Ev 1 M_Table_put (5, [some (vO 1), some (vI x1), some (vI x2), some (vI x3), none, none], mPush r1 [], h1) Q) from k)
theorem sg_Table_put_5n {sc : Nat → Int} {ar : Nat → Nat → Int} {x1 x2 x3 s0 : Int} {Q : Option mV → mH → Prop} (k : inR s0 ∧ 
  (s0 ≠ 0 → ((0 : Int) ≤ ((x1 * 8) + x2) ∧ ((x1 * 8) + x2) < (64 : Int) ∧ 
    ((0 : Int) ≤ ((x1 * 8) + x2) ∧ ((x1 * 8) + x2) < (64 : Int) ∧ 
    (Q (some (vI (ar 16 ((x1 * 8) + x2).toNat))) (sc, (up ar 16 (up (ar 16) ((x1 * 8) + x2).toNat x3))))))) ∧ 
  (¬ (s0 ≠ 0) → (Q (some (vI 0)) (sc, ar)))) :
  Ev 1 M_Table_put (5, [some (vO 1), some (vI x1), some (vI x2), some (vI x3), none, none], [vI s0], (sc, ar)) Q :=
  wq_ok 200 _ _ [(5, 4)] _ _ _ _ _ (show (inR s0) ∧ (s0 ≠ 0 → ((cO 1 = 6) ∧ ((aK 16 = 0 ∧ (0 : Int) ≤ ((x1 * 8) + x2) ∧ ((x1 * 8) + x2) < (64 : Int)) ∧ ((cO 1 = 6) ∧ ((aK 16 = 0 ∧ 16 ≠ 999 ∧ (0 : Int) ≤ ((x1 * 8) + x2) ∧ ((x1 * 8) + x2) < (64 : Int)) ∧ (Q (some (vI (ar 16 ((x1 * 8) + x2).toNat))) (sc, (up ar 16 (up (ar 16) ((x1 * 8) + x2).toNat x3))))))))) ∧ (¬ (s0 ≠ 0) → (Q (some (vI 0)) (sc, ar))) from ⟨k.1, fun c1 => ⟨(by decide), ⟨⟨(by decide), (k.2.1 c1).1, (k.2.1 c1).2.1⟩, ⟨(by decide), ⟨⟨(by decide), (by decide), (k.2.1 c1).2.2.1, (k.2.1 c1).2.2.2.1⟩, (k.2.1 c1).2.2.2.2⟩⟩⟩⟩, fun c1 => (k.2.2 c1)⟩)
theorem sg_Table_put_0c {sc : Nat → Int} {ar : Nat → Nat → Int} {x1 x2 x3 : Int} {Q : Option mV → mH → Prop} (k : Ev 0 M_Table_holds (0, [some (vI x1), some (vI x2)], [], (sc, ar)) (fun r1 h1 => Ev 1 M_Table_put (5, [some (vO 2), some (vI x1), some (vI x2), some (vI x3), none, none], mPush r1 [], h1) Q)) :
  Ev 1 M_Table_put (0, [some (vO 2), some (vI x1), some (vI x2), some (vI x3), none, none], [], (sc, ar)) Q :=
  wq_ok 200 _ _ [(5, 4)] _ _ _ _ _ (show Ev 0 M_Table_holds (0, [some (vI x1), some (vI x2)], [], (sc, ar)) (fun r1 h1 => Ev 1 M_Table_put (5, [some (vO 2), some (vI x1), some (vI x2), some (vI x3), none, none], mPush r1 [], h1) Q) from k)
theorem sg_Table_put_5c {sc : Nat → Int} {ar : Nat → Nat → Int} {x1 x2 x3 s0 : Int} {Q : Option mV → mH → Prop} (k : inR s0 ∧ 
  (s0 ≠ 0 → ((0 : Int) ≤ ((x1 * 8) + x2) ∧ ((x1 * 8) + x2) < (64 : Int) ∧ 
    ((0 : Int) ≤ ((x1 * 8) + x2) ∧ ((x1 * 8) + x2) < (64 : Int) ∧ 
    (Q (some (vI (ar 32 ((x1 * 8) + x2).toNat))) (sc, (up ar 32 (up (ar 32) ((x1 * 8) + x2).toNat x3))))))) ∧ 
  (¬ (s0 ≠ 0) → (Q (some (vI 0)) (sc, ar)))) :
  Ev 1 M_Table_put (5, [some (vO 2), some (vI x1), some (vI x2), some (vI x3), none, none], [vI s0], (sc, ar)) Q :=
  wq_ok 200 _ _ [(5, 4)] _ _ _ _ _ (show (inR s0) ∧ (s0 ≠ 0 → ((cO 2 = 6) ∧ ((aK 32 = 0 ∧ (0 : Int) ≤ ((x1 * 8) + x2) ∧ ((x1 * 8) + x2) < (64 : Int)) ∧ ((cO 2 = 6) ∧ ((aK 32 = 0 ∧ 32 ≠ 999 ∧ (0 : Int) ≤ ((x1 * 8) + x2) ∧ ((x1 * 8) + x2) < (64 : Int)) ∧ (Q (some (vI (ar 32 ((x1 * 8) + x2).toNat))) (sc, (up ar 32 (up (ar 32) ((x1 * 8) + x2).toNat x3))))))))) ∧ (¬ (s0 ≠ 0) → (Q (some (vI 0)) (sc, ar))) from ⟨k.1, fun c1 => ⟨(by decide), ⟨⟨(by decide), (k.2.1 c1).1, (k.2.1 c1).2.1⟩, ⟨(by decide), ⟨⟨(by decide), (by decide), (k.2.1 c1).2.2.1, (k.2.1 c1).2.2.2.1⟩, (k.2.1 c1).2.2.2.2⟩⟩⟩⟩, fun c1 => (k.2.2 c1)⟩)
theorem sg_Table_sumOfRow_0 {sc : Nat → Int} {ar : Nat → Nat → Int} {x1 : Int} {Q : Option mV → mH → Prop} (k : Ev 2 M_Table_sumOfRow (4, [some (vO 2), some (vI x1), some (vI 0), some (vI 0)], [], (sc, ar)) Q) :
  Ev 2 M_Table_sumOfRow (0, [some (vO 2), some (vI x1), none, none], [], (sc, ar)) Q :=
  wq_ok 200 _ _ [(4, 4), (17, 4)] _ _ _ _ _ (show Ev 2 M_Table_sumOfRow (4, [some (vO 2), some (vI x1), some (vI 0), some (vI 0)], [], (sc, ar)) Q from k)
theorem sg_Table_sumOfRow_4 {sc : Nat → Int} {ar : Nat → Nat → Int} {x1 x2 x3 : Int} {Q : Option mV → mH → Prop} (k : inR x3 ∧ 
  (8 ≤ x3 → (Q (some (vI x2)) (sc, ar))) ∧ 
  (¬ (8 ≤ x3) → (Ev 1 M_Table_get (0, [some (vO 2), some (vI x1), some (vI x3)], [], (sc, ar)) (fun r1 h1 => Ev 2 M_Table_sumOfRow (17, [some (vO 2), some (vI x1), some (vI x2), some (vI x3)], mPush r1 [vI x2], h1) Q)))) :
  Ev 2 M_Table_sumOfRow (4, [some (vO 2), some (vI x1), some (vI x2), some (vI x3)], [], (sc, ar)) Q :=
  wq_ok 200 _ _ [(4, 4), (17, 4)] _ _ _ _ _ (show (inR x3 ∧ inR 8) ∧ (8 ≤ x3 → (Q (some (vI x2)) (sc, ar))) ∧ (¬ (8 ≤ x3) → ((cO 2 = mK M_Table_get) ∧ (Ev 1 M_Table_get (0, [some (vO 2), some (vI x1), some (vI x3)], [], (sc, ar)) (fun r1 h1 => Ev 2 M_Table_sumOfRow (17, [some (vO 2), some (vI x1), some (vI x2), some (vI x3)], mPush r1 [vI x2], h1) Q)))) from ⟨⟨k.1, (by decide)⟩, fun c1 => (k.2.1 c1), fun c1 => ⟨(by decide), (k.2.2 c1)⟩⟩)
theorem sg_Table_sumOfRow_17 {sc : Nat → Int} {ar : Nat → Nat → Int} {x1 x2 x3 s0 s1 : Int} {Q : Option mV → mH → Prop} (k : Ev 2 M_Table_sumOfRow (4, [some (vO 2), some (vI x1), some (vI (s1 + s0)), some (vI (x3 + 1))], [], (sc, ar)) Q) :
  Ev 2 M_Table_sumOfRow (17, [some (vO 2), some (vI x1), some (vI x2), some (vI x3)], [vI s0, vI s1], (sc, ar)) Q :=
  wq_ok 200 _ _ [(4, 4), (17, 4)] _ _ _ _ _ (show Ev 2 M_Table_sumOfRow (4, [some (vO 2), some (vI x1), some (vI (s1 + s0)), some (vI (x3 + 1))], [], (sc, ar)) Q from k)
theorem sg_Table_sum_0 {sc : Nat → Int} {ar : Nat → Nat → Int} {Q : Option mV → mH → Prop} (k : Ev 0 M_Table_sum (13, [some (vO 1), some (vI 0), some (vA 16), some (vI 64), some (vI 0), none], [], (sc, ar)) Q) :
  Ev 0 M_Table_sum (0, [some (vO 1), none, none, none, none, none], [], (sc, ar)) Q :=
  wq_ok 200 _ _ [(13, 5)] _ _ _ _ _ (show (cO 1 = 6) ∧ ((aK 16 ≤ 2) ∧ (Ev 0 M_Table_sum (13, [some (vO 1), some (vI 0), some (vA 16), some (vI 64), some (vI 0), none], [], (sc, ar)) Q)) from ⟨(by decide), ⟨(by decide), k⟩⟩)
theorem sg_Table_sum_13 {sc : Nat → Int} {ar : Nat → Nat → Int} {x1 x3 x4 : Int} {Q : Option mV → mH → Prop} (k : inR x4 ∧ inR x3 ∧ 
  (x3 ≤ x4 → (Q (some (vI x1)) (sc, ar))) ∧ 
  (¬ (x3 ≤ x4) → ((0 : Int) ≤ x4 ∧ x4 < (64 : Int) ∧ 
    (Ev 0 M_Table_sum (13, [some (vO 1), some (vI (x1 + (ar 16 x4.toNat))), some (vA 16), some (vI x3), some (vI (x4 + 1)), none], [], (sc, ar)) Q)))) :
  Ev 0 M_Table_sum (13, [some (vO 1), some (vI x1), some (vA 16), some (vI x3), some (vI x4), none], [], (sc, ar)) Q :=
  wq_ok 200 _ _ [(13, 5)] _ _ _ _ _ (show (inR x4 ∧ inR x3) ∧ (x3 ≤ x4 → (Q (some (vI x1)) (sc, ar))) ∧ (¬ (x3 ≤ x4) → ((aK 16 = 0 ∧ (0 : Int) ≤ x4 ∧ x4 < (64 : Int)) ∧ (Ev 0 M_Table_sum (13, [some (vO 1), some (vI (x1 + (ar 16 x4.toNat))), some (vA 16), some (vI x3), some (vI (x4 + 1)), none], [], (sc, ar)) Q))) from ⟨⟨k.1, k.2.1⟩, fun c1 => (k.2.2.1 c1), fun c1 => ⟨⟨(by decide), (k.2.2.2 c1).1, (k.2.2.2 c1).2.1⟩, (k.2.2.2 c1).2.2⟩⟩)
theorem sg_Table_howMany_0n {sc : Nat → Int} {ar : Nat → Nat → Int} {Q : Option mV → mH → Prop} (k : Ev 0 M_Table_howMany (13, [some (vO 1), some (vI 0), some (vA 16), some (vI 64), some (vI 0), none], [], (sc, ar)) Q) :
  Ev 0 M_Table_howMany (0, [some (vO 1), none, none, none, none, none], [], (sc, ar)) Q :=
  wq_ok 200 _ _ [(13, 5)] _ _ _ _ _ (show (cO 1 = 6) ∧ ((aK 16 ≤ 2) ∧ (Ev 0 M_Table_howMany (13, [some (vO 1), some (vI 0), some (vA 16), some (vI 64), some (vI 0), none], [], (sc, ar)) Q)) from ⟨(by decide), ⟨(by decide), k⟩⟩)
theorem sg_Table_howMany_13n {sc : Nat → Int} {ar : Nat → Nat → Int} {x1 x3 x4 : Int} {Q : Option mV → mH → Prop} (k : inR x4 ∧ inR x3 ∧ 
  (x3 ≤ x4 → (Q (some (vI x1)) (sc, ar))) ∧ 
  (¬ (x3 ≤ x4) → ((0 : Int) ≤ x4 ∧ x4 < (64 : Int) ∧ 
    (inR (ar 16 x4.toNat) ∧ 
    ((ar 16 x4.toNat) = 0 → (Ev 0 M_Table_howMany (13, [some (vO 1), some (vI (x1 + 0)), some (vA 16), some (vI x3), some (vI (x4 + 1)), none], [], (sc, ar)) Q)) ∧ 
    (¬ ((ar 16 x4.toNat) = 0) → (Ev 0 M_Table_howMany (13, [some (vO 1), some (vI (x1 + 1)), some (vA 16), some (vI x3), some (vI (x4 + 1)), none], [], (sc, ar)) Q)))))) :
  Ev 0 M_Table_howMany (13, [some (vO 1), some (vI x1), some (vA 16), some (vI x3), some (vI x4), none], [], (sc, ar)) Q :=
  wq_ok 200 _ _ [(13, 5)] _ _ _ _ _ (show (inR x4 ∧ inR x3) ∧ (x3 ≤ x4 → (Q (some (vI x1)) (sc, ar))) ∧ (¬ (x3 ≤ x4) → ((aK 16 = 0 ∧ (0 : Int) ≤ x4 ∧ x4 < (64 : Int)) ∧ ((inR (ar 16 x4.toNat)) ∧ ((ar 16 x4.toNat) = 0 → (Ev 0 M_Table_howMany (13, [some (vO 1), some (vI (x1 + 0)), some (vA 16), some (vI x3), some (vI (x4 + 1)), none], [], (sc, ar)) Q)) ∧ (¬ ((ar 16 x4.toNat) = 0) → (Ev 0 M_Table_howMany (13, [some (vO 1), some (vI (x1 + 1)), some (vA 16), some (vI x3), some (vI (x4 + 1)), none], [], (sc, ar)) Q))))) from ⟨⟨k.1, k.2.1⟩, fun c1 => (k.2.2.1 c1), fun c1 => ⟨⟨(by decide), (k.2.2.2 c1).1, (k.2.2.2 c1).2.1⟩, ⟨(k.2.2.2 c1).2.2.1, fun c2 => ((k.2.2.2 c1).2.2.2.1 c2), fun c2 => ((k.2.2.2 c1).2.2.2.2 c2)⟩⟩⟩)
theorem sg_Table_howMany_0c {sc : Nat → Int} {ar : Nat → Nat → Int} {Q : Option mV → mH → Prop} (k : Ev 0 M_Table_howMany (13, [some (vO 2), some (vI 0), some (vA 32), some (vI 64), some (vI 0), none], [], (sc, ar)) Q) :
  Ev 0 M_Table_howMany (0, [some (vO 2), none, none, none, none, none], [], (sc, ar)) Q :=
  wq_ok 200 _ _ [(13, 5)] _ _ _ _ _ (show (cO 2 = 6) ∧ ((aK 32 ≤ 2) ∧ (Ev 0 M_Table_howMany (13, [some (vO 2), some (vI 0), some (vA 32), some (vI 64), some (vI 0), none], [], (sc, ar)) Q)) from ⟨(by decide), ⟨(by decide), k⟩⟩)
theorem sg_Table_howMany_13c {sc : Nat → Int} {ar : Nat → Nat → Int} {x1 x3 x4 : Int} {Q : Option mV → mH → Prop} (k : inR x4 ∧ inR x3 ∧ 
  (x3 ≤ x4 → (Q (some (vI x1)) (sc, ar))) ∧ 
  (¬ (x3 ≤ x4) → ((0 : Int) ≤ x4 ∧ x4 < (64 : Int) ∧ 
    (inR (ar 32 x4.toNat) ∧ 
    ((ar 32 x4.toNat) = 0 → (Ev 0 M_Table_howMany (13, [some (vO 2), some (vI (x1 + 0)), some (vA 32), some (vI x3), some (vI (x4 + 1)), none], [], (sc, ar)) Q)) ∧ 
    (¬ ((ar 32 x4.toNat) = 0) → (Ev 0 M_Table_howMany (13, [some (vO 2), some (vI (x1 + 1)), some (vA 32), some (vI x3), some (vI (x4 + 1)), none], [], (sc, ar)) Q)))))) :
  Ev 0 M_Table_howMany (13, [some (vO 2), some (vI x1), some (vA 32), some (vI x3), some (vI x4), none], [], (sc, ar)) Q :=
  wq_ok 200 _ _ [(13, 5)] _ _ _ _ _ (show (inR x4 ∧ inR x3) ∧ (x3 ≤ x4 → (Q (some (vI x1)) (sc, ar))) ∧ (¬ (x3 ≤ x4) → ((aK 32 = 0 ∧ (0 : Int) ≤ x4 ∧ x4 < (64 : Int)) ∧ ((inR (ar 32 x4.toNat)) ∧ ((ar 32 x4.toNat) = 0 → (Ev 0 M_Table_howMany (13, [some (vO 2), some (vI (x1 + 0)), some (vA 32), some (vI x3), some (vI (x4 + 1)), none], [], (sc, ar)) Q)) ∧ (¬ ((ar 32 x4.toNat) = 0) → (Ev 0 M_Table_howMany (13, [some (vO 2), some (vI (x1 + 1)), some (vA 32), some (vI x3), some (vI (x4 + 1)), none], [], (sc, ar)) Q))))) from ⟨⟨k.1, k.2.1⟩, fun c1 => (k.2.2.1 c1), fun c1 => ⟨⟨(by decide), (k.2.2.2 c1).1, (k.2.2.2 c1).2.1⟩, ⟨(k.2.2.2 c1).2.2.1, fun c2 => ((k.2.2.2 c1).2.2.2.1 c2), fun c2 => ((k.2.2.2 c1).2.2.2.2 c2)⟩⟩⟩)
theorem sg_Table_holds_0 {sc : Nat → Int} {ar : Nat → Nat → Int} {x0 x1 : Int} {Q : Option mV → mH → Prop} (k : inR x0 ∧ 
  (x0 < 0 → (Q (some (vI 0)) (sc, ar))) ∧ 
  (¬ (x0 < 0) → (inR x0 ∧ 
    (8 ≤ x0 → (Q (some (vI 0)) (sc, ar))) ∧ 
    (¬ (8 ≤ x0) → (inR x1 ∧ 
      (x1 < 0 → (Q (some (vI 0)) (sc, ar))) ∧ 
      (¬ (x1 < 0) → (inR x1 ∧ 
        (8 ≤ x1 → (Q (some (vI 0)) (sc, ar))) ∧ 
        (¬ (8 ≤ x1) → (Q (some (vI 1)) (sc, ar)))))))))) :
  Ev 0 M_Table_holds (0, [some (vI x0), some (vI x1)], [], (sc, ar)) Q :=
  wq_ok 200 _ _ [] _ _ _ _ _ (show (inR x0) ∧ (x0 < 0 → (((0 : Int) ≤ 0 ∧ (0 : Int) ≤ 1) ∧ (Q (some (vI 0)) (sc, ar)))) ∧ (¬ (x0 < 0) → ((inR x0 ∧ inR 8) ∧ (8 ≤ x0 → (((0 : Int) ≤ 0 ∧ (0 : Int) ≤ 1) ∧ (Q (some (vI 0)) (sc, ar)))) ∧ (¬ (8 ≤ x0) → ((inR x1) ∧ (x1 < 0 → (((0 : Int) ≤ 0 ∧ (0 : Int) ≤ 1) ∧ (Q (some (vI 0)) (sc, ar)))) ∧ (¬ (x1 < 0) → ((inR x1 ∧ inR 8) ∧ (8 ≤ x1 → (((0 : Int) ≤ 0 ∧ (0 : Int) ≤ 1) ∧ (Q (some (vI 0)) (sc, ar)))) ∧ (¬ (8 ≤ x1) → (((0 : Int) ≤ 1 ∧ (1 : Int) ≤ 1) ∧ (Q (some (vI 1)) (sc, ar)))))))))) from ⟨k.1, fun c1 => ⟨⟨(by decide), (by decide)⟩, (k.2.1 c1)⟩, fun c1 => ⟨⟨(k.2.2 c1).1, (by decide)⟩, fun c2 => ⟨⟨(by decide), (by decide)⟩, ((k.2.2 c1).2.1 c2)⟩, fun c2 => ⟨((k.2.2 c1).2.2 c2).1, fun c3 => ⟨⟨(by decide), (by decide)⟩, (((k.2.2 c1).2.2 c2).2.1 c3)⟩, fun c3 => ⟨⟨(((k.2.2 c1).2.2 c2).2.2 c3).1, (by decide)⟩, fun c4 => ⟨⟨(by decide), (by decide)⟩, ((((k.2.2 c1).2.2 c2).2.2 c3).2.1 c4)⟩, fun c4 => ⟨⟨(by decide), (by decide)⟩, ((((k.2.2 c1).2.2 c2).2.2 c3).2.2 c4)⟩⟩⟩⟩⟩)
theorem sg_Order_hasPlace_0t {sc : Nat → Int} {ar : Nat → Nat → Int} {x1 : Int} {Q : Option mV → mH → Prop} (k : inR x1 ∧ 
  (x1 < 0 → (Q (some (vI 0)) (sc, ar))) ∧ 
  (¬ (x1 < 0) → (inR x1 ∧ inR (sc 49) ∧ 
    ((sc 49) ≤ x1 → (Q (some (vI 0)) (sc, ar))) ∧ 
    (¬ ((sc 49) ≤ x1) → (inR x1 ∧ 
      (8 ≤ x1 → (Q (some (vI 0)) (sc, ar))) ∧ 
      (¬ (8 ≤ x1) → (Q (some (vI 1)) (sc, ar)))))))) :
  Ev 0 M_Order_hasPlace (0, [some (vO 3), some (vI x1)], [], (sc, ar)) Q :=
  wq_ok 200 _ _ [] _ _ _ _ _ (show (inR x1) ∧ (x1 < 0 → (((0 : Int) ≤ 0 ∧ (0 : Int) ≤ 1) ∧ (Q (some (vI 0)) (sc, ar)))) ∧ (¬ (x1 < 0) → ((cO 3 = 2) ∧ ((inR x1 ∧ inR (sc 49)) ∧ ((sc 49) ≤ x1 → (((0 : Int) ≤ 0 ∧ (0 : Int) ≤ 1) ∧ (Q (some (vI 0)) (sc, ar)))) ∧ (¬ ((sc 49) ≤ x1) → ((inR x1 ∧ inR 8) ∧ (8 ≤ x1 → (((0 : Int) ≤ 0 ∧ (0 : Int) ≤ 1) ∧ (Q (some (vI 0)) (sc, ar)))) ∧ (¬ (8 ≤ x1) → (((0 : Int) ≤ 1 ∧ (1 : Int) ≤ 1) ∧ (Q (some (vI 1)) (sc, ar))))))))) from ⟨k.1, fun c1 => ⟨⟨(by decide), (by decide)⟩, (k.2.1 c1)⟩, fun c1 => ⟨(by decide), ⟨⟨(k.2.2 c1).1, (k.2.2 c1).2.1⟩, fun c2 => ⟨⟨(by decide), (by decide)⟩, ((k.2.2 c1).2.2.1 c2)⟩, fun c2 => ⟨⟨((k.2.2 c1).2.2.2 c2).1, (by decide)⟩, fun c3 => ⟨⟨(by decide), (by decide)⟩, (((k.2.2 c1).2.2.2 c2).2.1 c3)⟩, fun c3 => ⟨⟨(by decide), (by decide)⟩, (((k.2.2 c1).2.2.2 c2).2.2 c3)⟩⟩⟩⟩⟩)
theorem sg_Order_hasPlace_0l {sc : Nat → Int} {ar : Nat → Nat → Int} {x1 : Int} {Q : Option mV → mH → Prop} (k : inR x1 ∧ 
  (x1 < 0 → (Q (some (vI 0)) (sc, ar))) ∧ 
  (¬ (x1 < 0) → (inR x1 ∧ inR (sc 97) ∧ 
    ((sc 97) ≤ x1 → (Q (some (vI 0)) (sc, ar))) ∧ 
    (¬ ((sc 97) ≤ x1) → (inR x1 ∧ 
      (8 ≤ x1 → (Q (some (vI 0)) (sc, ar))) ∧ 
      (¬ (8 ≤ x1) → (Q (some (vI 1)) (sc, ar)))))))) :
  Ev 0 M_Order_hasPlace (0, [some (vO 6), some (vI x1)], [], (sc, ar)) Q :=
  wq_ok 200 _ _ [] _ _ _ _ _ (show (inR x1) ∧ (x1 < 0 → (((0 : Int) ≤ 0 ∧ (0 : Int) ≤ 1) ∧ (Q (some (vI 0)) (sc, ar)))) ∧ (¬ (x1 < 0) → ((cO 6 = 2) ∧ ((inR x1 ∧ inR (sc 97)) ∧ ((sc 97) ≤ x1 → (((0 : Int) ≤ 0 ∧ (0 : Int) ≤ 1) ∧ (Q (some (vI 0)) (sc, ar)))) ∧ (¬ ((sc 97) ≤ x1) → ((inR x1 ∧ inR 8) ∧ (8 ≤ x1 → (((0 : Int) ≤ 0 ∧ (0 : Int) ≤ 1) ∧ (Q (some (vI 0)) (sc, ar)))) ∧ (¬ (8 ≤ x1) → (((0 : Int) ≤ 1 ∧ (1 : Int) ≤ 1) ∧ (Q (some (vI 1)) (sc, ar))))))))) from ⟨k.1, fun c1 => ⟨⟨(by decide), (by decide)⟩, (k.2.1 c1)⟩, fun c1 => ⟨(by decide), ⟨⟨(k.2.2 c1).1, (k.2.2 c1).2.1⟩, fun c2 => ⟨⟨(by decide), (by decide)⟩, ((k.2.2 c1).2.2.1 c2)⟩, fun c2 => ⟨⟨((k.2.2 c1).2.2.2 c2).1, (by decide)⟩, fun c3 => ⟨⟨(by decide), (by decide)⟩, (((k.2.2 c1).2.2.2 c2).2.1 c3)⟩, fun c3 => ⟨⟨(by decide), (by decide)⟩, (((k.2.2 c1).2.2.2 c2).2.2 c3)⟩⟩⟩⟩⟩)
theorem sg_Order_length_0t {sc : Nat → Int} {ar : Nat → Nat → Int} {Q : Option mV → mH → Prop} (k : Q (some (vI (sc 49))) (sc, ar)) :
  Ev 0 M_Order_length (0, [some (vO 3)], [], (sc, ar)) Q :=
  wq_ok 200 _ _ [] _ _ _ _ _ (show (cO 3 = 2) ∧ (Q (some (vI (sc 49))) (sc, ar)) from ⟨(by decide), k⟩)
theorem sg_Order_length_0l {sc : Nat → Int} {ar : Nat → Nat → Int} {Q : Option mV → mH → Prop} (k : Q (some (vI (sc 97))) (sc, ar)) :
  Ev 0 M_Order_length (0, [some (vO 6)], [], (sc, ar)) Q :=
  wq_ok 200 _ _ [] _ _ _ _ _ (show (cO 6 = 2) ∧ (Q (some (vI (sc 97))) (sc, ar)) from ⟨(by decide), k⟩)
theorem sg_Order_taskAt_0t {sc : Nat → Int} {ar : Nat → Nat → Int} {x1 : Int} {Q : Option mV → mH → Prop} (k : Ev 0 M_Order_hasPlace (0, [some (vO 3), some (vI x1)], [], (sc, ar)) (fun r1 h1 => Ev 1 M_Order_taskAt (5, [some (vO 3), some (vI x1)], mPush r1 [], h1) Q)) :
  Ev 1 M_Order_taskAt (0, [some (vO 3), some (vI x1)], [], (sc, ar)) Q :=
  wq_ok 200 _ _ [(5, 2)] _ _ _ _ _ (show (cO 3 = mK M_Order_hasPlace) ∧ (Ev 0 M_Order_hasPlace (0, [some (vO 3), some (vI x1)], [], (sc, ar)) (fun r1 h1 => Ev 1 M_Order_taskAt (5, [some (vO 3), some (vI x1)], mPush r1 [], h1) Q)) from ⟨(by decide), k⟩)
theorem sg_Order_taskAt_5t {sc : Nat → Int} {ar : Nat → Nat → Int} {x1 s0 : Int} {Q : Option mV → mH → Prop} (k : inR s0 ∧ 
  (s0 = 0 → (Q (some (vI (-9))) (sc, ar))) ∧ 
  (¬ (s0 = 0) → ((0 : Int) ≤ x1 ∧ x1 < (8 : Int) ∧ 
    (Q (some (vI (ar 48 x1.toNat))) (sc, ar))))) :
  Ev 1 M_Order_taskAt (5, [some (vO 3), some (vI x1)], [vI s0], (sc, ar)) Q :=
  wq_ok 200 _ _ [(5, 2)] _ _ _ _ _ (show (inR s0) ∧ (s0 = 0 → (Q (some (vI (-9))) (sc, ar))) ∧ (¬ (s0 = 0) → ((cO 3 = 2) ∧ ((aK 48 = 0 ∧ (0 : Int) ≤ x1 ∧ x1 < (8 : Int)) ∧ (Q (some (vI (ar 48 x1.toNat))) (sc, ar))))) from ⟨k.1, fun c1 => (k.2.1 c1), fun c1 => ⟨(by decide), ⟨⟨(by decide), (k.2.2 c1).1, (k.2.2 c1).2.1⟩, (k.2.2 c1).2.2⟩⟩⟩)
theorem sg_Order_taskAt_0l {sc : Nat → Int} {ar : Nat → Nat → Int} {x1 : Int} {Q : Option mV → mH → Prop} (k : Ev 0 M_Order_hasPlace (0, [some (vO 6), some (vI x1)], [], (sc, ar)) (fun r1 h1 => Ev 1 M_Order_taskAt (5, [some (vO 6), some (vI x1)], mPush r1 [], h1) Q)) :
  Ev 1 M_Order_taskAt (0, [some (vO 6), some (vI x1)], [], (sc, ar)) Q :=
  wq_ok 200 _ _ [(5, 2)] _ _ _ _ _ (show (cO 6 = mK M_Order_hasPlace) ∧ (Ev 0 M_Order_hasPlace (0, [some (vO 6), some (vI x1)], [], (sc, ar)) (fun r1 h1 => Ev 1 M_Order_taskAt (5, [some (vO 6), some (vI x1)], mPush r1 [], h1) Q)) from ⟨(by decide), k⟩)
theorem sg_Order_taskAt_5l {sc : Nat → Int} {ar : Nat → Nat → Int} {x1 s0 : Int} {Q : Option mV → mH → Prop} (k : inR s0 ∧ 
  (s0 = 0 → (Q (some (vI (-9))) (sc, ar))) ∧ 
  (¬ (s0 = 0) → ((0 : Int) ≤ x1 ∧ x1 < (8 : Int) ∧ 
    (Q (some (vI (ar 96 x1.toNat))) (sc, ar))))) :
  Ev 1 M_Order_taskAt (5, [some (vO 6), some (vI x1)], [vI s0], (sc, ar)) Q :=
  wq_ok 200 _ _ [(5, 2)] _ _ _ _ _ (show (inR s0) ∧ (s0 = 0 → (Q (some (vI (-9))) (sc, ar))) ∧ (¬ (s0 = 0) → ((cO 6 = 2) ∧ ((aK 96 = 0 ∧ (0 : Int) ≤ x1 ∧ x1 < (8 : Int)) ∧ (Q (some (vI (ar 96 x1.toNat))) (sc, ar))))) from ⟨k.1, fun c1 => (k.2.1 c1), fun c1 => ⟨(by decide), ⟨⟨(by decide), (k.2.2 c1).1, (k.2.2 c1).2.1⟩, (k.2.2 c1).2.2⟩⟩⟩)
theorem sg_Order_placeOf_0 {sc : Nat → Int} {ar : Nat → Nat → Int} {x1 : Int} {Q : Option mV → mH → Prop} (k : Ev 0 M_Order_placeOf (2, [some (vO 3), some (vI x1), some (vI 0)], [], (sc, ar)) Q) :
  Ev 0 M_Order_placeOf (0, [some (vO 3), some (vI x1), none], [], (sc, ar)) Q :=
  wq_ok 200 _ _ [(2, 3)] _ _ _ _ _ (show Ev 0 M_Order_placeOf (2, [some (vO 3), some (vI x1), some (vI 0)], [], (sc, ar)) Q from k)
theorem sg_Order_placeOf_2 {sc : Nat → Int} {ar : Nat → Nat → Int} {x1 x2 : Int} {Q : Option mV → mH → Prop} (k : inR x2 ∧ inR (sc 49) ∧ 
  ((sc 49) ≤ x2 → (Q (some (vI (-9))) (sc, ar))) ∧ 
  (¬ ((sc 49) ≤ x2) → (inR x2 ∧ 
    (8 ≤ x2 → (Q (some (vI (-9))) (sc, ar))) ∧ 
    (¬ (8 ≤ x2) → ((0 : Int) ≤ x2 ∧ x2 < (8 : Int) ∧ 
      (inR (ar 48 x2.toNat) ∧ inR x1 ∧ 
      ((ar 48 x2.toNat) ≠ x1 → (Ev 0 M_Order_placeOf (2, [some (vO 3), some (vI x1), some (vI (x2 + 1))], [], (sc, ar)) Q)) ∧ 
      (¬ ((ar 48 x2.toNat) ≠ x1) → (Q (some (vI x2)) (sc, ar))))))))) :
  Ev 0 M_Order_placeOf (2, [some (vO 3), some (vI x1), some (vI x2)], [], (sc, ar)) Q :=
  wq_ok 200 _ _ [(2, 3)] _ _ _ _ _ (show (cO 3 = 2) ∧ ((inR x2 ∧ inR (sc 49)) ∧ ((sc 49) ≤ x2 → (Q (some (vI (-9))) (sc, ar))) ∧ (¬ ((sc 49) ≤ x2) → ((inR x2 ∧ inR 8) ∧ (8 ≤ x2 → (Q (some (vI (-9))) (sc, ar))) ∧ (¬ (8 ≤ x2) → ((cO 3 = 2) ∧ ((aK 48 = 0 ∧ (0 : Int) ≤ x2 ∧ x2 < (8 : Int)) ∧ ((inR (ar 48 x2.toNat) ∧ inR x1) ∧ ((ar 48 x2.toNat) ≠ x1 → (Ev 0 M_Order_placeOf (2, [some (vO 3), some (vI x1), some (vI (x2 + 1))], [], (sc, ar)) Q)) ∧ (¬ ((ar 48 x2.toNat) ≠ x1) → (Q (some (vI x2)) (sc, ar)))))))))) from ⟨(by decide), ⟨⟨k.1, k.2.1⟩, fun c1 => (k.2.2.1 c1), fun c1 => ⟨⟨(k.2.2.2 c1).1, (by decide)⟩, fun c2 => ((k.2.2.2 c1).2.1 c2), fun c2 => ⟨(by decide), ⟨⟨(by decide), ((k.2.2.2 c1).2.2 c2).1, ((k.2.2.2 c1).2.2 c2).2.1⟩, ⟨⟨((k.2.2.2 c1).2.2 c2).2.2.1, ((k.2.2.2 c1).2.2 c2).2.2.2.1⟩, fun c3 => (((k.2.2.2 c1).2.2 c2).2.2.2.2.1 c3), fun c3 => (((k.2.2.2 c1).2.2 c2).2.2.2.2.2 c3)⟩⟩⟩⟩⟩⟩)
theorem sg_Order_clear_0t {sc : Nat → Int} {ar : Nat → Nat → Int} {Q : Option mV → mH → Prop} (k : Q none ((up sc 49 0), ar)) :
  Ev 0 M_Order_clear (0, [some (vO 3)], [], (sc, ar)) Q :=
  wq_ok 200 _ _ [] _ _ _ _ _ (show (cO 3 = 2) ∧ (Q none ((up sc 49 0), ar)) from ⟨(by decide), k⟩)
theorem sg_Order_clear_0l {sc : Nat → Int} {ar : Nat → Nat → Int} {Q : Option mV → mH → Prop} (k : Q none ((up sc 97 0), ar)) :
  Ev 0 M_Order_clear (0, [some (vO 6)], [], (sc, ar)) Q :=
  wq_ok 200 _ _ [] _ _ _ _ _ (show (cO 6 = 2) ∧ (Q none ((up sc 97 0), ar)) from ⟨(by decide), k⟩)
theorem sg_Order_add_0t {sc : Nat → Int} {ar : Nat → Nat → Int} {x1 : Int} {Q : Option mV → mH → Prop} (k : inR (sc 49) ∧ 
  ((sc 49) < 0 → (Q none (sc, ar))) ∧ 
  (¬ ((sc 49) < 0) → (inR (sc 49) ∧ 
    (8 ≤ (sc 49) → (Q none (sc, ar))) ∧ 
    (¬ (8 ≤ (sc 49)) → ((0 : Int) ≤ (sc 49) ∧ (sc 49) < (8 : Int) ∧ 
      (Q none ((up sc 49 ((sc 49) + 1)), (up ar 48 (up (ar 48) (sc 49).toNat x1))))))))) :
  Ev 0 M_Order_add (0, [some (vO 3), some (vI x1)], [], (sc, ar)) Q :=
  wq_ok 200 _ _ [] _ _ _ _ _ (show (cO 3 = 2) ∧ ((inR (sc 49)) ∧ ((sc 49) < 0 → (Q none (sc, ar))) ∧ (¬ ((sc 49) < 0) → ((cO 3 = 2) ∧ ((inR (sc 49) ∧ inR 8) ∧ (8 ≤ (sc 49) → (Q none (sc, ar))) ∧ (¬ (8 ≤ (sc 49)) → ((cO 3 = 2) ∧ ((cO 3 = 2) ∧ ((aK 48 = 0 ∧ 48 ≠ 999 ∧ (0 : Int) ≤ (sc 49) ∧ (sc 49) < (8 : Int)) ∧ ((cO 3 = 2) ∧ ((cO 3 = 2) ∧ (Q none ((up sc 49 ((sc 49) + 1)), (up ar 48 (up (ar 48) (sc 49).toNat x1)))))))))))))) from ⟨(by decide), ⟨k.1, fun c1 => (k.2.1 c1), fun c1 => ⟨(by decide), ⟨⟨(k.2.2 c1).1, (by decide)⟩, fun c2 => ((k.2.2 c1).2.1 c2), fun c2 => ⟨(by decide), ⟨(by decide), ⟨⟨(by decide), (by decide), ((k.2.2 c1).2.2 c2).1, ((k.2.2 c1).2.2 c2).2.1⟩, ⟨(by decide), ⟨(by decide), ((k.2.2 c1).2.2 c2).2.2⟩⟩⟩⟩⟩⟩⟩⟩⟩)
theorem sg_Order_add_0l {sc : Nat → Int} {ar : Nat → Nat → Int} {x1 : Int} {Q : Option mV → mH → Prop} (k : inR (sc 97) ∧ 
  ((sc 97) < 0 → (Q none (sc, ar))) ∧ 
  (¬ ((sc 97) < 0) → (inR (sc 97) ∧ 
    (8 ≤ (sc 97) → (Q none (sc, ar))) ∧ 
    (¬ (8 ≤ (sc 97)) → ((0 : Int) ≤ (sc 97) ∧ (sc 97) < (8 : Int) ∧ 
      (Q none ((up sc 97 ((sc 97) + 1)), (up ar 96 (up (ar 96) (sc 97).toNat x1))))))))) :
  Ev 0 M_Order_add (0, [some (vO 6), some (vI x1)], [], (sc, ar)) Q :=
  wq_ok 200 _ _ [] _ _ _ _ _ (show (cO 6 = 2) ∧ ((inR (sc 97)) ∧ ((sc 97) < 0 → (Q none (sc, ar))) ∧ (¬ ((sc 97) < 0) → ((cO 6 = 2) ∧ ((inR (sc 97) ∧ inR 8) ∧ (8 ≤ (sc 97) → (Q none (sc, ar))) ∧ (¬ (8 ≤ (sc 97)) → ((cO 6 = 2) ∧ ((cO 6 = 2) ∧ ((aK 96 = 0 ∧ 96 ≠ 999 ∧ (0 : Int) ≤ (sc 97) ∧ (sc 97) < (8 : Int)) ∧ ((cO 6 = 2) ∧ ((cO 6 = 2) ∧ (Q none ((up sc 97 ((sc 97) + 1)), (up ar 96 (up (ar 96) (sc 97).toNat x1)))))))))))))) from ⟨(by decide), ⟨k.1, fun c1 => (k.2.1 c1), fun c1 => ⟨(by decide), ⟨⟨(k.2.2 c1).1, (by decide)⟩, fun c2 => ((k.2.2 c1).2.1 c2), fun c2 => ⟨(by decide), ⟨(by decide), ⟨⟨(by decide), (by decide), ((k.2.2 c1).2.2 c2).1, ((k.2.2 c1).2.2 c2).2.1⟩, ⟨(by decide), ⟨(by decide), ((k.2.2 c1).2.2 c2).2.2⟩⟩⟩⟩⟩⟩⟩⟩⟩)
theorem sg_Order_restart_0 {sc : Nat → Int} {ar : Nat → Nat → Int} {x1 : Int} {Q : Option mV → mH → Prop} (k : Ev 0 M_Order_clear (0, [some (vO 3)], [], (sc, ar)) (fun r1 h1 => Ev 1 M_Order_restart (4, [some (vO 3), some (vI x1), none], mPush r1 [], h1) Q)) :
  Ev 1 M_Order_restart (0, [some (vO 3), some (vI x1), none], [], (sc, ar)) Q :=
  wq_ok 200 _ _ [(4, 2), (6, 3), (16, 3)] _ _ _ _ _ (show (cO 3 = mK M_Order_clear) ∧ (Ev 0 M_Order_clear (0, [some (vO 3)], [], (sc, ar)) (fun r1 h1 => Ev 1 M_Order_restart (4, [some (vO 3), some (vI x1), none], mPush r1 [], h1) Q)) from ⟨(by decide), k⟩)
theorem sg_Order_restart_4 {sc : Nat → Int} {ar : Nat → Nat → Int} {x1 : Int} {Q : Option mV → mH → Prop} (k : Ev 1 M_Order_restart (6, [some (vO 3), some (vI x1), some (vI 0)], [], (sc, ar)) Q) :
  Ev 1 M_Order_restart (4, [some (vO 3), some (vI x1), none], [], (sc, ar)) Q :=
  wq_ok 200 _ _ [(4, 2), (6, 3), (16, 3)] _ _ _ _ _ (show Ev 1 M_Order_restart (6, [some (vO 3), some (vI x1), some (vI 0)], [], (sc, ar)) Q from k)
theorem sg_Order_restart_6 {sc : Nat → Int} {ar : Nat → Nat → Int} {x1 x2 : Int} {Q : Option mV → mH → Prop} (k : inR x2 ∧ inR x1 ∧ 
  (x1 ≤ x2 → (Q none (sc, ar))) ∧ 
  (¬ (x1 ≤ x2) → (Ev 0 M_Order_add (0, [some (vO 3), some (vI x2)], [], (sc, ar)) (fun r1 h1 => Ev 1 M_Order_restart (16, [some (vO 3), some (vI x1), some (vI x2)], mPush r1 [], h1) Q)))) :
  Ev 1 M_Order_restart (6, [some (vO 3), some (vI x1), some (vI x2)], [], (sc, ar)) Q :=
  wq_ok 200 _ _ [(4, 2), (6, 3), (16, 3)] _ _ _ _ _ (show (inR x2 ∧ inR x1) ∧ (x1 ≤ x2 → (Q none (sc, ar))) ∧ (¬ (x1 ≤ x2) → ((cO 3 = mK M_Order_add) ∧ (Ev 0 M_Order_add (0, [some (vO 3), some (vI x2)], [], (sc, ar)) (fun r1 h1 => Ev 1 M_Order_restart (16, [some (vO 3), some (vI x1), some (vI x2)], mPush r1 [], h1) Q)))) from ⟨⟨k.1, k.2.1⟩, fun c1 => (k.2.2.1 c1), fun c1 => ⟨(by decide), (k.2.2.2 c1)⟩⟩)
theorem sg_Order_restart_16 {sc : Nat → Int} {ar : Nat → Nat → Int} {x1 x2 : Int} {Q : Option mV → mH → Prop} (k : Ev 1 M_Order_restart (6, [some (vO 3), some (vI x1), some (vI (x2 + 1))], [], (sc, ar)) Q) :
  Ev 1 M_Order_restart (16, [some (vO 3), some (vI x1), some (vI x2)], [], (sc, ar)) Q :=
  wq_ok 200 _ _ [(4, 2), (6, 3), (16, 3)] _ _ _ _ _ (show Ev 1 M_Order_restart (6, [some (vO 3), some (vI x1), some (vI (x2 + 1))], [], (sc, ar)) Q from k)
theorem sg_Order_become_0 {sc : Nat → Int} {ar : Nat → Nat → Int} {Q : Option mV → mH → Prop} (k : Ev 1 M_Order_clear (0, [some (vO 3)], [], (sc, ar)) (fun r1 h1 => Ev 2 M_Order_become (4, [some (vO 3), some (vO 6), none], mPush r1 [], h1) Q)) :
  Ev 2 M_Order_become (0, [some (vO 3), some (vO 6), none], [], (sc, ar)) Q :=
  wq_ok 200 _ _ [(4, 2), (6, 3), (11, 3), (20, 3), (23, 3)] _ _ _ _ _ (show (cO 3 = mK M_Order_clear) ∧ (Ev 1 M_Order_clear (0, [some (vO 3)], [], (sc, ar)) (fun r1 h1 => Ev 2 M_Order_become (4, [some (vO 3), some (vO 6), none], mPush r1 [], h1) Q)) from ⟨(by decide), k⟩)
theorem sg_Order_become_4 {sc : Nat → Int} {ar : Nat → Nat → Int} {Q : Option mV → mH → Prop} (k : Ev 2 M_Order_become (6, [some (vO 3), some (vO 6), some (vI 0)], [], (sc, ar)) Q) :
  Ev 2 M_Order_become (4, [some (vO 3), some (vO 6), none], [], (sc, ar)) Q :=
  wq_ok 200 _ _ [(4, 2), (6, 3), (11, 3), (20, 3), (23, 3)] _ _ _ _ _ (show Ev 2 M_Order_become (6, [some (vO 3), some (vO 6), some (vI 0)], [], (sc, ar)) Q from k)
theorem sg_Order_become_6 {sc : Nat → Int} {ar : Nat → Nat → Int} {x2 : Int} {Q : Option mV → mH → Prop} (k : Ev 1 M_Order_length (0, [some (vO 6)], [], (sc, ar)) (fun r1 h1 => Ev 2 M_Order_become (11, [some (vO 3), some (vO 6), some (vI x2)], mPush r1 [vI x2], h1) Q)) :
  Ev 2 M_Order_become (6, [some (vO 3), some (vO 6), some (vI x2)], [], (sc, ar)) Q :=
  wq_ok 200 _ _ [(4, 2), (6, 3), (11, 3), (20, 3), (23, 3)] _ _ _ _ _ (show (cO 6 = mK M_Order_length) ∧ (Ev 1 M_Order_length (0, [some (vO 6)], [], (sc, ar)) (fun r1 h1 => Ev 2 M_Order_become (11, [some (vO 3), some (vO 6), some (vI x2)], mPush r1 [vI x2], h1) Q)) from ⟨(by decide), k⟩)
theorem sg_Order_become_11 {sc : Nat → Int} {ar : Nat → Nat → Int} {x2 s0 s1 : Int} {Q : Option mV → mH → Prop} (k : inR s1 ∧ inR s0 ∧ 
  (s0 ≤ s1 → (Q none (sc, ar))) ∧ 
  (¬ (s0 ≤ s1) → (Ev 1 M_Order_taskAt (0, [some (vO 6), some (vI x2)], [], (sc, ar)) (fun r1 h1 => Ev 2 M_Order_become (20, [some (vO 3), some (vO 6), some (vI x2)], mPush r1 [vO 3], h1) Q)))) :
  Ev 2 M_Order_become (11, [some (vO 3), some (vO 6), some (vI x2)], [vI s0, vI s1], (sc, ar)) Q :=
  wq_ok 200 _ _ [(4, 2), (6, 3), (11, 3), (20, 3), (23, 3)] _ _ _ _ _ (show (inR s1 ∧ inR s0) ∧ (s0 ≤ s1 → (Q none (sc, ar))) ∧ (¬ (s0 ≤ s1) → ((cO 6 = mK M_Order_taskAt) ∧ (Ev 1 M_Order_taskAt (0, [some (vO 6), some (vI x2)], [], (sc, ar)) (fun r1 h1 => Ev 2 M_Order_become (20, [some (vO 3), some (vO 6), some (vI x2)], mPush r1 [vO 3], h1) Q)))) from ⟨⟨k.1, k.2.1⟩, fun c1 => (k.2.2.1 c1), fun c1 => ⟨(by decide), (k.2.2.2 c1)⟩⟩)
theorem sg_Order_become_20 {sc : Nat → Int} {ar : Nat → Nat → Int} {x2 s0 : Int} {Q : Option mV → mH → Prop} (k : Ev 1 M_Order_add (0, [some (vO 3), some (vI s0)], [], (sc, ar)) (fun r1 h1 => Ev 2 M_Order_become (23, [some (vO 3), some (vO 6), some (vI x2)], mPush r1 [], h1) Q)) :
  Ev 2 M_Order_become (20, [some (vO 3), some (vO 6), some (vI x2)], [vI s0, vO 3], (sc, ar)) Q :=
  wq_ok 200 _ _ [(4, 2), (6, 3), (11, 3), (20, 3), (23, 3)] _ _ _ _ _ (show (cO 3 = mK M_Order_add) ∧ (Ev 1 M_Order_add (0, [some (vO 3), some (vI s0)], [], (sc, ar)) (fun r1 h1 => Ev 2 M_Order_become (23, [some (vO 3), some (vO 6), some (vI x2)], mPush r1 [], h1) Q)) from ⟨(by decide), k⟩)
theorem sg_Order_become_23 {sc : Nat → Int} {ar : Nat → Nat → Int} {x2 : Int} {Q : Option mV → mH → Prop} (k : Ev 2 M_Order_become (6, [some (vO 3), some (vO 6), some (vI (x2 + 1))], [], (sc, ar)) Q) :
  Ev 2 M_Order_become (23, [some (vO 3), some (vO 6), some (vI x2)], [], (sc, ar)) Q :=
  wq_ok 200 _ _ [(4, 2), (6, 3), (11, 3), (20, 3), (23, 3)] _ _ _ _ _ (show Ev 2 M_Order_become (6, [some (vO 3), some (vO 6), some (vI (x2 + 1))], [], (sc, ar)) Q from k)
theorem sg_Order_exchange_0 {sc : Nat → Int} {ar : Nat → Nat → Int} {x1 x2 : Int} {Q : Option mV → mH → Prop} (k : Ev 0 M_Order_hasPlace (0, [some (vO 3), some (vI x1)], [], (sc, ar)) (fun r1 h1 => Ev 1 M_Order_exchange (5, [some (vO 3), some (vI x1), some (vI x2), none], mPush r1 [], h1) Q)) :
  Ev 1 M_Order_exchange (0, [some (vO 3), some (vI x1), some (vI x2), none], [], (sc, ar)) Q :=
  wq_ok 200 _ _ [(5, 3), (13, 3)] _ _ _ _ _ (show (cO 3 = mK M_Order_hasPlace) ∧ (Ev 0 M_Order_hasPlace (0, [some (vO 3), some (vI x1)], [], (sc, ar)) (fun r1 h1 => Ev 1 M_Order_exchange (5, [some (vO 3), some (vI x1), some (vI x2), none], mPush r1 [], h1) Q)) from ⟨(by decide), k⟩)
theorem sg_Order_exchange_5 {sc : Nat → Int} {ar : Nat → Nat → Int} {x1 x2 s0 : Int} {Q : Option mV → mH → Prop} (k : inR s0 ∧ 
  (s0 = 0 → (Q none (sc, ar))) ∧ 
  (¬ (s0 = 0) → (Ev 0 M_Order_hasPlace (0, [some (vO 3), some (vI x2)], [], (sc, ar)) (fun r1 h1 => Ev 1 M_Order_exchange (13, [some (vO 3), some (vI x1), some (vI x2), none], mPush r1 [], h1) Q)))) :
  Ev 1 M_Order_exchange (5, [some (vO 3), some (vI x1), some (vI x2), none], [vI s0], (sc, ar)) Q :=
  wq_ok 200 _ _ [(5, 3), (13, 3)] _ _ _ _ _ (show (inR s0) ∧ (s0 = 0 → (Q none (sc, ar))) ∧ (¬ (s0 = 0) → ((cO 3 = mK M_Order_hasPlace) ∧ (Ev 0 M_Order_hasPlace (0, [some (vO 3), some (vI x2)], [], (sc, ar)) (fun r1 h1 => Ev 1 M_Order_exchange (13, [some (vO 3), some (vI x1), some (vI x2), none], mPush r1 [], h1) Q)))) from ⟨k.1, fun c1 => (k.2.1 c1), fun c1 => ⟨(by decide), (k.2.2 c1)⟩⟩)
theorem sg_Order_exchange_13 {sc : Nat → Int} {ar : Nat → Nat → Int} {x1 x2 s0 : Int} {Q : Option mV → mH → Prop} (k : inR s0 ∧ 
  (s0 = 0 → (Q none (sc, ar))) ∧ 
  (¬ (s0 = 0) → ((0 : Int) ≤ x1 ∧ x1 < (8 : Int) ∧ 
    ((0 : Int) ≤ x2 ∧ x2 < (8 : Int) ∧ 
    ((0 : Int) ≤ x1 ∧ x1 < (8 : Int) ∧ 
    ((0 : Int) ≤ x2 ∧ x2 < (8 : Int) ∧ 
    (Q none (sc, (up (up ar 48 (up (ar 48) x1.toNat (ar 48 x2.toNat))) 48 (up (up (ar 48) x1.toNat (ar 48 x2.toNat)) x2.toNat (ar 48 x1.toNat))))))))))) :
  Ev 1 M_Order_exchange (13, [some (vO 3), some (vI x1), some (vI x2), none], [vI s0], (sc, ar)) Q :=
  wq_ok 200 _ _ [(5, 3), (13, 3)] _ _ _ _ _ (show (inR s0) ∧ (s0 = 0 → (Q none (sc, ar))) ∧ (¬ (s0 = 0) → ((cO 3 = 2) ∧ ((aK 48 = 0 ∧ (0 : Int) ≤ x1 ∧ x1 < (8 : Int)) ∧ ((cO 3 = 2) ∧ ((cO 3 = 2) ∧ ((aK 48 = 0 ∧ (0 : Int) ≤ x2 ∧ x2 < (8 : Int)) ∧ ((aK 48 = 0 ∧ 48 ≠ 999 ∧ (0 : Int) ≤ x1 ∧ x1 < (8 : Int)) ∧ ((cO 3 = 2) ∧ ((aK 48 = 0 ∧ 48 ≠ 999 ∧ (0 : Int) ≤ x2 ∧ x2 < (8 : Int)) ∧ (Q none (sc, (up (up ar 48 (up (ar 48) x1.toNat (ar 48 x2.toNat))) 48 (up (up (ar 48) x1.toNat (ar 48 x2.toNat)) x2.toNat (ar 48 x1.toNat)))))))))))))) from ⟨k.1, fun c1 => (k.2.1 c1), fun c1 => ⟨(by decide), ⟨⟨(by decide), (k.2.2 c1).1, (k.2.2 c1).2.1⟩, ⟨(by decide), ⟨(by decide), ⟨⟨(by decide), (k.2.2 c1).2.2.1, (k.2.2 c1).2.2.2.1⟩, ⟨⟨(by decide), (by decide), (k.2.2 c1).2.2.2.2.1, (k.2.2 c1).2.2.2.2.2.1⟩, ⟨(by decide), ⟨⟨(by decide), (by decide), (k.2.2 c1).2.2.2.2.2.2.1, (k.2.2 c1).2.2.2.2.2.2.2.1⟩, (k.2.2 c1).2.2.2.2.2.2.2.2⟩⟩⟩⟩⟩⟩⟩⟩⟩)
theorem sg_Order_guessOf_0 {sc : Nat → Int} {ar : Nat → Nat → Int} {Q : Option mV → mH → Prop} (k : Ev 2 M_Order_guessOf (4, [some (vO 3), some (vO 1), some (vI 0), some (vI 0), none], [], (sc, ar)) Q) :
  Ev 2 M_Order_guessOf (0, [some (vO 3), some (vO 1), none, none, none], [], (sc, ar)) Q :=
  wq_ok 200 _ _ [(4, 4), (17, 5), (33, 5), (39, 5), (42, 5)] _ _ _ _ _ (show Ev 2 M_Order_guessOf (4, [some (vO 3), some (vO 1), some (vI 0), some (vI 0), none], [], (sc, ar)) Q from k)
theorem sg_Order_guessOf_4 {sc : Nat → Int} {ar : Nat → Nat → Int} {x2 x3 : Int} {Q : Option mV → mH → Prop} (k : inR x3 ∧ inR (sc 49) ∧ 
  ((sc 49) ≤ x3 → (Q (some (vI x2)) (sc, ar))) ∧ 
  (¬ ((sc 49) ≤ x3) → (Ev 2 M_Order_guessOf (17, [some (vO 3), some (vO 1), some (vI x2), some (vI x3), some (vI (x3 + 1))], [], (sc, ar)) Q))) :
  Ev 2 M_Order_guessOf (4, [some (vO 3), some (vO 1), some (vI x2), some (vI x3), none], [], (sc, ar)) Q :=
  wq_ok 200 _ _ [(4, 4), (17, 5), (33, 5), (39, 5), (42, 5)] _ _ _ _ _ (show (cO 3 = 2) ∧ ((inR x3 ∧ inR (sc 49)) ∧ ((sc 49) ≤ x3 → (Q (some (vI x2)) (sc, ar))) ∧ (¬ ((sc 49) ≤ x3) → (Ev 2 M_Order_guessOf (17, [some (vO 3), some (vO 1), some (vI x2), some (vI x3), some (vI (x3 + 1))], [], (sc, ar)) Q))) from ⟨(by decide), ⟨⟨k.1, k.2.1⟩, fun c1 => (k.2.2.1 c1), fun c1 => (k.2.2.2 c1)⟩⟩)
theorem sg_Order_guessOf_17 {sc : Nat → Int} {ar : Nat → Nat → Int} {x2 x3 x4 : Int} {Q : Option mV → mH → Prop} (k : inR x4 ∧ inR (sc 49) ∧ 
  ((sc 49) ≤ x4 → (Ev 2 M_Order_guessOf (4, [some (vO 3), some (vO 1), some (vI x2), some (vI (x3 + 1)), none], [], (sc, ar)) Q)) ∧ 
  (¬ ((sc 49) ≤ x4) → (Ev 1 M_Order_taskAt (0, [some (vO 3), some (vI x3)], [], (sc, ar)) (fun r1 h1 => Ev 2 M_Order_guessOf (33, [some (vO 3), some (vO 1), some (vI x2), some (vI x3), some (vI x4)], mPush r1 [vO 1, vI x2], h1) Q)))) :
  Ev 2 M_Order_guessOf (17, [some (vO 3), some (vO 1), some (vI x2), some (vI x3), some (vI x4)], [], (sc, ar)) Q :=
  wq_ok 200 _ _ [(4, 4), (17, 5), (33, 5), (39, 5), (42, 5)] _ _ _ _ _ (show (cO 3 = 2) ∧ ((inR x4 ∧ inR (sc 49)) ∧ ((sc 49) ≤ x4 → (Ev 2 M_Order_guessOf (4, [some (vO 3), some (vO 1), some (vI x2), some (vI (x3 + 1)), none], [], (sc, ar)) Q)) ∧ (¬ ((sc 49) ≤ x4) → ((cO 3 = mK M_Order_taskAt) ∧ (Ev 1 M_Order_taskAt (0, [some (vO 3), some (vI x3)], [], (sc, ar)) (fun r1 h1 => Ev 2 M_Order_guessOf (33, [some (vO 3), some (vO 1), some (vI x2), some (vI x3), some (vI x4)], mPush r1 [vO 1, vI x2], h1) Q))))) from ⟨(by decide), ⟨⟨k.1, k.2.1⟩, fun c1 => (k.2.2.1 c1), fun c1 => ⟨(by decide), (k.2.2.2 c1)⟩⟩⟩)
theorem sg_Order_guessOf_33 {sc : Nat → Int} {ar : Nat → Nat → Int} {x2 x3 x4 s0 s2 : Int} {Q : Option mV → mH → Prop} (k : Ev 1 M_Order_taskAt (0, [some (vO 3), some (vI x4)], [], (sc, ar)) (fun r1 h1 => Ev 2 M_Order_guessOf (39, [some (vO 3), some (vO 1), some (vI x2), some (vI x3), some (vI x4)], mPush r1 [vI s0, vO 1, vI s2], h1) Q)) :
  Ev 2 M_Order_guessOf (33, [some (vO 3), some (vO 1), some (vI x2), some (vI x3), some (vI x4)], [vI s0, vO 1, vI s2], (sc, ar)) Q :=
  wq_ok 200 _ _ [(4, 4), (17, 5), (33, 5), (39, 5), (42, 5)] _ _ _ _ _ (show (cO 3 = mK M_Order_taskAt) ∧ (Ev 1 M_Order_taskAt (0, [some (vO 3), some (vI x4)], [], (sc, ar)) (fun r1 h1 => Ev 2 M_Order_guessOf (39, [some (vO 3), some (vO 1), some (vI x2), some (vI x3), some (vI x4)], mPush r1 [vI s0, vO 1, vI s2], h1) Q)) from ⟨(by decide), k⟩)
theorem sg_Order_guessOf_39 {sc : Nat → Int} {ar : Nat → Nat → Int} {x2 x3 x4 s0 s1 s3 : Int} {Q : Option mV → mH → Prop} (k : Ev 1 M_Table_get (0, [some (vO 1), some (vI s1), some (vI s0)], [], (sc, ar)) (fun r1 h1 => Ev 2 M_Order_guessOf (42, [some (vO 3), some (vO 1), some (vI x2), some (vI x3), some (vI x4)], mPush r1 [vI s3], h1) Q)) :
  Ev 2 M_Order_guessOf (39, [some (vO 3), some (vO 1), some (vI x2), some (vI x3), some (vI x4)], [vI s0, vI s1, vO 1, vI s3], (sc, ar)) Q :=
  wq_ok 200 _ _ [(4, 4), (17, 5), (33, 5), (39, 5), (42, 5)] _ _ _ _ _ (show (cO 1 = mK M_Table_get) ∧ (Ev 1 M_Table_get (0, [some (vO 1), some (vI s1), some (vI s0)], [], (sc, ar)) (fun r1 h1 => Ev 2 M_Order_guessOf (42, [some (vO 3), some (vO 1), some (vI x2), some (vI x3), some (vI x4)], mPush r1 [vI s3], h1) Q)) from ⟨(by decide), k⟩)
theorem sg_Order_guessOf_42 {sc : Nat → Int} {ar : Nat → Nat → Int} {x2 x3 x4 s0 s1 : Int} {Q : Option mV → mH → Prop} (k : Ev 2 M_Order_guessOf (17, [some (vO 3), some (vO 1), some (vI (s1 + s0)), some (vI x3), some (vI (x4 + 1))], [], (sc, ar)) Q) :
  Ev 2 M_Order_guessOf (42, [some (vO 3), some (vO 1), some (vI x2), some (vI x3), some (vI x4)], [vI s0, vI s1], (sc, ar)) Q :=
  wq_ok 200 _ _ [(4, 4), (17, 5), (33, 5), (39, 5), (42, 5)] _ _ _ _ _ (show Ev 2 M_Order_guessOf (17, [some (vO 3), some (vO 1), some (vI (s1 + s0)), some (vI x3), some (vI (x4 + 1))], [], (sc, ar)) Q from k)
theorem sg_Beside_endAt_0 {sc : Nat → Int} {ar : Nat → Nat → Int} {x1 : Int} {Q : Option mV → mH → Prop} (k : Ev 0 M_Dt_valueOf (0, [some (vA 128), some (vI x1)], [], (sc, ar)) (fun r1 h1 => Ev 1 M_Beside_endAt (8, [some (vO 8), some (vI x1)], mPush r1 [], h1) Q)) :
  Ev 1 M_Beside_endAt (0, [some (vO 8), some (vI x1)], [], (sc, ar)) Q :=
  wq_ok 200 _ _ [(8, 2)] _ _ _ _ _ (show (cO 8 = 0) ∧ (Ev 0 M_Dt_valueOf (0, [some (vA 128), some (vI x1)], [], (sc, ar)) (fun r1 h1 => Ev 1 M_Beside_endAt (8, [some (vO 8), some (vI x1)], mPush r1 [], h1) Q)) from ⟨(by decide), k⟩)
theorem sg_Beside_endAt_8 {sc : Nat → Int} {ar : Nat → Nat → Int} {x1 s0 : Int} {Q : Option mV → mH → Prop} (k : Q (some (vI s0)) (sc, ar)) :
  Ev 1 M_Beside_endAt (8, [some (vO 8), some (vI x1)], [vI s0], (sc, ar)) Q :=
  wq_ok 200 _ _ [(8, 2)] _ _ _ _ _ (show Q (some (vI s0)) (sc, ar) from k)
theorem sg_Beside_latest_0 {sc : Nat → Int} {ar : Nat → Nat → Int} {Q : Option mV → mH → Prop} (k : Ev 0 M_Beside_latest (13, [some (vO 8), some (vI 0), some (vA 128), some (vI 8), some (vI 0), none], [], (sc, ar)) Q) :
  Ev 0 M_Beside_latest (0, [some (vO 8), none, none, none, none, none], [], (sc, ar)) Q :=
  wq_ok 200 _ _ [(13, 5)] _ _ _ _ _ (show (cO 8 = 0) ∧ ((aK 128 ≤ 2) ∧ (Ev 0 M_Beside_latest (13, [some (vO 8), some (vI 0), some (vA 128), some (vI 8), some (vI 0), none], [], (sc, ar)) Q)) from ⟨(by decide), ⟨(by decide), k⟩⟩)
theorem sg_Beside_latest_13 {sc : Nat → Int} {ar : Nat → Nat → Int} {x1 x3 x4 : Int} {Q : Option mV → mH → Prop} (k : inR x4 ∧ inR x3 ∧ 
  (x3 ≤ x4 → (Q (some (vI x1)) (sc, ar))) ∧ 
  (¬ (x3 ≤ x4) → ((0 : Int) ≤ x4 ∧ x4 < (8 : Int) ∧ 
    (inR x1 ∧ inR (ar 128 x4.toNat) ∧ 
    (Ev 0 M_Beside_latest (13, [some (vO 8), some (vI (if x1 < (ar 128 x4.toNat) then (ar 128 x4.toNat) else x1)), some (vA 128), some (vI x3), some (vI (x4 + 1)), none], [], (sc, ar)) Q))))) :
  Ev 0 M_Beside_latest (13, [some (vO 8), some (vI x1), some (vA 128), some (vI x3), some (vI x4), none], [], (sc, ar)) Q :=
  wq_ok 200 _ _ [(13, 5)] _ _ _ _ _ (show (inR x4 ∧ inR x3) ∧ (x3 ≤ x4 → (Q (some (vI x1)) (sc, ar))) ∧ (¬ (x3 ≤ x4) → ((aK 128 = 0 ∧ (0 : Int) ≤ x4 ∧ x4 < (8 : Int)) ∧ ((inR x1 ∧ inR (ar 128 x4.toNat) ∧ mCat [] ≤ 8) ∧ (Ev 0 M_Beside_latest (13, [some (vO 8), some (vI (if x1 < (ar 128 x4.toNat) then (ar 128 x4.toNat) else x1)), some (vA 128), some (vI x3), some (vI (x4 + 1)), none], [], (sc, ar)) Q)))) from ⟨⟨k.1, k.2.1⟩, fun c1 => (k.2.2.1 c1), fun c1 => ⟨⟨(by decide), (k.2.2.2 c1).1, (k.2.2.2 c1).2.1⟩, ⟨⟨(k.2.2.2 c1).2.2.1, (k.2.2.2 c1).2.2.2.1, (Nat.le_of_ble_eq_true rfl)⟩, (k.2.2.2 c1).2.2.2.2⟩⟩⟩)
theorem sg_Beside_reckon_0 {sc : Nat → Int} {ar : Nat → Nat → Int} {Q : Option mV → mH → Prop} (k : Ev 1 M_Arr_fillI (0, [some (vA 128), some (vI 0), none, none], [], (sc, ar)) (fun r1 h1 => Ev 2 M_Beside_reckon (8, [some (vO 8), some (vO 3), some (vO 1), some (vA 0), none, none, none, none], mPush r1 [], h1) Q)) :
  Ev 2 M_Beside_reckon (0, [some (vO 8), some (vO 3), some (vO 1), some (vA 0), none, none, none, none], [], (sc, ar)) Q :=
  wq_ok 200 _ _ [(8, 4), (11, 5), (17, 5), (33, 5), (41, 8), (57, 8), (60, 8), (97, 8)] _ _ _ _ _ (show (cO 8 = 0) ∧ (Ev 1 M_Arr_fillI (0, [some (vA 128), some (vI 0), none, none], [], (sc, ar)) (fun r1 h1 => Ev 2 M_Beside_reckon (8, [some (vO 8), some (vO 3), some (vO 1), some (vA 0), none, none, none, none], mPush r1 [], h1) Q)) from ⟨(by decide), k⟩)
theorem sg_Beside_reckon_8 {sc : Nat → Int} {ar : Nat → Nat → Int} {Q : Option mV → mH → Prop} (k : Ev 2 M_Beside_reckon (11, [some (vO 8), some (vO 3), some (vO 1), some (vA 0), some (vI 0), none, none, none], [], (sc, ar)) Q) :
  Ev 2 M_Beside_reckon (8, [some (vO 8), some (vO 3), some (vO 1), some (vA 0), none, none, none, none], [], (sc, ar)) Q :=
  wq_ok 200 _ _ [(8, 4), (11, 5), (17, 5), (33, 5), (41, 8), (57, 8), (60, 8), (97, 8)] _ _ _ _ _ (show Ev 2 M_Beside_reckon (11, [some (vO 8), some (vO 3), some (vO 1), some (vA 0), some (vI 0), none, none, none], [], (sc, ar)) Q from k)
theorem sg_Beside_reckon_11 {sc : Nat → Int} {ar : Nat → Nat → Int} {x4 : Int} {Q : Option mV → mH → Prop} (k : Ev 1 M_Order_length (0, [some (vO 3)], [], (sc, ar)) (fun r1 h1 => Ev 2 M_Beside_reckon (17, [some (vO 8), some (vO 3), some (vO 1), some (vA 0), some (vI x4), none, none, none], mPush r1 [vI x4], h1) Q)) :
  Ev 2 M_Beside_reckon (11, [some (vO 8), some (vO 3), some (vO 1), some (vA 0), some (vI x4), none, none, none], [], (sc, ar)) Q :=
  wq_ok 200 _ _ [(8, 4), (11, 5), (17, 5), (33, 5), (41, 8), (57, 8), (60, 8), (97, 8)] _ _ _ _ _ (show (cO 3 = mK M_Order_length) ∧ (Ev 1 M_Order_length (0, [some (vO 3)], [], (sc, ar)) (fun r1 h1 => Ev 2 M_Beside_reckon (17, [some (vO 8), some (vO 3), some (vO 1), some (vA 0), some (vI x4), none, none, none], mPush r1 [vI x4], h1) Q)) from ⟨(by decide), k⟩)
theorem sg_Beside_reckon_17 {sc : Nat → Int} {ar : Nat → Nat → Int} {x4 s0 s1 : Int} {Q : Option mV → mH → Prop} (k : inR s1 ∧ inR s0 ∧ 
  (s0 ≤ s1 → (Q none (sc, ar))) ∧ 
  (¬ (s0 ≤ s1) → (inR x4 ∧ 
    (8 ≤ x4 → (Q none (sc, ar))) ∧ 
    (¬ (8 ≤ x4) → (Ev 1 M_Order_taskAt (0, [some (vO 3), some (vI x4)], [], (sc, ar)) (fun r1 h1 => Ev 2 M_Beside_reckon (33, [some (vO 8), some (vO 3), some (vO 1), some (vA 0), some (vI x4), none, none, none], mPush r1 [], h1) Q)))))) :
  Ev 2 M_Beside_reckon (17, [some (vO 8), some (vO 3), some (vO 1), some (vA 0), some (vI x4), none, none, none], [vI s0, vI s1], (sc, ar)) Q :=
  wq_ok 200 _ _ [(8, 4), (11, 5), (17, 5), (33, 5), (41, 8), (57, 8), (60, 8), (97, 8)] _ _ _ _ _ (show (inR s1 ∧ inR s0) ∧ (s0 ≤ s1 → (Q none (sc, ar))) ∧ (¬ (s0 ≤ s1) → ((inR x4 ∧ inR 8) ∧ (8 ≤ x4 → (Q none (sc, ar))) ∧ (¬ (8 ≤ x4) → ((cO 3 = mK M_Order_taskAt) ∧ (Ev 1 M_Order_taskAt (0, [some (vO 3), some (vI x4)], [], (sc, ar)) (fun r1 h1 => Ev 2 M_Beside_reckon (33, [some (vO 8), some (vO 3), some (vO 1), some (vA 0), some (vI x4), none, none, none], mPush r1 [], h1) Q)))))) from ⟨⟨k.1, k.2.1⟩, fun c1 => (k.2.2.1 c1), fun c1 => ⟨⟨(k.2.2.2 c1).1, (by decide)⟩, fun c2 => ((k.2.2.2 c1).2.1 c2), fun c2 => ⟨(by decide), ((k.2.2.2 c1).2.2 c2)⟩⟩⟩)
theorem sg_Beside_reckon_33 {sc : Nat → Int} {ar : Nat → Nat → Int} {x4 s0 : Int} {Q : Option mV → mH → Prop} (k : Ev 2 M_Beside_reckon (41, [some (vO 8), some (vO 3), some (vO 1), some (vA 0), some (vI x4), some (vI s0), some (vI 0), some (vI 0)], [], (sc, ar)) Q) :
  Ev 2 M_Beside_reckon (33, [some (vO 8), some (vO 3), some (vO 1), some (vA 0), some (vI x4), none, none, none], [vI s0], (sc, ar)) Q :=
  wq_ok 200 _ _ [(8, 4), (11, 5), (17, 5), (33, 5), (41, 8), (57, 8), (60, 8), (97, 8)] _ _ _ _ _ (show Ev 2 M_Beside_reckon (41, [some (vO 8), some (vO 3), some (vO 1), some (vA 0), some (vI x4), some (vI s0), some (vI 0), some (vI 0)], [], (sc, ar)) Q from k)
theorem sg_Beside_reckon_41 {sc : Nat → Int} {ar : Nat → Nat → Int} {x4 x5 x6 x7 : Int} {Q : Option mV → mH → Prop} (k : inR x7 ∧ inR x4 ∧ 
  (x4 ≤ x7 → (Ev 1 M_Dt_valueOf (0, [some (vA 0), some (vI x5)], [], (sc, ar)) (fun r1 h1 => Ev 2 M_Beside_reckon (97, [some (vO 8), some (vO 3), some (vO 1), some (vA 0), some (vI x4), some (vI x5), some (vI x6), some (vI x7)], mPush r1 [vI x6, vI x4, vA 128], h1) Q))) ∧ 
  (¬ (x4 ≤ x7) → (Ev 1 M_Order_taskAt (0, [some (vO 3), some (vI x7)], [], (sc, ar)) (fun r1 h1 => Ev 2 M_Beside_reckon (57, [some (vO 8), some (vO 3), some (vO 1), some (vA 0), some (vI x4), some (vI x5), some (vI x6), some (vI x7)], mPush r1 [vI x5, vO 1], h1) Q)))) :
  Ev 2 M_Beside_reckon (41, [some (vO 8), some (vO 3), some (vO 1), some (vA 0), some (vI x4), some (vI x5), some (vI x6), some (vI x7)], [], (sc, ar)) Q :=
  wq_ok 200 _ _ [(8, 4), (11, 5), (17, 5), (33, 5), (41, 8), (57, 8), (60, 8), (97, 8)] _ _ _ _ _ (show (inR x7 ∧ inR x4) ∧ (x4 ≤ x7 → ((cO 8 = 0) ∧ (Ev 1 M_Dt_valueOf (0, [some (vA 0), some (vI x5)], [], (sc, ar)) (fun r1 h1 => Ev 2 M_Beside_reckon (97, [some (vO 8), some (vO 3), some (vO 1), some (vA 0), some (vI x4), some (vI x5), some (vI x6), some (vI x7)], mPush r1 [vI x6, vI x4, vA 128], h1) Q)))) ∧ (¬ (x4 ≤ x7) → ((cO 3 = mK M_Order_taskAt) ∧ (Ev 1 M_Order_taskAt (0, [some (vO 3), some (vI x7)], [], (sc, ar)) (fun r1 h1 => Ev 2 M_Beside_reckon (57, [some (vO 8), some (vO 3), some (vO 1), some (vA 0), some (vI x4), some (vI x5), some (vI x6), some (vI x7)], mPush r1 [vI x5, vO 1], h1) Q)))) from ⟨⟨k.1, k.2.1⟩, fun c1 => ⟨(by decide), (k.2.2.1 c1)⟩, fun c1 => ⟨(by decide), (k.2.2.2 c1)⟩⟩)
theorem sg_Beside_reckon_57 {sc : Nat → Int} {ar : Nat → Nat → Int} {x4 x5 x6 x7 s0 s1 : Int} {Q : Option mV → mH → Prop} (k : Ev 1 M_Table_get (0, [some (vO 1), some (vI s1), some (vI s0)], [], (sc, ar)) (fun r1 h1 => Ev 2 M_Beside_reckon (60, [some (vO 8), some (vO 3), some (vO 1), some (vA 0), some (vI x4), some (vI x5), some (vI x6), some (vI x7)], mPush r1 [], h1) Q)) :
  Ev 2 M_Beside_reckon (57, [some (vO 8), some (vO 3), some (vO 1), some (vA 0), some (vI x4), some (vI x5), some (vI x6), some (vI x7)], [vI s0, vI s1, vO 1], (sc, ar)) Q :=
  wq_ok 200 _ _ [(8, 4), (11, 5), (17, 5), (33, 5), (41, 8), (57, 8), (60, 8), (97, 8)] _ _ _ _ _ (show (cO 1 = mK M_Table_get) ∧ (Ev 1 M_Table_get (0, [some (vO 1), some (vI s1), some (vI s0)], [], (sc, ar)) (fun r1 h1 => Ev 2 M_Beside_reckon (60, [some (vO 8), some (vO 3), some (vO 1), some (vA 0), some (vI x4), some (vI x5), some (vI x6), some (vI x7)], mPush r1 [], h1) Q)) from ⟨(by decide), k⟩)
theorem sg_Beside_reckon_60 {sc : Nat → Int} {ar : Nat → Nat → Int} {x4 x5 x6 x7 s0 : Int} {Q : Option mV → mH → Prop} (k : inR s0 ∧ 
  (s0 ≤ 0 → (Ev 2 M_Beside_reckon (41, [some (vO 8), some (vO 3), some (vO 1), some (vA 0), some (vI x4), some (vI x5), some (vI x6), some (vI (x7 + 1))], [], (sc, ar)) Q)) ∧ 
  (¬ (s0 ≤ 0) → ((0 : Int) ≤ x7 ∧ x7 < (8 : Int) ∧ 
    (inR x6 ∧ inR (ar 128 x7.toNat) ∧ 
    (Ev 2 M_Beside_reckon (41, [some (vO 8), some (vO 3), some (vO 1), some (vA 0), some (vI x4), some (vI x5), some (vI (if x6 < (ar 128 x7.toNat) then (ar 128 x7.toNat) else x6)), some (vI (x7 + 1))], [], (sc, ar)) Q))))) :
  Ev 2 M_Beside_reckon (60, [some (vO 8), some (vO 3), some (vO 1), some (vA 0), some (vI x4), some (vI x5), some (vI x6), some (vI x7)], [vI s0], (sc, ar)) Q :=
  wq_ok 200 _ _ [(8, 4), (11, 5), (17, 5), (33, 5), (41, 8), (57, 8), (60, 8), (97, 8)] _ _ _ _ _ (show (inR s0) ∧ (s0 ≤ 0 → (Ev 2 M_Beside_reckon (41, [some (vO 8), some (vO 3), some (vO 1), some (vA 0), some (vI x4), some (vI x5), some (vI x6), some (vI (x7 + 1))], [], (sc, ar)) Q)) ∧ (¬ (s0 ≤ 0) → ((cO 8 = 0) ∧ ((aK 128 = 0 ∧ (0 : Int) ≤ x7 ∧ x7 < (8 : Int)) ∧ ((inR x6 ∧ inR (ar 128 x7.toNat) ∧ mCat [] ≤ 8) ∧ (Ev 2 M_Beside_reckon (41, [some (vO 8), some (vO 3), some (vO 1), some (vA 0), some (vI x4), some (vI x5), some (vI (if x6 < (ar 128 x7.toNat) then (ar 128 x7.toNat) else x6)), some (vI (x7 + 1))], [], (sc, ar)) Q))))) from ⟨k.1, fun c1 => (k.2.1 c1), fun c1 => ⟨(by decide), ⟨⟨(by decide), (k.2.2 c1).1, (k.2.2 c1).2.1⟩, ⟨⟨(k.2.2 c1).2.2.1, (k.2.2 c1).2.2.2.1, (Nat.le_of_ble_eq_true rfl)⟩, (k.2.2 c1).2.2.2.2⟩⟩⟩⟩)
theorem sg_Beside_reckon_97 {sc : Nat → Int} {ar : Nat → Nat → Int} {x4 x5 x6 x7 s0 s1 s2 : Int} {Q : Option mV → mH → Prop} (k : (0 : Int) ≤ s2 ∧ s2 < (8 : Int) ∧ 
  (Ev 2 M_Beside_reckon (11, [some (vO 8), some (vO 3), some (vO 1), some (vA 0), some (vI (x4 + 1)), none, none, none], [], (sc, (up ar 128 (up (ar 128) s2.toNat (s1 + s0))))) Q)) :
  Ev 2 M_Beside_reckon (97, [some (vO 8), some (vO 3), some (vO 1), some (vA 0), some (vI x4), some (vI x5), some (vI x6), some (vI x7)], [vI s0, vI s1, vI s2, vA 128], (sc, ar)) Q :=
  wq_ok 200 _ _ [(8, 4), (11, 5), (17, 5), (33, 5), (41, 8), (57, 8), (60, 8), (97, 8)] _ _ _ _ _ (show (aK 128 = 0 ∧ 128 ≠ 999 ∧ (0 : Int) ≤ s2 ∧ s2 < (8 : Int)) ∧ (Ev 2 M_Beside_reckon (11, [some (vO 8), some (vO 3), some (vO 1), some (vA 0), some (vI (x4 + 1)), none, none, none], [], (sc, (up ar 128 (up (ar 128) s2.toNat (s1 + s0))))) Q) from ⟨⟨(by decide), (by decide), k.1, k.2.1⟩, k.2.2⟩)
theorem sg_Spread_forceAt_0 {sc : Nat → Int} {ar : Nat → Nat → Int} {x1 : Int} {Q : Option mV → mH → Prop} (k : Ev 0 M_Dt_valueOf (0, [some (vA 160), some (vI x1)], [], (sc, ar)) (fun r1 h1 => Ev 1 M_Spread_forceAt (8, [some (vO 10), some (vI x1)], mPush r1 [], h1) Q)) :
  Ev 1 M_Spread_forceAt (0, [some (vO 10), some (vI x1)], [], (sc, ar)) Q :=
  wq_ok 200 _ _ [(8, 2)] _ _ _ _ _ (show (cO 10 = 5) ∧ (Ev 0 M_Dt_valueOf (0, [some (vA 160), some (vI x1)], [], (sc, ar)) (fun r1 h1 => Ev 1 M_Spread_forceAt (8, [some (vO 10), some (vI x1)], mPush r1 [], h1) Q)) from ⟨(by decide), k⟩)
theorem sg_Spread_forceAt_8 {sc : Nat → Int} {ar : Nat → Nat → Int} {x1 s0 : Int} {Q : Option mV → mH → Prop} (k : Q (some (vI s0)) (sc, ar)) :
  Ev 1 M_Spread_forceAt (8, [some (vO 10), some (vI x1)], [vI s0], (sc, ar)) Q :=
  wq_ok 200 _ _ [(8, 2)] _ _ _ _ _ (show Q (some (vI s0)) (sc, ar) from k)
theorem sg_Spread_howMany_0 {sc : Nat → Int} {ar : Nat → Nat → Int} {x1 : Int} {Q : Option mV → mH → Prop} (k : Ev 0 M_Spread_howMany (14, [some (vO 10), some (vI x1), some (vI 0), some (vA 160), some (vI 8), some (vI 0), none], [], (sc, ar)) Q) :
  Ev 0 M_Spread_howMany (0, [some (vO 10), some (vI x1), none, none, none, none, none], [], (sc, ar)) Q :=
  wq_ok 200 _ _ [(14, 6)] _ _ _ _ _ (show (cO 10 = 5) ∧ ((aK 160 ≤ 2) ∧ (Ev 0 M_Spread_howMany (14, [some (vO 10), some (vI x1), some (vI 0), some (vA 160), some (vI 8), some (vI 0), none], [], (sc, ar)) Q)) from ⟨(by decide), ⟨(by decide), k⟩⟩)
theorem sg_Spread_howMany_14 {sc : Nat → Int} {ar : Nat → Nat → Int} {x1 x2 x4 x5 : Int} {Q : Option mV → mH → Prop} (k : inR x5 ∧ inR x4 ∧ 
  (x4 ≤ x5 → (Q (some (vI x2)) (sc, ar))) ∧ 
  (¬ (x4 ≤ x5) → ((0 : Int) ≤ x5 ∧ x5 < (8 : Int) ∧ 
    (inR (ar 160 x5.toNat) ∧ inR x1 ∧ 
    ((ar 160 x5.toNat) < x1 → (Ev 0 M_Spread_howMany (14, [some (vO 10), some (vI x1), some (vI (x2 + 0)), some (vA 160), some (vI x4), some (vI (x5 + 1)), none], [], (sc, ar)) Q)) ∧ 
    (¬ ((ar 160 x5.toNat) < x1) → (Ev 0 M_Spread_howMany (14, [some (vO 10), some (vI x1), some (vI (x2 + 1)), some (vA 160), some (vI x4), some (vI (x5 + 1)), none], [], (sc, ar)) Q)))))) :
  Ev 0 M_Spread_howMany (14, [some (vO 10), some (vI x1), some (vI x2), some (vA 160), some (vI x4), some (vI x5), none], [], (sc, ar)) Q :=
  wq_ok 200 _ _ [(14, 6)] _ _ _ _ _ (show (inR x5 ∧ inR x4) ∧ (x4 ≤ x5 → (Q (some (vI x2)) (sc, ar))) ∧ (¬ (x4 ≤ x5) → ((aK 160 = 0 ∧ (0 : Int) ≤ x5 ∧ x5 < (8 : Int)) ∧ ((inR (ar 160 x5.toNat) ∧ inR x1) ∧ ((ar 160 x5.toNat) < x1 → (Ev 0 M_Spread_howMany (14, [some (vO 10), some (vI x1), some (vI (x2 + 0)), some (vA 160), some (vI x4), some (vI (x5 + 1)), none], [], (sc, ar)) Q)) ∧ (¬ ((ar 160 x5.toNat) < x1) → (Ev 0 M_Spread_howMany (14, [some (vO 10), some (vI x1), some (vI (x2 + 1)), some (vA 160), some (vI x4), some (vI (x5 + 1)), none], [], (sc, ar)) Q))))) from ⟨⟨k.1, k.2.1⟩, fun c1 => (k.2.2.1 c1), fun c1 => ⟨⟨(by decide), (k.2.2.2 c1).1, (k.2.2.2 c1).2.1⟩, ⟨⟨(k.2.2.2 c1).2.2.1, (k.2.2.2 c1).2.2.2.1⟩, fun c2 => ((k.2.2.2 c1).2.2.2.2.1 c2), fun c2 => ((k.2.2.2 c1).2.2.2.2.2 c2)⟩⟩⟩)
theorem sg_Spread_from_0 {sc : Nat → Int} {ar : Nat → Nat → Int} {x1 x2 : Int} {Q : Option mV → mH → Prop} (k : Ev 3 M_Spread_from (3, [some (vO 10), some (vI x1), some (vI x2), some (vO 1), some (vI 0), none], [], (sc, ar)) Q) :
  Ev 3 M_Spread_from (0, [some (vO 10), some (vI x1), some (vI x2), some (vO 1), none, none], [], (sc, ar)) Q :=
  wq_ok 200 _ _ [(3, 5), (43, 5), (53, 5), (75, 6)] _ _ _ _ _ (show Ev 3 M_Spread_from (3, [some (vO 10), some (vI x1), some (vI x2), some (vO 1), some (vI 0), none], [], (sc, ar)) Q from k)
theorem sg_Spread_from_3 {sc : Nat → Int} {ar : Nat → Nat → Int} {x1 x2 x4 : Int} {Q : Option mV → mH → Prop} (k : inR x4 ∧ 
  (8 ≤ x4 → (Ev 3 M_Spread_from (43, [some (vO 10), some (vI x1), some (vI x2), some (vO 1), some (vI 0), none], [], ((up sc 161 0), ar)) Q)) ∧ 
  (¬ (8 ≤ x4) → (inR x4 ∧ inR x1 ∧ 
    (x4 ≠ x1 → ((0 : Int) ≤ x4 ∧ x4 < (8 : Int) ∧ 
      (Ev 3 M_Spread_from (3, [some (vO 10), some (vI x1), some (vI x2), some (vO 1), some (vI (x4 + 1)), none], [], (sc, (up ar 160 (up (ar 160) x4.toNat 0)))) Q))) ∧ 
    (¬ (x4 ≠ x1) → ((0 : Int) ≤ x4 ∧ x4 < (8 : Int) ∧ 
      (Ev 3 M_Spread_from (3, [some (vO 10), some (vI x1), some (vI x2), some (vO 1), some (vI (x4 + 1)), none], [], (sc, (up ar 160 (up (ar 160) x4.toNat 10000000)))) Q)))))) :
  Ev 3 M_Spread_from (3, [some (vO 10), some (vI x1), some (vI x2), some (vO 1), some (vI x4), none], [], (sc, ar)) Q :=
  wq_ok 200 _ _ [(3, 5), (43, 5), (53, 5), (75, 6)] _ _ _ _ _ (show (inR x4 ∧ inR 8) ∧ (8 ≤ x4 → ((cO 10 = 5) ∧ (Ev 3 M_Spread_from (43, [some (vO 10), some (vI x1), some (vI x2), some (vO 1), some (vI 0), none], [], ((up sc 161 0), ar)) Q))) ∧ (¬ (8 ≤ x4) → ((cO 10 = 5) ∧ ((inR x4 ∧ inR x1) ∧ (x4 ≠ x1 → ((aK 160 = 0 ∧ 160 ≠ 999 ∧ (0 : Int) ≤ x4 ∧ x4 < (8 : Int)) ∧ (Ev 3 M_Spread_from (3, [some (vO 10), some (vI x1), some (vI x2), some (vO 1), some (vI (x4 + 1)), none], [], (sc, (up ar 160 (up (ar 160) x4.toNat 0)))) Q))) ∧ (¬ (x4 ≠ x1) → ((aK 160 = 0 ∧ 160 ≠ 999 ∧ (0 : Int) ≤ x4 ∧ x4 < (8 : Int)) ∧ (Ev 3 M_Spread_from (3, [some (vO 10), some (vI x1), some (vI x2), some (vO 1), some (vI (x4 + 1)), none], [], (sc, (up ar 160 (up (ar 160) x4.toNat 10000000)))) Q)))))) from ⟨⟨k.1, (by decide)⟩, fun c1 => ⟨(by decide), (k.2.1 c1)⟩, fun c1 => ⟨(by decide), ⟨⟨(k.2.2 c1).1, (k.2.2 c1).2.1⟩, fun c2 => ⟨⟨(by decide), (by decide), ((k.2.2 c1).2.2.1 c2).1, ((k.2.2 c1).2.2.1 c2).2.1⟩, ((k.2.2 c1).2.2.1 c2).2.2⟩, fun c2 => ⟨⟨(by decide), (by decide), ((k.2.2 c1).2.2.2 c2).1, ((k.2.2 c1).2.2.2 c2).2.1⟩, ((k.2.2 c1).2.2.2 c2).2.2⟩⟩⟩⟩)
theorem sg_Spread_from_43 {sc : Nat → Int} {ar : Nat → Nat → Int} {x1 x2 x4 : Int} {Q : Option mV → mH → Prop} (k : inR x4 ∧ inR x2 ∧ 
  (x2 ≤ x4 → (Q none (sc, ar))) ∧ 
  (¬ (x2 ≤ x4) → (Ev 2 M_Spread_strongestLeft (0, [some (vO 10), none, none, none], [], (sc, ar)) (fun r1 h1 => Ev 3 M_Spread_from (53, [some (vO 10), some (vI x1), some (vI x2), some (vO 1), some (vI x4), none], mPush r1 [], h1) Q)))) :
  Ev 3 M_Spread_from (43, [some (vO 10), some (vI x1), some (vI x2), some (vO 1), some (vI x4), none], [], (sc, ar)) Q :=
  wq_ok 200 _ _ [(3, 5), (43, 5), (53, 5), (75, 6)] _ _ _ _ _ (show (inR x4 ∧ inR x2) ∧ (x2 ≤ x4 → (Q none (sc, ar))) ∧ (¬ (x2 ≤ x4) → ((cO 10 = mK M_Spread_strongestLeft) ∧ (Ev 2 M_Spread_strongestLeft (0, [some (vO 10), none, none, none], [], (sc, ar)) (fun r1 h1 => Ev 3 M_Spread_from (53, [some (vO 10), some (vI x1), some (vI x2), some (vO 1), some (vI x4), none], mPush r1 [], h1) Q)))) from ⟨⟨k.1, k.2.1⟩, fun c1 => (k.2.2.1 c1), fun c1 => ⟨(by decide), (k.2.2.2 c1)⟩⟩)
theorem sg_Spread_from_53 {sc : Nat → Int} {ar : Nat → Nat → Int} {x1 x2 x4 s0 : Int} {Q : Option mV → mH → Prop} (k : Ev 2 M_Spread_passOn (0, [some (vO 10), some (vI s0), some (vO 1), none, none], [], ((up sc 161 (bOr (sc 161) (bShl 1 s0))), ar)) (fun r1 h1 => Ev 3 M_Spread_from (75, [some (vO 10), some (vI x1), some (vI x2), some (vO 1), some (vI x4), some (vI s0)], mPush r1 [], h1) Q)) :
  Ev 3 M_Spread_from (53, [some (vO 10), some (vI x1), some (vI x2), some (vO 1), some (vI x4), none], [vI s0], (sc, ar)) Q :=
  wq_ok 200 _ _ [(3, 5), (43, 5), (53, 5), (75, 6)] _ _ _ _ _ (show (cO 10 = 5) ∧ ((cO 10 = 5) ∧ ((cO 10 = mK M_Spread_passOn) ∧ (Ev 2 M_Spread_passOn (0, [some (vO 10), some (vI s0), some (vO 1), none, none], [], ((up sc 161 (bOr (sc 161) (bShl 1 s0))), ar)) (fun r1 h1 => Ev 3 M_Spread_from (75, [some (vO 10), some (vI x1), some (vI x2), some (vO 1), some (vI x4), some (vI s0)], mPush r1 [], h1) Q)))) from ⟨(by decide), ⟨(by decide), ⟨(by decide), k⟩⟩⟩)
theorem sg_Spread_from_75 {sc : Nat → Int} {ar : Nat → Nat → Int} {x1 x2 x4 x5 : Int} {Q : Option mV → mH → Prop} (k : Ev 3 M_Spread_from (43, [some (vO 10), some (vI x1), some (vI x2), some (vO 1), some (vI (x4 + 1)), none], [], (sc, ar)) Q) :
  Ev 3 M_Spread_from (75, [some (vO 10), some (vI x1), some (vI x2), some (vO 1), some (vI x4), some (vI x5)], [], (sc, ar)) Q :=
  wq_ok 200 _ _ [(3, 5), (43, 5), (53, 5), (75, 6)] _ _ _ _ _ (show Ev 3 M_Spread_from (43, [some (vO 10), some (vI x1), some (vI x2), some (vO 1), some (vI (x4 + 1)), none], [], (sc, ar)) Q from k)
theorem sg_Spread_strongestLeft_0 {sc : Nat → Int} {ar : Nat → Nat → Int} {Q : Option mV → mH → Prop} (k : Ev 1 M_Spread_strongestLeft (6, [some (vO 10), some (vI 0), some (vI (-1)), some (vI 0)], [], (sc, ar)) Q) :
  Ev 1 M_Spread_strongestLeft (0, [some (vO 10), none, none, none], [], (sc, ar)) Q :=
  wq_ok 200 _ _ [(6, 4), (17, 4)] _ _ _ _ _ (show Ev 1 M_Spread_strongestLeft (6, [some (vO 10), some (vI 0), some (vI (-1)), some (vI 0)], [], (sc, ar)) Q from k)
theorem sg_Spread_strongestLeft_6 {sc : Nat → Int} {ar : Nat → Nat → Int} {x1 x2 x3 : Int} {Q : Option mV → mH → Prop} (k : inR x3 ∧ 
  (8 ≤ x3 → (Q (some (vI x1)) (sc, ar))) ∧ 
  (¬ (8 ≤ x3) → (Ev 0 M_Spread_isLeft (0, [some (vO 10), some (vI x3)], [], (sc, ar)) (fun r1 h1 => Ev 1 M_Spread_strongestLeft (17, [some (vO 10), some (vI x1), some (vI x2), some (vI x3)], mPush r1 [], h1) Q)))) :
  Ev 1 M_Spread_strongestLeft (6, [some (vO 10), some (vI x1), some (vI x2), some (vI x3)], [], (sc, ar)) Q :=
  wq_ok 200 _ _ [(6, 4), (17, 4)] _ _ _ _ _ (show (inR x3 ∧ inR 8) ∧ (8 ≤ x3 → (Q (some (vI x1)) (sc, ar))) ∧ (¬ (8 ≤ x3) → ((cO 10 = mK M_Spread_isLeft) ∧ (Ev 0 M_Spread_isLeft (0, [some (vO 10), some (vI x3)], [], (sc, ar)) (fun r1 h1 => Ev 1 M_Spread_strongestLeft (17, [some (vO 10), some (vI x1), some (vI x2), some (vI x3)], mPush r1 [], h1) Q)))) from ⟨⟨k.1, (by decide)⟩, fun c1 => (k.2.1 c1), fun c1 => ⟨(by decide), (k.2.2 c1)⟩⟩)
theorem sg_Spread_strongestLeft_17 {sc : Nat → Int} {ar : Nat → Nat → Int} {x1 x2 x3 s0 : Int} {Q : Option mV → mH → Prop} (k : inR s0 ∧ 
  (s0 = 0 → (Ev 1 M_Spread_strongestLeft (6, [some (vO 10), some (vI x1), some (vI x2), some (vI (x3 + 1))], [], (sc, ar)) Q)) ∧ 
  (¬ (s0 = 0) → ((0 : Int) ≤ x3 ∧ x3 < (8 : Int) ∧ 
    (inR (ar 160 x3.toNat) ∧ inR x2 ∧ 
    ((ar 160 x3.toNat) ≤ x2 → (Ev 1 M_Spread_strongestLeft (6, [some (vO 10), some (vI x1), some (vI x2), some (vI (x3 + 1))], [], (sc, ar)) Q)) ∧ 
    (¬ ((ar 160 x3.toNat) ≤ x2) → ((0 : Int) ≤ x3 ∧ x3 < (8 : Int) ∧ 
      (Ev 1 M_Spread_strongestLeft (6, [some (vO 10), some (vI x3), some (vI (ar 160 x3.toNat)), some (vI (x3 + 1))], [], (sc, ar)) Q))))))) :
  Ev 1 M_Spread_strongestLeft (17, [some (vO 10), some (vI x1), some (vI x2), some (vI x3)], [vI s0], (sc, ar)) Q :=
  wq_ok 200 _ _ [(6, 4), (17, 4)] _ _ _ _ _ (show (inR s0) ∧ (s0 = 0 → (Ev 1 M_Spread_strongestLeft (6, [some (vO 10), some (vI x1), some (vI x2), some (vI (x3 + 1))], [], (sc, ar)) Q)) ∧ (¬ (s0 = 0) → ((cO 10 = 5) ∧ ((aK 160 = 0 ∧ (0 : Int) ≤ x3 ∧ x3 < (8 : Int)) ∧ ((inR (ar 160 x3.toNat) ∧ inR x2) ∧ ((ar 160 x3.toNat) ≤ x2 → (Ev 1 M_Spread_strongestLeft (6, [some (vO 10), some (vI x1), some (vI x2), some (vI (x3 + 1))], [], (sc, ar)) Q)) ∧ (¬ ((ar 160 x3.toNat) ≤ x2) → ((cO 10 = 5) ∧ ((aK 160 = 0 ∧ (0 : Int) ≤ x3 ∧ x3 < (8 : Int)) ∧ (Ev 1 M_Spread_strongestLeft (6, [some (vO 10), some (vI x3), some (vI (ar 160 x3.toNat)), some (vI (x3 + 1))], [], (sc, ar)) Q)))))))) from ⟨k.1, fun c1 => (k.2.1 c1), fun c1 => ⟨(by decide), ⟨⟨(by decide), (k.2.2 c1).1, (k.2.2 c1).2.1⟩, ⟨⟨(k.2.2 c1).2.2.1, (k.2.2 c1).2.2.2.1⟩, fun c2 => ((k.2.2 c1).2.2.2.2.1 c2), fun c2 => ⟨(by decide), ⟨⟨(by decide), ((k.2.2 c1).2.2.2.2.2 c2).1, ((k.2.2 c1).2.2.2.2.2 c2).2.1⟩, ((k.2.2 c1).2.2.2.2.2 c2).2.2⟩⟩⟩⟩⟩⟩)
theorem sg_Spread_passOn_0 {sc : Nat → Int} {ar : Nat → Nat → Int} {x1 : Int} {Q : Option mV → mH → Prop} (k : Ev 2 M_Spread_passOn (2, [some (vO 10), some (vI x1), some (vO 1), some (vI 0), none], [], (sc, ar)) Q) :
  Ev 2 M_Spread_passOn (0, [some (vO 10), some (vI x1), some (vO 1), none, none], [], (sc, ar)) Q :=
  wq_ok 200 _ _ [(2, 4), (13, 4), (21, 4), (27, 4)] _ _ _ _ _ (show Ev 2 M_Spread_passOn (2, [some (vO 10), some (vI x1), some (vO 1), some (vI 0), none], [], (sc, ar)) Q from k)
theorem sg_Spread_passOn_2 {sc : Nat → Int} {ar : Nat → Nat → Int} {x1 x3 : Int} {Q : Option mV → mH → Prop} (k : inR x3 ∧ 
  (8 ≤ x3 → (Q none (sc, ar))) ∧ 
  (¬ (8 ≤ x3) → (Ev 1 M_Spread_isLeft (0, [some (vO 10), some (vI x3)], [], (sc, ar)) (fun r1 h1 => Ev 2 M_Spread_passOn (13, [some (vO 10), some (vI x1), some (vO 1), some (vI x3), none], mPush r1 [], h1) Q)))) :
  Ev 2 M_Spread_passOn (2, [some (vO 10), some (vI x1), some (vO 1), some (vI x3), none], [], (sc, ar)) Q :=
  wq_ok 200 _ _ [(2, 4), (13, 4), (21, 4), (27, 4)] _ _ _ _ _ (show (inR x3 ∧ inR 8) ∧ (8 ≤ x3 → (Q none (sc, ar))) ∧ (¬ (8 ≤ x3) → ((cO 10 = mK M_Spread_isLeft) ∧ (Ev 1 M_Spread_isLeft (0, [some (vO 10), some (vI x3)], [], (sc, ar)) (fun r1 h1 => Ev 2 M_Spread_passOn (13, [some (vO 10), some (vI x1), some (vO 1), some (vI x3), none], mPush r1 [], h1) Q)))) from ⟨⟨k.1, (by decide)⟩, fun c1 => (k.2.1 c1), fun c1 => ⟨(by decide), (k.2.2 c1)⟩⟩)
theorem sg_Spread_passOn_13 {sc : Nat → Int} {ar : Nat → Nat → Int} {x1 x3 s0 : Int} {Q : Option mV → mH → Prop} (k : inR s0 ∧ 
  (s0 = 0 → (Ev 2 M_Spread_passOn (2, [some (vO 10), some (vI x1), some (vO 1), some (vI (x3 + 1)), none], [], (sc, ar)) Q)) ∧ 
  (¬ (s0 = 0) → (Ev 1 M_Spread_forceAt (0, [some (vO 10), some (vI x1)], [], (sc, ar)) (fun r1 h1 => Ev 2 M_Spread_passOn (21, [some (vO 10), some (vI x1), some (vO 1), some (vI x3), none], mPush r1 [], h1) Q)))) :
  Ev 2 M_Spread_passOn (13, [some (vO 10), some (vI x1), some (vO 1), some (vI x3), none], [vI s0], (sc, ar)) Q :=
  wq_ok 200 _ _ [(2, 4), (13, 4), (21, 4), (27, 4)] _ _ _ _ _ (show (inR s0) ∧ (s0 = 0 → (Ev 2 M_Spread_passOn (2, [some (vO 10), some (vI x1), some (vO 1), some (vI (x3 + 1)), none], [], (sc, ar)) Q)) ∧ (¬ (s0 = 0) → ((cO 10 = mK M_Spread_forceAt) ∧ (Ev 1 M_Spread_forceAt (0, [some (vO 10), some (vI x1)], [], (sc, ar)) (fun r1 h1 => Ev 2 M_Spread_passOn (21, [some (vO 10), some (vI x1), some (vO 1), some (vI x3), none], mPush r1 [], h1) Q)))) from ⟨k.1, fun c1 => (k.2.1 c1), fun c1 => ⟨(by decide), (k.2.2 c1)⟩⟩)
theorem sg_Spread_passOn_21 {sc : Nat → Int} {ar : Nat → Nat → Int} {x1 x3 s0 : Int} {Q : Option mV → mH → Prop} (k : Ev 1 M_Table_get (0, [some (vO 1), some (vI x3), some (vI x1)], [], (sc, ar)) (fun r1 h1 => Ev 2 M_Spread_passOn (27, [some (vO 10), some (vI x1), some (vO 1), some (vI x3), none], mPush r1 [vI s0], h1) Q)) :
  Ev 2 M_Spread_passOn (21, [some (vO 10), some (vI x1), some (vO 1), some (vI x3), none], [vI s0], (sc, ar)) Q :=
  wq_ok 200 _ _ [(2, 4), (13, 4), (21, 4), (27, 4)] _ _ _ _ _ (show (cO 1 = mK M_Table_get) ∧ (Ev 1 M_Table_get (0, [some (vO 1), some (vI x3), some (vI x1)], [], (sc, ar)) (fun r1 h1 => Ev 2 M_Spread_passOn (27, [some (vO 10), some (vI x1), some (vO 1), some (vI x3), none], mPush r1 [vI s0], h1) Q)) from ⟨(by decide), k⟩)
theorem sg_Spread_passOn_27 {sc : Nat → Int} {ar : Nat → Nat → Int} {x1 x3 s0 s1 : Int} {Q : Option mV → mH → Prop} (k : inR (s1 * s0) ∧ 
  ((0 : Int) ≤ x3 ∧ x3 < (8 : Int) ∧ 
  (inR (ar 160 x3.toNat) ∧ inR (Int.tdiv (s1 * s0) 10) ∧ 
  ((0 : Int) ≤ x3 ∧ x3 < (8 : Int) ∧ 
  (Ev 2 M_Spread_passOn (2, [some (vO 10), some (vI x1), some (vO 1), some (vI (x3 + 1)), none], [], (sc, (up ar 160 (up (ar 160) x3.toNat (if (ar 160 x3.toNat) < (Int.tdiv (s1 * s0) 10) then (Int.tdiv (s1 * s0) 10) else (ar 160 x3.toNat)))))) Q))))) :
  Ev 2 M_Spread_passOn (27, [some (vO 10), some (vI x1), some (vO 1), some (vI x3), none], [vI s0, vI s1], (sc, ar)) Q :=
  wq_ok 200 _ _ [(2, 4), (13, 4), (21, 4), (27, 4)] _ _ _ _ _ (show (inR (s1 * s0) ∧ inR 10 ∧ (0 : Int) < 10) ∧ ((cO 10 = 5) ∧ ((cO 10 = 5) ∧ ((aK 160 = 0 ∧ (0 : Int) ≤ x3 ∧ x3 < (8 : Int)) ∧ ((inR (ar 160 x3.toNat) ∧ inR (Int.tdiv (s1 * s0) 10) ∧ mCat [vI x3, vA 160] ≤ 8) ∧ ((aK 160 = 0 ∧ 160 ≠ 999 ∧ (0 : Int) ≤ x3 ∧ x3 < (8 : Int)) ∧ (Ev 2 M_Spread_passOn (2, [some (vO 10), some (vI x1), some (vO 1), some (vI (x3 + 1)), none], [], (sc, (up ar 160 (up (ar 160) x3.toNat (if (ar 160 x3.toNat) < (Int.tdiv (s1 * s0) 10) then (Int.tdiv (s1 * s0) 10) else (ar 160 x3.toNat)))))) Q)))))) from ⟨⟨k.1, (by decide), (by decide)⟩, ⟨(by decide), ⟨(by decide), ⟨⟨(by decide), k.2.1, k.2.2.1⟩, ⟨⟨k.2.2.2.1, k.2.2.2.2.1, (Nat.le_of_ble_eq_true rfl)⟩, ⟨⟨(by decide), (by decide), k.2.2.2.2.2.1, k.2.2.2.2.2.2.1⟩, k.2.2.2.2.2.2.2⟩⟩⟩⟩⟩⟩)
theorem sg_Spread_isLeft_0 {sc : Nat → Int} {ar : Nat → Nat → Int} {x1 : Int} {Q : Option mV → mH → Prop} (k : inR (bAnd (sc 161) (bShl 1 x1)) ∧ 
  ((bAnd (sc 161) (bShl 1 x1)) ≠ 0 → (Q (some (vI 0)) (sc, ar))) ∧ 
  (¬ ((bAnd (sc 161) (bShl 1 x1)) ≠ 0) → (Q (some (vI 1)) (sc, ar)))) :
  Ev 0 M_Spread_isLeft (0, [some (vO 10), some (vI x1)], [], (sc, ar)) Q :=
  wq_ok 200 _ _ [] _ _ _ _ _ (show (cO 10 = 5) ∧ ((inR (bAnd (sc 161) (bShl 1 x1))) ∧ ((bAnd (sc 161) (bShl 1 x1)) ≠ 0 → (((0 : Int) ≤ 0 ∧ (0 : Int) ≤ 1) ∧ (Q (some (vI 0)) (sc, ar)))) ∧ (¬ ((bAnd (sc 161) (bShl 1 x1)) ≠ 0) → (((0 : Int) ≤ 1 ∧ (1 : Int) ≤ 1) ∧ (Q (some (vI 1)) (sc, ar))))) from ⟨(by decide), ⟨k.1, fun c1 => ⟨⟨(by decide), (by decide)⟩, (k.2.1 c1)⟩, fun c1 => ⟨⟨(by decide), (by decide)⟩, (k.2.2 c1)⟩⟩⟩)
theorem sg_Least_leastGuess_0 {sc : Nat → Int} {ar : Nat → Nat → Int} {x1 : Int} {Q : Option mV → mH → Prop} (k : Ev 4 M_Least_leastGuess (9, [some (vO 5), some (vI x1), some (vO 1), some (vI ((bShl 1 x1) - 1)), some (vI ((bShl 1 x1) - 1))], [], (sc, ar)) Q) :
  Ev 4 M_Least_leastGuess (0, [some (vO 5), some (vI x1), some (vO 1), none, none], [], (sc, ar)) Q :=
  wq_ok 200 _ _ [(9, 5), (48, 5)] _ _ _ _ _ (show Ev 4 M_Least_leastGuess (9, [some (vO 5), some (vI x1), some (vO 1), some (vI ((bShl 1 x1) - 1)), some (vI ((bShl 1 x1) - 1))], [], (sc, ar)) Q from k)
theorem sg_Least_leastGuess_9 {sc : Nat → Int} {ar : Nat → Nat → Int} {x1 x3 x4 : Int} {Q : Option mV → mH → Prop} (k : inR x4 ∧ 
  (x4 < 0 → (Q (some (vI (ar 80 (0 : Int).toNat))) (sc, ar))) ∧ 
  (¬ (x4 < 0) → (inR x4 ∧ 
    (256 ≤ x4 → (Q (some (vI (ar 80 (0 : Int).toNat))) (sc, ar))) ∧ 
    (¬ (256 ≤ x4) → (inR x4 ∧ inR x3 ∧ 
      (x4 ≠ x3 → (Ev 3 M_Least_leastAfter (0, [some (vO 5), some (vI x4), some (vI x1), some (vO 1), none, none], [], (sc, ar)) (fun r1 h1 => Ev 4 M_Least_leastGuess (48, [some (vO 5), some (vI x1), some (vO 1), some (vI x3), some (vI x4)], mPush r1 [vI x4, vA 80], h1) Q))) ∧ 
      (¬ (x4 ≠ x3) → (Ev 4 M_Least_leastGuess (48, [some (vO 5), some (vI x1), some (vO 1), some (vI x3), some (vI x4)], [vI 0, vI x4, vA 80], (sc, ar)) Q))))))) :
  Ev 4 M_Least_leastGuess (9, [some (vO 5), some (vI x1), some (vO 1), some (vI x3), some (vI x4)], [], (sc, ar)) Q :=
  wq_ok 200 _ _ [(9, 5), (48, 5)] _ _ _ _ _ (show (inR x4) ∧ (x4 < 0 → ((cO 5 = 1) ∧ ((aK 80 = 0 ∧ (0 : Int) ≤ 0 ∧ 0 < (256 : Int)) ∧ (Q (some (vI (ar 80 (0 : Int).toNat))) (sc, ar))))) ∧ (¬ (x4 < 0) → ((cO 5 = 1) ∧ ((aK 80 ≤ 2) ∧ ((inR x4 ∧ inR 256) ∧ (256 ≤ x4 → ((cO 5 = 1) ∧ ((aK 80 = 0 ∧ (0 : Int) ≤ 0 ∧ 0 < (256 : Int)) ∧ (Q (some (vI (ar 80 (0 : Int).toNat))) (sc, ar))))) ∧ (¬ (256 ≤ x4) → ((cO 5 = 1) ∧ ((inR x4 ∧ inR x3) ∧ (x4 ≠ x3 → ((cO 5 = mK M_Least_leastAfter) ∧ (Ev 3 M_Least_leastAfter (0, [some (vO 5), some (vI x4), some (vI x1), some (vO 1), none, none], [], (sc, ar)) (fun r1 h1 => Ev 4 M_Least_leastGuess (48, [some (vO 5), some (vI x1), some (vO 1), some (vI x3), some (vI x4)], mPush r1 [vI x4, vA 80], h1) Q)))) ∧ (¬ (x4 ≠ x3) → (Ev 4 M_Least_leastGuess (48, [some (vO 5), some (vI x1), some (vO 1), some (vI x3), some (vI x4)], [vI 0, vI x4, vA 80], (sc, ar)) Q))))))))) from ⟨k.1, fun c1 => ⟨(by decide), ⟨⟨(by decide), (by decide), (by decide)⟩, (k.2.1 c1)⟩⟩, fun c1 => ⟨(by decide), ⟨(by decide), ⟨⟨(k.2.2 c1).1, (by decide)⟩, fun c2 => ⟨(by decide), ⟨⟨(by decide), (by decide), (by decide)⟩, ((k.2.2 c1).2.1 c2)⟩⟩, fun c2 => ⟨(by decide), ⟨⟨((k.2.2 c1).2.2 c2).1, ((k.2.2 c1).2.2 c2).2.1⟩, fun c3 => ⟨(by decide), (((k.2.2 c1).2.2 c2).2.2.1 c3)⟩, fun c3 => (((k.2.2 c1).2.2 c2).2.2.2 c3)⟩⟩⟩⟩⟩⟩)
theorem sg_Least_leastGuess_48 {sc : Nat → Int} {ar : Nat → Nat → Int} {x1 x3 x4 s0 s1 : Int} {Q : Option mV → mH → Prop} (k : (0 : Int) ≤ s1 ∧ s1 < (256 : Int) ∧ 
  (Ev 4 M_Least_leastGuess (9, [some (vO 5), some (vI x1), some (vO 1), some (vI x3), some (vI (x4 + (-1)))], [], (sc, (up ar 80 (up (ar 80) s1.toNat s0)))) Q)) :
  Ev 4 M_Least_leastGuess (48, [some (vO 5), some (vI x1), some (vO 1), some (vI x3), some (vI x4)], [vI s0, vI s1, vA 80], (sc, ar)) Q :=
  wq_ok 200 _ _ [(9, 5), (48, 5)] _ _ _ _ _ (show (aK 80 = 0 ∧ 80 ≠ 999 ∧ (0 : Int) ≤ s1 ∧ s1 < (256 : Int)) ∧ (Ev 4 M_Least_leastGuess (9, [some (vO 5), some (vI x1), some (vO 1), some (vI x3), some (vI (x4 + (-1)))], [], (sc, (up ar 80 (up (ar 80) s1.toNat s0)))) Q) from ⟨⟨(by decide), (by decide), k.1, k.2.1⟩, k.2.2⟩)
theorem sg_Least_find_0 {sc : Nat → Int} {ar : Nat → Nat → Int} {x1 : Int} {Q : Option mV → mH → Prop} (k : Ev 4 M_Least_leastGuess (0, [some (vO 5), some (vI x1), some (vO 1), none, none], [], (sc, ar)) (fun r1 h1 => Ev 5 M_Least_find (6, [some (vO 5), some (vI x1), some (vO 1), none, none, none], mPush r1 [], h1) Q)) :
  Ev 5 M_Least_find (0, [some (vO 5), some (vI x1), some (vO 1), none, none, none], [], (sc, ar)) Q :=
  wq_ok 200 _ _ [(6, 3), (14, 3), (19, 5), (32, 5), (43, 6)] _ _ _ _ _ (show (cO 5 = mK M_Least_leastGuess) ∧ (Ev 4 M_Least_leastGuess (0, [some (vO 5), some (vI x1), some (vO 1), none, none], [], (sc, ar)) (fun r1 h1 => Ev 5 M_Least_find (6, [some (vO 5), some (vI x1), some (vO 1), none, none, none], mPush r1 [], h1) Q)) from ⟨(by decide), k⟩)
theorem sg_Least_find_6 {sc : Nat → Int} {ar : Nat → Nat → Int} {x1 s0 : Int} {Q : Option mV → mH → Prop} (k : Ev 4 M_Order_clear (0, [some (vO 6)], [], (sc, ar)) (fun r1 h1 => Ev 5 M_Least_find (14, [some (vO 5), some (vI x1), some (vO 1), none, none, none], mPush r1 [], h1) Q)) :
  Ev 5 M_Least_find (6, [some (vO 5), some (vI x1), some (vO 1), none, none, none], [vI s0], (sc, ar)) Q :=
  wq_ok 200 _ _ [(6, 3), (14, 3), (19, 5), (32, 5), (43, 6)] _ _ _ _ _ (show (cO 5 = 1) ∧ ((cO 6 = mK M_Order_clear) ∧ (Ev 4 M_Order_clear (0, [some (vO 6)], [], (sc, ar)) (fun r1 h1 => Ev 5 M_Least_find (14, [some (vO 5), some (vI x1), some (vO 1), none, none, none], mPush r1 [], h1) Q))) from ⟨(by decide), ⟨(by decide), k⟩⟩)
theorem sg_Least_find_14 {sc : Nat → Int} {ar : Nat → Nat → Int} {x1 : Int} {Q : Option mV → mH → Prop} (k : Ev 5 M_Least_find (19, [some (vO 5), some (vI x1), some (vO 1), some (vI 0), some (vI 0), none], [], (sc, ar)) Q) :
  Ev 5 M_Least_find (14, [some (vO 5), some (vI x1), some (vO 1), none, none, none], [], (sc, ar)) Q :=
  wq_ok 200 _ _ [(6, 3), (14, 3), (19, 5), (32, 5), (43, 6)] _ _ _ _ _ (show Ev 5 M_Least_find (19, [some (vO 5), some (vI x1), some (vO 1), some (vI 0), some (vI 0), none], [], (sc, ar)) Q from k)
theorem sg_Least_find_19 {sc : Nat → Int} {ar : Nat → Nat → Int} {x1 x3 x4 : Int} {Q : Option mV → mH → Prop} (k : inR x4 ∧ inR x1 ∧ 
  (x1 ≤ x4 → (Q (some (vO 6)) (sc, ar))) ∧ 
  (¬ (x1 ≤ x4) → (Ev 4 M_Least_firstOfLeast (0, [some (vO 5), some (vI x3), some (vI x1), some (vO 1), none], [], (sc, ar)) (fun r1 h1 => Ev 5 M_Least_find (32, [some (vO 5), some (vI x1), some (vO 1), some (vI x3), some (vI x4), none], mPush r1 [], h1) Q)))) :
  Ev 5 M_Least_find (19, [some (vO 5), some (vI x1), some (vO 1), some (vI x3), some (vI x4), none], [], (sc, ar)) Q :=
  wq_ok 200 _ _ [(6, 3), (14, 3), (19, 5), (32, 5), (43, 6)] _ _ _ _ _ (show (inR x4 ∧ inR x1) ∧ (x1 ≤ x4 → ((cO 5 = 1) ∧ (Q (some (vO 6)) (sc, ar)))) ∧ (¬ (x1 ≤ x4) → ((cO 5 = mK M_Least_firstOfLeast) ∧ (Ev 4 M_Least_firstOfLeast (0, [some (vO 5), some (vI x3), some (vI x1), some (vO 1), none], [], (sc, ar)) (fun r1 h1 => Ev 5 M_Least_find (32, [some (vO 5), some (vI x1), some (vO 1), some (vI x3), some (vI x4), none], mPush r1 [], h1) Q)))) from ⟨⟨k.1, k.2.1⟩, fun c1 => ⟨(by decide), (k.2.2.1 c1)⟩, fun c1 => ⟨(by decide), (k.2.2.2 c1)⟩⟩)
theorem sg_Least_find_32 {sc : Nat → Int} {ar : Nat → Nat → Int} {x1 x3 x4 s0 : Int} {Q : Option mV → mH → Prop} (k : Ev 4 M_Order_add (0, [some (vO 6), some (vI s0)], [], (sc, ar)) (fun r1 h1 => Ev 5 M_Least_find (43, [some (vO 5), some (vI x1), some (vO 1), some (vI x3), some (vI x4), some (vI s0)], mPush r1 [], h1) Q)) :
  Ev 5 M_Least_find (32, [some (vO 5), some (vI x1), some (vO 1), some (vI x3), some (vI x4), none], [vI s0], (sc, ar)) Q :=
  wq_ok 200 _ _ [(6, 3), (14, 3), (19, 5), (32, 5), (43, 6)] _ _ _ _ _ (show (cO 5 = 1) ∧ ((cO 6 = mK M_Order_add) ∧ (Ev 4 M_Order_add (0, [some (vO 6), some (vI s0)], [], (sc, ar)) (fun r1 h1 => Ev 5 M_Least_find (43, [some (vO 5), some (vI x1), some (vO 1), some (vI x3), some (vI x4), some (vI s0)], mPush r1 [], h1) Q))) from ⟨(by decide), ⟨(by decide), k⟩⟩)
theorem sg_Least_find_43 {sc : Nat → Int} {ar : Nat → Nat → Int} {x1 x3 x4 x5 : Int} {Q : Option mV → mH → Prop} (k : Ev 5 M_Least_find (19, [some (vO 5), some (vI x1), some (vO 1), some (vI (bOr x3 (bShl 1 x5))), some (vI (x4 + 1)), none], [], (sc, ar)) Q) :
  Ev 5 M_Least_find (43, [some (vO 5), some (vI x1), some (vO 1), some (vI x3), some (vI x4), some (vI x5)], [], (sc, ar)) Q :=
  wq_ok 200 _ _ [(6, 3), (14, 3), (19, 5), (32, 5), (43, 6)] _ _ _ _ _ (show Ev 5 M_Least_find (19, [some (vO 5), some (vI x1), some (vO 1), some (vI (bOr x3 (bShl 1 x5))), some (vI (x4 + 1)), none], [], (sc, ar)) Q from k)
theorem sg_Least_leastAfter_0 {sc : Nat → Int} {ar : Nat → Nat → Int} {x1 x2 : Int} {Q : Option mV → mH → Prop} (k : Ev 3 M_Least_leastAfter (7, [some (vO 5), some (vI x1), some (vI x2), some (vO 1), some (vI 1000000), some (vI 0)], [], (sc, ar)) Q) :
  Ev 3 M_Least_leastAfter (0, [some (vO 5), some (vI x1), some (vI x2), some (vO 1), none, none], [], (sc, ar)) Q :=
  wq_ok 200 _ _ [(7, 6), (33, 6)] _ _ _ _ _ (show Ev 3 M_Least_leastAfter (7, [some (vO 5), some (vI x1), some (vI x2), some (vO 1), some (vI 1000000), some (vI 0)], [], (sc, ar)) Q from k)
theorem sg_Least_leastAfter_7 {sc : Nat → Int} {ar : Nat → Nat → Int} {x1 x2 x4 x5 : Int} {Q : Option mV → mH → Prop} (k : inR x5 ∧ inR x2 ∧ 
  (x2 ≤ x5 → (Q (some (vI x4)) (sc, ar))) ∧ 
  (¬ (x2 ≤ x5) → (inR (bAnd x1 (bShl 1 x5)) ∧ 
    ((bAnd x1 (bShl 1 x5)) ≠ 0 → (Ev 3 M_Least_leastAfter (7, [some (vO 5), some (vI x1), some (vI x2), some (vO 1), some (vI x4), some (vI (x5 + 1))], [], (sc, ar)) Q)) ∧ 
    (¬ ((bAnd x1 (bShl 1 x5)) ≠ 0) → (Ev 2 M_Least_guessWithNext (0, [some (vO 5), some (vI x5), some (vI x1), some (vI x2), some (vO 1), none, none], [], (sc, ar)) (fun r1 h1 => Ev 3 M_Least_leastAfter (33, [some (vO 5), some (vI x1), some (vI x2), some (vO 1), some (vI x4), some (vI x5)], mPush r1 [vI x4], h1) Q)))))) :
  Ev 3 M_Least_leastAfter (7, [some (vO 5), some (vI x1), some (vI x2), some (vO 1), some (vI x4), some (vI x5)], [], (sc, ar)) Q :=
  wq_ok 200 _ _ [(7, 6), (33, 6)] _ _ _ _ _ (show (inR x5 ∧ inR x2) ∧ (x2 ≤ x5 → (Q (some (vI x4)) (sc, ar))) ∧ (¬ (x2 ≤ x5) → ((inR (bAnd x1 (bShl 1 x5))) ∧ ((bAnd x1 (bShl 1 x5)) ≠ 0 → (Ev 3 M_Least_leastAfter (7, [some (vO 5), some (vI x1), some (vI x2), some (vO 1), some (vI x4), some (vI (x5 + 1))], [], (sc, ar)) Q)) ∧ (¬ ((bAnd x1 (bShl 1 x5)) ≠ 0) → ((cO 5 = mK M_Least_guessWithNext) ∧ (Ev 2 M_Least_guessWithNext (0, [some (vO 5), some (vI x5), some (vI x1), some (vI x2), some (vO 1), none, none], [], (sc, ar)) (fun r1 h1 => Ev 3 M_Least_leastAfter (33, [some (vO 5), some (vI x1), some (vI x2), some (vO 1), some (vI x4), some (vI x5)], mPush r1 [vI x4], h1) Q)))))) from ⟨⟨k.1, k.2.1⟩, fun c1 => (k.2.2.1 c1), fun c1 => ⟨(k.2.2.2 c1).1, fun c2 => ((k.2.2.2 c1).2.1 c2), fun c2 => ⟨(by decide), ((k.2.2.2 c1).2.2 c2)⟩⟩⟩)
theorem sg_Least_leastAfter_33 {sc : Nat → Int} {ar : Nat → Nat → Int} {x1 x2 x4 x5 s0 s1 : Int} {Q : Option mV → mH → Prop} (k : inR s1 ∧ inR s0 ∧ 
  (Ev 3 M_Least_leastAfter (7, [some (vO 5), some (vI x1), some (vI x2), some (vO 1), some (vI (if s0 < s1 then s0 else s1)), some (vI (x5 + 1))], [], (sc, ar)) Q)) :
  Ev 3 M_Least_leastAfter (33, [some (vO 5), some (vI x1), some (vI x2), some (vO 1), some (vI x4), some (vI x5)], [vI s0, vI s1], (sc, ar)) Q :=
  wq_ok 200 _ _ [(7, 6), (33, 6)] _ _ _ _ _ (show (inR s1 ∧ inR s0 ∧ mCat [] ≤ 8) ∧ (Ev 3 M_Least_leastAfter (7, [some (vO 5), some (vI x1), some (vI x2), some (vO 1), some (vI (if s0 < s1 then s0 else s1)), some (vI (x5 + 1))], [], (sc, ar)) Q) from ⟨⟨k.1, k.2.1, (Nat.le_of_ble_eq_true rfl)⟩, k.2.2⟩)
theorem sg_Least_firstOfLeast_0 {sc : Nat → Int} {ar : Nat → Nat → Int} {x1 x2 : Int} {Q : Option mV → mH → Prop} (k : Ev 3 M_Least_firstOfLeast (3, [some (vO 5), some (vI x1), some (vI x2), some (vO 1), some (vI 0)], [], (sc, ar)) Q) :
  Ev 3 M_Least_firstOfLeast (0, [some (vO 5), some (vI x1), some (vI x2), some (vO 1), none], [], (sc, ar)) Q :=
  wq_ok 200 _ _ [(3, 5), (27, 5), (35, 5)] _ _ _ _ _ (show Ev 3 M_Least_firstOfLeast (3, [some (vO 5), some (vI x1), some (vI x2), some (vO 1), some (vI 0)], [], (sc, ar)) Q from k)
theorem sg_Least_firstOfLeast_3 {sc : Nat → Int} {ar : Nat → Nat → Int} {x1 x2 x4 : Int} {Q : Option mV → mH → Prop} (k : inR x4 ∧ inR x2 ∧ 
  (x2 ≤ x4 → (Q (some (vI 0)) (sc, ar))) ∧ 
  (¬ (x2 ≤ x4) → (inR (bAnd x1 (bShl 1 x4)) ∧ 
    ((bAnd x1 (bShl 1 x4)) ≠ 0 → (Ev 3 M_Least_firstOfLeast (3, [some (vO 5), some (vI x1), some (vI x2), some (vO 1), some (vI (x4 + 1))], [], (sc, ar)) Q)) ∧ 
    (¬ ((bAnd x1 (bShl 1 x4)) ≠ 0) → (Ev 2 M_Least_guessWithNext (0, [some (vO 5), some (vI x4), some (vI x1), some (vI x2), some (vO 1), none, none], [], (sc, ar)) (fun r1 h1 => Ev 3 M_Least_firstOfLeast (27, [some (vO 5), some (vI x1), some (vI x2), some (vO 1), some (vI x4)], mPush r1 [], h1) Q)))))) :
  Ev 3 M_Least_firstOfLeast (3, [some (vO 5), some (vI x1), some (vI x2), some (vO 1), some (vI x4)], [], (sc, ar)) Q :=
  wq_ok 200 _ _ [(3, 5), (27, 5), (35, 5)] _ _ _ _ _ (show (inR x4 ∧ inR x2) ∧ (x2 ≤ x4 → (Q (some (vI 0)) (sc, ar))) ∧ (¬ (x2 ≤ x4) → ((inR (bAnd x1 (bShl 1 x4))) ∧ ((bAnd x1 (bShl 1 x4)) ≠ 0 → (Ev 3 M_Least_firstOfLeast (3, [some (vO 5), some (vI x1), some (vI x2), some (vO 1), some (vI (x4 + 1))], [], (sc, ar)) Q)) ∧ (¬ ((bAnd x1 (bShl 1 x4)) ≠ 0) → ((cO 5 = mK M_Least_guessWithNext) ∧ (Ev 2 M_Least_guessWithNext (0, [some (vO 5), some (vI x4), some (vI x1), some (vI x2), some (vO 1), none, none], [], (sc, ar)) (fun r1 h1 => Ev 3 M_Least_firstOfLeast (27, [some (vO 5), some (vI x1), some (vI x2), some (vO 1), some (vI x4)], mPush r1 [], h1) Q)))))) from ⟨⟨k.1, k.2.1⟩, fun c1 => (k.2.2.1 c1), fun c1 => ⟨(k.2.2.2 c1).1, fun c2 => ((k.2.2.2 c1).2.1 c2), fun c2 => ⟨(by decide), ((k.2.2.2 c1).2.2 c2)⟩⟩⟩)
theorem sg_Least_firstOfLeast_27 {sc : Nat → Int} {ar : Nat → Nat → Int} {x1 x2 x4 s0 : Int} {Q : Option mV → mH → Prop} (k : Ev 2 M_Dt_valueOf (0, [some (vA 80), some (vI x1)], [], (sc, ar)) (fun r1 h1 => Ev 3 M_Least_firstOfLeast (35, [some (vO 5), some (vI x1), some (vI x2), some (vO 1), some (vI x4)], mPush r1 [vI s0], h1) Q)) :
  Ev 3 M_Least_firstOfLeast (27, [some (vO 5), some (vI x1), some (vI x2), some (vO 1), some (vI x4)], [vI s0], (sc, ar)) Q :=
  wq_ok 200 _ _ [(3, 5), (27, 5), (35, 5)] _ _ _ _ _ (show (cO 5 = 1) ∧ (Ev 2 M_Dt_valueOf (0, [some (vA 80), some (vI x1)], [], (sc, ar)) (fun r1 h1 => Ev 3 M_Least_firstOfLeast (35, [some (vO 5), some (vI x1), some (vI x2), some (vO 1), some (vI x4)], mPush r1 [vI s0], h1) Q)) from ⟨(by decide), k⟩)
theorem sg_Least_firstOfLeast_35 {sc : Nat → Int} {ar : Nat → Nat → Int} {x1 x2 x4 s0 s1 : Int} {Q : Option mV → mH → Prop} (k : inR s1 ∧ inR s0 ∧ 
  (s1 ≠ s0 → (Ev 3 M_Least_firstOfLeast (3, [some (vO 5), some (vI x1), some (vI x2), some (vO 1), some (vI (x4 + 1))], [], (sc, ar)) Q)) ∧ 
  (¬ (s1 ≠ s0) → (Q (some (vI x4)) (sc, ar)))) :
  Ev 3 M_Least_firstOfLeast (35, [some (vO 5), some (vI x1), some (vI x2), some (vO 1), some (vI x4)], [vI s0, vI s1], (sc, ar)) Q :=
  wq_ok 200 _ _ [(3, 5), (27, 5), (35, 5)] _ _ _ _ _ (show (inR s1 ∧ inR s0) ∧ (s1 ≠ s0 → (Ev 3 M_Least_firstOfLeast (3, [some (vO 5), some (vI x1), some (vI x2), some (vO 1), some (vI (x4 + 1))], [], (sc, ar)) Q)) ∧ (¬ (s1 ≠ s0) → (Q (some (vI x4)) (sc, ar))) from ⟨⟨k.1, k.2.1⟩, fun c1 => (k.2.2.1 c1), fun c1 => (k.2.2.2 c1)⟩)
theorem sg_Least_guessWithNext_0 {sc : Nat → Int} {ar : Nat → Nat → Int} {x1 x2 x3 : Int} {Q : Option mV → mH → Prop} (k : Ev 1 M_Dt_valueOf (0, [some (vA 80), some (vI (bOr x2 (bShl 1 x1)))], [], (sc, ar)) (fun r1 h1 => Ev 2 M_Least_guessWithNext (12, [some (vO 5), some (vI x1), some (vI x2), some (vI x3), some (vO 1), none, none], mPush r1 [], h1) Q)) :
  Ev 2 M_Least_guessWithNext (0, [some (vO 5), some (vI x1), some (vI x2), some (vI x3), some (vO 1), none, none], [], (sc, ar)) Q :=
  wq_ok 200 _ _ [(12, 5), (17, 7), (42, 7)] _ _ _ _ _ (show (cO 5 = 1) ∧ (Ev 1 M_Dt_valueOf (0, [some (vA 80), some (vI (bOr x2 (bShl 1 x1)))], [], (sc, ar)) (fun r1 h1 => Ev 2 M_Least_guessWithNext (12, [some (vO 5), some (vI x1), some (vI x2), some (vI x3), some (vO 1), none, none], mPush r1 [], h1) Q)) from ⟨(by decide), k⟩)
theorem sg_Least_guessWithNext_12 {sc : Nat → Int} {ar : Nat → Nat → Int} {x1 x2 x3 s0 : Int} {Q : Option mV → mH → Prop} (k : Ev 2 M_Least_guessWithNext (17, [some (vO 5), some (vI x1), some (vI x2), some (vI x3), some (vO 1), some (vI s0), some (vI 0)], [], (sc, ar)) Q) :
  Ev 2 M_Least_guessWithNext (12, [some (vO 5), some (vI x1), some (vI x2), some (vI x3), some (vO 1), none, none], [vI s0], (sc, ar)) Q :=
  wq_ok 200 _ _ [(12, 5), (17, 7), (42, 7)] _ _ _ _ _ (show Ev 2 M_Least_guessWithNext (17, [some (vO 5), some (vI x1), some (vI x2), some (vI x3), some (vO 1), some (vI s0), some (vI 0)], [], (sc, ar)) Q from k)
theorem sg_Least_guessWithNext_17 {sc : Nat → Int} {ar : Nat → Nat → Int} {x1 x2 x3 x5 x6 : Int} {Q : Option mV → mH → Prop} (k : inR x6 ∧ inR x3 ∧ 
  (x3 ≤ x6 → (Q (some (vI x5)) (sc, ar))) ∧ 
  (¬ (x3 ≤ x6) → (inR (bAnd x2 (bShl 1 x6)) ∧ 
    ((bAnd x2 (bShl 1 x6)) ≠ 0 → (Ev 2 M_Least_guessWithNext (17, [some (vO 5), some (vI x1), some (vI x2), some (vI x3), some (vO 1), some (vI x5), some (vI (x6 + 1))], [], (sc, ar)) Q)) ∧ 
    (¬ ((bAnd x2 (bShl 1 x6)) ≠ 0) → (Ev 1 M_Table_get (0, [some (vO 1), some (vI x1), some (vI x6)], [], (sc, ar)) (fun r1 h1 => Ev 2 M_Least_guessWithNext (42, [some (vO 5), some (vI x1), some (vI x2), some (vI x3), some (vO 1), some (vI x5), some (vI x6)], mPush r1 [vI x5], h1) Q)))))) :
  Ev 2 M_Least_guessWithNext (17, [some (vO 5), some (vI x1), some (vI x2), some (vI x3), some (vO 1), some (vI x5), some (vI x6)], [], (sc, ar)) Q :=
  wq_ok 200 _ _ [(12, 5), (17, 7), (42, 7)] _ _ _ _ _ (show (inR x6 ∧ inR x3) ∧ (x3 ≤ x6 → (Q (some (vI x5)) (sc, ar))) ∧ (¬ (x3 ≤ x6) → ((inR (bAnd x2 (bShl 1 x6))) ∧ ((bAnd x2 (bShl 1 x6)) ≠ 0 → (Ev 2 M_Least_guessWithNext (17, [some (vO 5), some (vI x1), some (vI x2), some (vI x3), some (vO 1), some (vI x5), some (vI (x6 + 1))], [], (sc, ar)) Q)) ∧ (¬ ((bAnd x2 (bShl 1 x6)) ≠ 0) → ((cO 1 = mK M_Table_get) ∧ (Ev 1 M_Table_get (0, [some (vO 1), some (vI x1), some (vI x6)], [], (sc, ar)) (fun r1 h1 => Ev 2 M_Least_guessWithNext (42, [some (vO 5), some (vI x1), some (vI x2), some (vI x3), some (vO 1), some (vI x5), some (vI x6)], mPush r1 [vI x5], h1) Q)))))) from ⟨⟨k.1, k.2.1⟩, fun c1 => (k.2.2.1 c1), fun c1 => ⟨(k.2.2.2 c1).1, fun c2 => ((k.2.2.2 c1).2.1 c2), fun c2 => ⟨(by decide), ((k.2.2.2 c1).2.2 c2)⟩⟩⟩)
theorem sg_Least_guessWithNext_42 {sc : Nat → Int} {ar : Nat → Nat → Int} {x1 x2 x3 x5 x6 s0 s1 : Int} {Q : Option mV → mH → Prop} (k : Ev 2 M_Least_guessWithNext (17, [some (vO 5), some (vI x1), some (vI x2), some (vI x3), some (vO 1), some (vI (s1 + s0)), some (vI (x6 + 1))], [], (sc, ar)) Q) :
  Ev 2 M_Least_guessWithNext (42, [some (vO 5), some (vI x1), some (vI x2), some (vI x3), some (vO 1), some (vI x5), some (vI x6)], [vI s0, vI s1], (sc, ar)) Q :=
  wq_ok 200 _ _ [(12, 5), (17, 7), (42, 7)] _ _ _ _ _ (show Ev 2 M_Least_guessWithNext (17, [some (vO 5), some (vI x1), some (vI x2), some (vI x3), some (vO 1), some (vI (s1 + s0)), some (vI (x6 + 1))], [], (sc, ar)) Q from k)
end
section
/-! segments of the methods, printed by tools/seg.py: what must hold at a place for the walk to the next ones -/
theorem sg_Team_leastBetween_0 {sc : Nat → Int} {ar : Nat → Nat → Int} {Q : Option mV → mH → Prop} (k : Q (some (vI (sc 149))) (sc, ar)) :
  Ev 0 M_Team_leastBetween (0, [some (vO 9)], [], (sc, ar)) Q :=
  wq_ok 200 _ _ [] _ _ _ _ _ (show (cO 9 = 7) ∧ (Q (some (vI (sc 149))) (sc, ar)) from ⟨(by decide), k⟩)
theorem sg_Team_teamOf_0 {sc : Nat → Int} {ar : Nat → Nat → Int} {x1 : Int} {Q : Option mV → mH → Prop} (k : Ev 0 M_Dt_valueOf (0, [some (vA 145), some (vI x1)], [], (sc, ar)) (fun r1 h1 => Ev 1 M_Team_teamOf (8, [some (vO 9), some (vI x1)], mPush r1 [], h1) Q)) :
  Ev 1 M_Team_teamOf (0, [some (vO 9), some (vI x1)], [], (sc, ar)) Q :=
  wq_ok 200 _ _ [(8, 2)] _ _ _ _ _ (show (cO 9 = 7) ∧ (Ev 0 M_Dt_valueOf (0, [some (vA 145), some (vI x1)], [], (sc, ar)) (fun r1 h1 => Ev 1 M_Team_teamOf (8, [some (vO 9), some (vI x1)], mPush r1 [], h1) Q)) from ⟨(by decide), k⟩)
theorem sg_Team_teamOf_8 {sc : Nat → Int} {ar : Nat → Nat → Int} {x1 s0 : Int} {Q : Option mV → mH → Prop} (k : Q (some (vI s0)) (sc, ar)) :
  Ev 1 M_Team_teamOf (8, [some (vO 9), some (vI x1)], [vI s0], (sc, ar)) Q :=
  wq_ok 200 _ _ [(8, 2)] _ _ _ _ _ (show Q (some (vI s0)) (sc, ar) from k)
theorem sg_Team_find_0 {sc : Nat → Int} {ar : Nat → Nat → Int} {x1 x3 : Int} {Q : Option mV → mH → Prop} (k : Ev 4 M_Arr_fillI (0, [some (vA 146), some (vI 0), none, none], [], (sc, ar)) (fun r1 h1 => Ev 5 M_Team_find (8, [some (vO 9), some (vI x1), some (vO 1), some (vI x3)], mPush r1 [], h1) Q)) :
  Ev 5 M_Team_find (0, [some (vO 9), some (vI x1), some (vO 1), some (vI x3)], [], (sc, ar)) Q :=
  wq_ok 200 _ _ [(8, 4), (43, 4)] _ _ _ _ _ (show (cO 9 = 7) ∧ (Ev 4 M_Arr_fillI (0, [some (vA 146), some (vI 0), none, none], [], (sc, ar)) (fun r1 h1 => Ev 5 M_Team_find (8, [some (vO 9), some (vI x1), some (vO 1), some (vI x3)], mPush r1 [], h1) Q)) from ⟨(by decide), k⟩)
theorem sg_Team_find_8 {sc : Nat → Int} {ar : Nat → Nat → Int} {x1 x3 : Int} {Q : Option mV → mH → Prop} (k : inR x1 ∧ 
  (Ev 4 M_Team_assign (0, [some (vO 9), some (vO 1), some (vI 0), some (vI 0), some (vI 0), none, none], [], ((up (up (up (up sc 147 (if 8 < x1 then 8 else x1)) 148 x3) 149 1000000) 150 1000000), ar)) (fun r1 h1 => Ev 5 M_Team_find (43, [some (vO 9), some (vI x1), some (vO 1), some (vI x3)], mPush r1 [], h1) Q))) :
  Ev 5 M_Team_find (8, [some (vO 9), some (vI x1), some (vO 1), some (vI x3)], [], (sc, ar)) Q :=
  wq_ok 200 _ _ [(8, 4), (43, 4)] _ _ _ _ _ (show (inR x1 ∧ inR 8 ∧ mCat [vO 9] ≤ 8) ∧ ((cO 9 = 7) ∧ ((cO 9 = 7) ∧ ((cO 9 = 7) ∧ ((cO 9 = 7) ∧ (Ev 4 M_Team_assign (0, [some (vO 9), some (vO 1), some (vI 0), some (vI 0), some (vI 0), none, none], [], ((up (up (up (up sc 147 (if 8 < x1 then 8 else x1)) 148 x3) 149 1000000) 150 1000000), ar)) (fun r1 h1 => Ev 5 M_Team_find (43, [some (vO 9), some (vI x1), some (vO 1), some (vI x3)], mPush r1 [], h1) Q)))))) from ⟨⟨k.1, (by decide), (Nat.le_of_ble_eq_true rfl)⟩, ⟨(by decide), ⟨(by decide), ⟨(by decide), ⟨(by decide), k.2⟩⟩⟩⟩⟩)
theorem sg_Team_find_43 {sc : Nat → Int} {ar : Nat → Nat → Int} {x1 x3 : Int} {Q : Option mV → mH → Prop} (k : Q none (sc, ar)) :
  Ev 5 M_Team_find (43, [some (vO 9), some (vI x1), some (vO 1), some (vI x3)], [], (sc, ar)) Q :=
  wq_ok 200 _ _ [(8, 4), (43, 4)] _ _ _ _ _ (show Q none (sc, ar) from k)
theorem sg_Team_assign_0 {sc : Nat → Int} {ar : Nat → Nat → Int} {x2 x3 x4 : Int} {Q : Option mV → mH → Prop} (k : Ev 3 M_Team_mayBeBetter (0, [some (vO 9), some (vI x3), some (vI x4)], [], (sc, ar)) (fun r1 h1 => Ev 4 M_Team_assign (7, [some (vO 9), some (vO 1), some (vI x2), some (vI x3), some (vI x4), none, none], mPush r1 [], h1) Q)) :
  Ev 4 M_Team_assign (0, [some (vO 9), some (vO 1), some (vI x2), some (vI x3), some (vI x4), none, none], [], (sc, ar)) Q :=
  wq_ok 200 _ _ [(7, 5), (36, 5), (40, 6), (94, 6), (117, 7)] _ _ _ _ _ (show (cO 9 = mK M_Team_mayBeBetter) ∧ (Ev 3 M_Team_mayBeBetter (0, [some (vO 9), some (vI x3), some (vI x4)], [], (sc, ar)) (fun r1 h1 => Ev 4 M_Team_assign (7, [some (vO 9), some (vO 1), some (vI x2), some (vI x3), some (vI x4), none, none], mPush r1 [], h1) Q)) from ⟨(by decide), k⟩)
theorem sg_Team_assign_7 {sc : Nat → Int} {ar : Nat → Nat → Int} {x2 x3 x4 s0 : Int} {Q : Option mV → mH → Prop} (k : inR s0 ∧ 
  (s0 ≠ 0 → (inR x2 ∧ 
    (x2 < 0 → (Ev 3 M_Team_keep (0, [some (vO 9), some (vI x3), some (vI x4)], [], (sc, ar)) (fun r1 h1 => Ev 4 M_Team_assign (36, [some (vO 9), some (vO 1), some (vI x2), some (vI x3), some (vI x4), none, none], mPush r1 [], h1) Q))) ∧ 
    (¬ (x2 < 0) → (inR x2 ∧ inR (sc 147) ∧ 
      ((sc 147) ≤ x2 → (Ev 3 M_Team_keep (0, [some (vO 9), some (vI x3), some (vI x4)], [], (sc, ar)) (fun r1 h1 => Ev 4 M_Team_assign (36, [some (vO 9), some (vO 1), some (vI x2), some (vI x3), some (vI x4), none, none], mPush r1 [], h1) Q))) ∧ 
      (¬ ((sc 147) ≤ x2) → (inR x2 ∧ 
        (x2 < 8 → (Ev 4 M_Team_assign (40, [some (vO 9), some (vO 1), some (vI x2), some (vI x3), some (vI x4), some (vI 0), none], [], (sc, ar)) Q)) ∧ 
        (¬ (x2 < 8) → (Ev 3 M_Team_keep (0, [some (vO 9), some (vI x3), some (vI x4)], [], (sc, ar)) (fun r1 h1 => Ev 4 M_Team_assign (36, [some (vO 9), some (vO 1), some (vI x2), some (vI x3), some (vI x4), none, none], mPush r1 [], h1) Q))))))))) ∧ 
  (¬ (s0 ≠ 0) → (Q none (sc, ar)))) :
  Ev 4 M_Team_assign (7, [some (vO 9), some (vO 1), some (vI x2), some (vI x3), some (vI x4), none, none], [vI s0], (sc, ar)) Q :=
  wq_ok 200 _ _ [(7, 5), (36, 5), (40, 6), (94, 6), (117, 7)] _ _ _ _ _ (show (inR s0) ∧ (s0 ≠ 0 → ((inR x2) ∧ (x2 < 0 → ((cO 9 = mK M_Team_keep) ∧ (Ev 3 M_Team_keep (0, [some (vO 9), some (vI x3), some (vI x4)], [], (sc, ar)) (fun r1 h1 => Ev 4 M_Team_assign (36, [some (vO 9), some (vO 1), some (vI x2), some (vI x3), some (vI x4), none, none], mPush r1 [], h1) Q)))) ∧ (¬ (x2 < 0) → ((cO 9 = 7) ∧ ((inR x2 ∧ inR (sc 147)) ∧ ((sc 147) ≤ x2 → ((cO 9 = mK M_Team_keep) ∧ (Ev 3 M_Team_keep (0, [some (vO 9), some (vI x3), some (vI x4)], [], (sc, ar)) (fun r1 h1 => Ev 4 M_Team_assign (36, [some (vO 9), some (vO 1), some (vI x2), some (vI x3), some (vI x4), none, none], mPush r1 [], h1) Q)))) ∧ (¬ ((sc 147) ≤ x2) → ((inR x2 ∧ inR 8) ∧ (x2 < 8 → (Ev 4 M_Team_assign (40, [some (vO 9), some (vO 1), some (vI x2), some (vI x3), some (vI x4), some (vI 0), none], [], (sc, ar)) Q)) ∧ (¬ (x2 < 8) → ((cO 9 = mK M_Team_keep) ∧ (Ev 3 M_Team_keep (0, [some (vO 9), some (vI x3), some (vI x4)], [], (sc, ar)) (fun r1 h1 => Ev 4 M_Team_assign (36, [some (vO 9), some (vO 1), some (vI x2), some (vI x3), some (vI x4), none, none], mPush r1 [], h1) Q))))))))))) ∧ (¬ (s0 ≠ 0) → (Q none (sc, ar))) from ⟨k.1, fun c1 => ⟨(k.2.1 c1).1, fun c2 => ⟨(by decide), ((k.2.1 c1).2.1 c2)⟩, fun c2 => ⟨(by decide), ⟨⟨((k.2.1 c1).2.2 c2).1, ((k.2.1 c1).2.2 c2).2.1⟩, fun c3 => ⟨(by decide), (((k.2.1 c1).2.2 c2).2.2.1 c3)⟩, fun c3 => ⟨⟨(((k.2.1 c1).2.2 c2).2.2.2 c3).1, (by decide)⟩, fun c4 => ((((k.2.1 c1).2.2 c2).2.2.2 c3).2.1 c4), fun c4 => ⟨(by decide), ((((k.2.1 c1).2.2 c2).2.2.2 c3).2.2 c4)⟩⟩⟩⟩⟩, fun c1 => (k.2.2 c1)⟩)
theorem sg_Team_assign_36 {sc : Nat → Int} {ar : Nat → Nat → Int} {x2 x3 x4 : Int} {Q : Option mV → mH → Prop} (k : Q none (sc, ar)) :
  Ev 4 M_Team_assign (36, [some (vO 9), some (vO 1), some (vI x2), some (vI x3), some (vI x4), none, none], [], (sc, ar)) Q :=
  wq_ok 200 _ _ [(7, 5), (36, 5), (40, 6), (94, 6), (117, 7)] _ _ _ _ _ (show Q none (sc, ar) from k)
theorem sg_Team_assign_40 {sc : Nat → Int} {ar : Nat → Nat → Int} {x2 x3 x4 x5 : Int} {Q : Option mV → mH → Prop} (k : inR x5 ∧ inR x3 ∧ 
  (x3 < x5 → (Q none (sc, ar))) ∧ 
  (¬ (x3 < x5) → (inR x5 ∧ 
    (8 ≤ x5 → (Q none (sc, ar))) ∧ 
    (¬ (8 ≤ x5) → ((0 : Int) ≤ x5 ∧ x5 < (8 : Int) ∧ 
      (inR (ar 146 x5.toNat) ∧ inR (sc 148) ∧ 
      ((sc 148) ≤ (ar 146 x5.toNat) → (Ev 4 M_Team_assign (40, [some (vO 9), some (vO 1), some (vI x2), some (vI x3), some (vI x4), some (vI (x5 + 1)), none], [], (sc, ar)) Q)) ∧ 
      (¬ ((sc 148) ≤ (ar 146 x5.toNat)) → ((0 : Int) ≤ x2 ∧ x2 < (8 : Int) ∧ 
        ((0 : Int) ≤ x5 ∧ x5 < (8 : Int) ∧ 
        ((0 : Int) ≤ x5 ∧ x5 < (8 : Int) ∧ 
        (Ev 3 M_Team_cutBefore (0, [some (vO 9), some (vI x2), some (vI x5), some (vO 1), none, none], [], (sc, (up (up ar 144 (up (ar 144) x2.toNat x5)) 146 (up (ar 146) x5.toNat ((ar 146 x5.toNat) + 1))))) (fun r1 h1 => Ev 4 M_Team_assign (94, [some (vO 9), some (vO 1), some (vI x2), some (vI x3), some (vI x4), some (vI x5), none], mPush r1 [], h1) Q)))))))))))) :
  Ev 4 M_Team_assign (40, [some (vO 9), some (vO 1), some (vI x2), some (vI x3), some (vI x4), some (vI x5), none], [], (sc, ar)) Q :=
  wq_ok 200 _ _ [(7, 5), (36, 5), (40, 6), (94, 6), (117, 7)] _ _ _ _ _ (show (inR x5 ∧ inR x3) ∧ (x3 < x5 → (Q none (sc, ar))) ∧ (¬ (x3 < x5) → ((inR x5 ∧ inR 8) ∧ (8 ≤ x5 → (Q none (sc, ar))) ∧ (¬ (8 ≤ x5) → ((cO 9 = 7) ∧ ((aK 146 = 0 ∧ (0 : Int) ≤ x5 ∧ x5 < (8 : Int)) ∧ ((cO 9 = 7) ∧ ((inR (ar 146 x5.toNat) ∧ inR (sc 148)) ∧ ((sc 148) ≤ (ar 146 x5.toNat) → (Ev 4 M_Team_assign (40, [some (vO 9), some (vO 1), some (vI x2), some (vI x3), some (vI x4), some (vI (x5 + 1)), none], [], (sc, ar)) Q)) ∧ (¬ ((sc 148) ≤ (ar 146 x5.toNat)) → ((cO 9 = 7) ∧ ((aK 144 = 0 ∧ 144 ≠ 999 ∧ (0 : Int) ≤ x2 ∧ x2 < (8 : Int)) ∧ ((cO 9 = 7) ∧ ((aK 146 = 0 ∧ (0 : Int) ≤ x5 ∧ x5 < (8 : Int)) ∧ ((aK 146 = 0 ∧ 146 ≠ 999 ∧ (0 : Int) ≤ x5 ∧ x5 < (8 : Int)) ∧ ((cO 9 = mK M_Team_cutBefore) ∧ (Ev 3 M_Team_cutBefore (0, [some (vO 9), some (vI x2), some (vI x5), some (vO 1), none, none], [], (sc, (up (up ar 144 (up (ar 144) x2.toNat x5)) 146 (up (ar 146) x5.toNat ((ar 146 x5.toNat) + 1))))) (fun r1 h1 => Ev 4 M_Team_assign (94, [some (vO 9), some (vO 1), some (vI x2), some (vI x3), some (vI x4), some (vI x5), none], mPush r1 [], h1) Q)))))))))))))))) from ⟨⟨k.1, k.2.1⟩, fun c1 => (k.2.2.1 c1), fun c1 => ⟨⟨(k.2.2.2 c1).1, (by decide)⟩, fun c2 => ((k.2.2.2 c1).2.1 c2), fun c2 => ⟨(by decide), ⟨⟨(by decide), ((k.2.2.2 c1).2.2 c2).1, ((k.2.2.2 c1).2.2 c2).2.1⟩, ⟨(by decide), ⟨⟨((k.2.2.2 c1).2.2 c2).2.2.1, ((k.2.2.2 c1).2.2 c2).2.2.2.1⟩, fun c3 => (((k.2.2.2 c1).2.2 c2).2.2.2.2.1 c3), fun c3 => ⟨(by decide), ⟨⟨(by decide), (by decide), (((k.2.2.2 c1).2.2 c2).2.2.2.2.2 c3).1, (((k.2.2.2 c1).2.2 c2).2.2.2.2.2 c3).2.1⟩, ⟨(by decide), ⟨⟨(by decide), (((k.2.2.2 c1).2.2 c2).2.2.2.2.2 c3).2.2.1, (((k.2.2.2 c1).2.2 c2).2.2.2.2.2 c3).2.2.2.1⟩, ⟨⟨(by decide), (by decide), (((k.2.2.2 c1).2.2 c2).2.2.2.2.2 c3).2.2.2.2.1, (((k.2.2.2 c1).2.2 c2).2.2.2.2.2 c3).2.2.2.2.2.1⟩, ⟨(by decide), (((k.2.2.2 c1).2.2 c2).2.2.2.2.2 c3).2.2.2.2.2.2⟩⟩⟩⟩⟩⟩⟩⟩⟩⟩⟩⟩)
theorem sg_Team_assign_94 {sc : Nat → Int} {ar : Nat → Nat → Int} {x2 x3 x4 x5 s0 : Int} {Q : Option mV → mH → Prop} (k : inR x3 ∧ inR (x5 + 1) ∧ 
  (Ev 3 M_Team_assign (0, [some (vO 9), some (vO 1), some (vI (x2 + 1)), some (vI (if x3 < (x5 + 1) then (x5 + 1) else x3)), some (vI (x4 + s0)), none, none], [], (sc, ar)) (fun r1 h1 => Ev 4 M_Team_assign (117, [some (vO 9), some (vO 1), some (vI x2), some (vI x3), some (vI x4), some (vI x5), some (vI s0)], mPush r1 [], h1) Q))) :
  Ev 4 M_Team_assign (94, [some (vO 9), some (vO 1), some (vI x2), some (vI x3), some (vI x4), some (vI x5), none], [vI s0], (sc, ar)) Q :=
  wq_ok 200 _ _ [(7, 5), (36, 5), (40, 6), (94, 6), (117, 7)] _ _ _ _ _ (show (inR x3 ∧ inR (x5 + 1) ∧ mCat [vI (x2 + 1), vO 1, vO 9] ≤ 8) ∧ (Ev 3 M_Team_assign (0, [some (vO 9), some (vO 1), some (vI (x2 + 1)), some (vI (if x3 < (x5 + 1) then (x5 + 1) else x3)), some (vI (x4 + s0)), none, none], [], (sc, ar)) (fun r1 h1 => Ev 4 M_Team_assign (117, [some (vO 9), some (vO 1), some (vI x2), some (vI x3), some (vI x4), some (vI x5), some (vI s0)], mPush r1 [], h1) Q)) from ⟨⟨k.1, k.2.1, (Nat.le_of_ble_eq_true rfl)⟩, k.2.2⟩)
theorem sg_Team_assign_117 {sc : Nat → Int} {ar : Nat → Nat → Int} {x2 x3 x4 x5 x6 : Int} {Q : Option mV → mH → Prop} (k : (0 : Int) ≤ x5 ∧ x5 < (8 : Int) ∧ 
  ((0 : Int) ≤ x5 ∧ x5 < (8 : Int) ∧ 
  (Ev 4 M_Team_assign (40, [some (vO 9), some (vO 1), some (vI x2), some (vI x3), some (vI x4), some (vI (x5 + 1)), none], [], (sc, (up ar 146 (up (ar 146) x5.toNat ((ar 146 x5.toNat) - 1))))) Q))) :
  Ev 4 M_Team_assign (117, [some (vO 9), some (vO 1), some (vI x2), some (vI x3), some (vI x4), some (vI x5), some (vI x6)], [], (sc, ar)) Q :=
  wq_ok 200 _ _ [(7, 5), (36, 5), (40, 6), (94, 6), (117, 7)] _ _ _ _ _ (show (cO 9 = 7) ∧ ((aK 146 = 0 ∧ (0 : Int) ≤ x5 ∧ x5 < (8 : Int)) ∧ ((aK 146 = 0 ∧ 146 ≠ 999 ∧ (0 : Int) ≤ x5 ∧ x5 < (8 : Int)) ∧ (Ev 4 M_Team_assign (40, [some (vO 9), some (vO 1), some (vI x2), some (vI x3), some (vI x4), some (vI (x5 + 1)), none], [], (sc, (up ar 146 (up (ar 146) x5.toNat ((ar 146 x5.toNat) - 1))))) Q))) from ⟨(by decide), ⟨⟨(by decide), k.1, k.2.1⟩, ⟨⟨(by decide), (by decide), k.2.2.1, k.2.2.2.1⟩, k.2.2.2.2⟩⟩⟩)
theorem sg_Team_mayBeBetter_0 {sc : Nat → Int} {ar : Nat → Nat → Int} {x1 x2 : Int} {Q : Option mV → mH → Prop} (k : inR x2 ∧ inR (sc 149) ∧ 
  (x2 < (sc 149) → (Q (some (vI 1)) (sc, ar))) ∧ 
  (¬ (x2 < (sc 149)) → (inR x2 ∧ inR (sc 149) ∧ 
    (x2 ≠ (sc 149) → (Q (some (vI 0)) (sc, ar))) ∧ 
    (¬ (x2 ≠ (sc 149)) → (inR x1 ∧ inR (sc 150) ∧ 
      ((sc 150) ≤ x1 → (Q (some (vI 0)) (sc, ar))) ∧ 
      (¬ ((sc 150) ≤ x1) → (Q (some (vI 1)) (sc, ar)))))))) :
  Ev 0 M_Team_mayBeBetter (0, [some (vO 9), some (vI x1), some (vI x2)], [], (sc, ar)) Q :=
  wq_ok 200 _ _ [] _ _ _ _ _ (show (cO 9 = 7) ∧ ((inR x2 ∧ inR (sc 149)) ∧ (x2 < (sc 149) → (((0 : Int) ≤ 1 ∧ (1 : Int) ≤ 1) ∧ (Q (some (vI 1)) (sc, ar)))) ∧ (¬ (x2 < (sc 149)) → ((cO 9 = 7) ∧ ((inR x2 ∧ inR (sc 149)) ∧ (x2 ≠ (sc 149) → (((0 : Int) ≤ 0 ∧ (0 : Int) ≤ 1) ∧ (Q (some (vI 0)) (sc, ar)))) ∧ (¬ (x2 ≠ (sc 149)) → ((cO 9 = 7) ∧ ((inR x1 ∧ inR (sc 150)) ∧ ((sc 150) ≤ x1 → (((0 : Int) ≤ 0 ∧ (0 : Int) ≤ 1) ∧ (Q (some (vI 0)) (sc, ar)))) ∧ (¬ ((sc 150) ≤ x1) → (((0 : Int) ≤ 1 ∧ (1 : Int) ≤ 1) ∧ (Q (some (vI 1)) (sc, ar))))))))))) from ⟨(by decide), ⟨⟨k.1, k.2.1⟩, fun c1 => ⟨⟨(by decide), (by decide)⟩, (k.2.2.1 c1)⟩, fun c1 => ⟨(by decide), ⟨⟨(k.2.2.2 c1).1, (k.2.2.2 c1).2.1⟩, fun c2 => ⟨⟨(by decide), (by decide)⟩, ((k.2.2.2 c1).2.2.1 c2)⟩, fun c2 => ⟨(by decide), ⟨⟨((k.2.2.2 c1).2.2.2 c2).1, ((k.2.2.2 c1).2.2.2 c2).2.1⟩, fun c3 => ⟨⟨(by decide), (by decide)⟩, (((k.2.2.2 c1).2.2.2 c2).2.2.1 c3)⟩, fun c3 => ⟨⟨(by decide), (by decide)⟩, (((k.2.2.2 c1).2.2.2 c2).2.2.2 c3)⟩⟩⟩⟩⟩⟩⟩)
theorem sg_Team_keep_0 {sc : Nat → Int} {ar : Nat → Nat → Int} {x1 x2 : Int} {Q : Option mV → mH → Prop} (k : Q none ((up (up sc 149 x2) 150 x1), (up ar 145 (cpy (ar 144) (ar 145) (0 : Int).toNat (0 : Int).toNat (8 : Int).toNat)))) :
  Ev 0 M_Team_keep (0, [some (vO 9), some (vI x1), some (vI x2)], [], (sc, ar)) Q :=
  wq_ok 200 _ _ [] _ _ _ _ _ (show (cO 9 = 7) ∧ ((cO 9 = 7) ∧ ((cO 9 = 7) ∧ ((cO 9 = 7) ∧ ((aK 144 = 0 ∧ 144 ≠ 999 ∧ aK 145 = 0 ∧ 145 ≠ 999 ∧ 0 ≤ (8 : Int) ∧ 0 ≤ (0 : Int) ∧ 0 ≤ (0 : Int) ∧ (0 : Int) + 8 ≤ aN 144 ∧ (0 : Int) + 8 ≤ aN 145) ∧ (Q none ((up (up sc 149 x2) 150 x1), (up ar 145 (cpy (ar 144) (ar 145) (0 : Int).toNat (0 : Int).toNat (8 : Int).toNat)))))))) from ⟨(by decide), ⟨(by decide), ⟨(by decide), ⟨(by decide), ⟨⟨(by decide), (by decide), (by decide), (by decide), (by decide), (by decide), (by decide), (by decide), (by decide)⟩, k⟩⟩⟩⟩⟩)
theorem sg_Team_cutBefore_0 {sc : Nat → Int} {ar : Nat → Nat → Int} {x1 x2 : Int} {Q : Option mV → mH → Prop} (k : Ev 3 M_Team_cutBefore (6, [some (vO 9), some (vI x1), some (vI x2), some (vO 1), some (vI 0), some (vI 0)], [], (sc, ar)) Q) :
  Ev 3 M_Team_cutBefore (0, [some (vO 9), some (vI x1), some (vI x2), some (vO 1), none, none], [], (sc, ar)) Q :=
  wq_ok 200 _ _ [(6, 6), (39, 6)] _ _ _ _ _ (show Ev 3 M_Team_cutBefore (6, [some (vO 9), some (vI x1), some (vI x2), some (vO 1), some (vI 0), some (vI 0)], [], (sc, ar)) Q from k)
theorem sg_Team_cutBefore_6 {sc : Nat → Int} {ar : Nat → Nat → Int} {x1 x2 x4 x5 : Int} {Q : Option mV → mH → Prop} (k : inR x5 ∧ inR x1 ∧ 
  (x1 ≤ x5 → (Q (some (vI x4)) (sc, ar))) ∧ 
  (¬ (x1 ≤ x5) → (inR x5 ∧ 
    (8 ≤ x5 → (Q (some (vI x4)) (sc, ar))) ∧ 
    (¬ (8 ≤ x5) → ((0 : Int) ≤ x5 ∧ x5 < (8 : Int) ∧ 
      (inR (ar 144 x5.toNat) ∧ inR x2 ∧ 
      ((ar 144 x5.toNat) = x2 → (Ev 3 M_Team_cutBefore (6, [some (vO 9), some (vI x1), some (vI x2), some (vO 1), some (vI (x4 + 0)), some (vI (x5 + 1))], [], (sc, ar)) Q)) ∧ 
      (¬ ((ar 144 x5.toNat) = x2) → (Ev 2 M_Table_bothWays (0, [some (vO 1), some (vI x1), some (vI x5)], [], (sc, ar)) (fun r1 h1 => Ev 3 M_Team_cutBefore (39, [some (vO 9), some (vI x1), some (vI x2), some (vO 1), some (vI x4), some (vI x5)], mPush r1 [vI x4], h1) Q))))))))) :
  Ev 3 M_Team_cutBefore (6, [some (vO 9), some (vI x1), some (vI x2), some (vO 1), some (vI x4), some (vI x5)], [], (sc, ar)) Q :=
  wq_ok 200 _ _ [(6, 6), (39, 6)] _ _ _ _ _ (show (inR x5 ∧ inR x1) ∧ (x1 ≤ x5 → (Q (some (vI x4)) (sc, ar))) ∧ (¬ (x1 ≤ x5) → ((inR x5 ∧ inR 8) ∧ (8 ≤ x5 → (Q (some (vI x4)) (sc, ar))) ∧ (¬ (8 ≤ x5) → ((cO 9 = 7) ∧ ((aK 144 = 0 ∧ (0 : Int) ≤ x5 ∧ x5 < (8 : Int)) ∧ ((inR (ar 144 x5.toNat) ∧ inR x2) ∧ ((ar 144 x5.toNat) = x2 → (Ev 3 M_Team_cutBefore (6, [some (vO 9), some (vI x1), some (vI x2), some (vO 1), some (vI (x4 + 0)), some (vI (x5 + 1))], [], (sc, ar)) Q)) ∧ (¬ ((ar 144 x5.toNat) = x2) → ((cO 1 = mK M_Table_bothWays) ∧ (Ev 2 M_Table_bothWays (0, [some (vO 1), some (vI x1), some (vI x5)], [], (sc, ar)) (fun r1 h1 => Ev 3 M_Team_cutBefore (39, [some (vO 9), some (vI x1), some (vI x2), some (vO 1), some (vI x4), some (vI x5)], mPush r1 [vI x4], h1) Q)))))))))) from ⟨⟨k.1, k.2.1⟩, fun c1 => (k.2.2.1 c1), fun c1 => ⟨⟨(k.2.2.2 c1).1, (by decide)⟩, fun c2 => ((k.2.2.2 c1).2.1 c2), fun c2 => ⟨(by decide), ⟨⟨(by decide), ((k.2.2.2 c1).2.2 c2).1, ((k.2.2.2 c1).2.2 c2).2.1⟩, ⟨⟨((k.2.2.2 c1).2.2 c2).2.2.1, ((k.2.2.2 c1).2.2 c2).2.2.2.1⟩, fun c3 => (((k.2.2.2 c1).2.2 c2).2.2.2.2.1 c3), fun c3 => ⟨(by decide), (((k.2.2.2 c1).2.2 c2).2.2.2.2.2 c3)⟩⟩⟩⟩⟩⟩)
theorem sg_Team_cutBefore_39 {sc : Nat → Int} {ar : Nat → Nat → Int} {x1 x2 x4 x5 s0 s1 : Int} {Q : Option mV → mH → Prop} (k : Ev 3 M_Team_cutBefore (6, [some (vO 9), some (vI x1), some (vI x2), some (vO 1), some (vI (s1 + s0)), some (vI (x5 + 1))], [], (sc, ar)) Q) :
  Ev 3 M_Team_cutBefore (39, [some (vO 9), some (vI x1), some (vI x2), some (vO 1), some (vI x4), some (vI x5)], [vI s0, vI s1], (sc, ar)) Q :=
  wq_ok 200 _ _ [(6, 6), (39, 6)] _ _ _ _ _ (show Ev 3 M_Team_cutBefore (6, [some (vO 9), some (vI x1), some (vI x2), some (vO 1), some (vI (s1 + s0)), some (vI (x5 + 1))], [], (sc, ar)) Q from k)
theorem sg_Returns_above_0 {sc : Nat → Int} {ar : Nat → Nat → Int} {Q : Option mV → mH → Prop} (k : Ev 0 M_Returns_above (14, [some (vO 7), some (vL 0), none, some (vA 112), some (vI 8), some (vI 0), none, none], [], (sc, ar)) Q) :
  Ev 0 M_Returns_above (0, [some (vO 7), none, none, none, none, none, none, none], [], (sc, ar)) Q :=
  wq_ok 200 _ _ [(14, 6)] _ _ _ _ _ (show (cO 7 = 3) ∧ ((aK 112 ≤ 2) ∧ (Ev 0 M_Returns_above (14, [some (vO 7), some (vL 0), none, some (vA 112), some (vI 8), some (vI 0), none, none], [], (sc, ar)) Q)) from ⟨(by decide), ⟨(by decide), k⟩⟩)
theorem sg_Returns_above_14 {sc : Nat → Int} {ar : Nat → Nat → Int} {x1 x4 x5 : Int} {Q : Option mV → mH → Prop} (k : inR x5 ∧ inR x4 ∧ 
  (x4 ≤ x5 → (Q (some (vL x1)) (sc, ar))) ∧ 
  (¬ (x4 ≤ x5) → ((0 : Int) ≤ x5 ∧ x5 < (8 : Int) ∧ 
    (Ev 0 M_Returns_above (14, [some (vO 7), some (vL (x1 + (ar 112 x5.toNat))), none, some (vA 112), some (vI x4), some (vI (x5 + 1)), none, none], [], (sc, ar)) Q)))) :
  Ev 0 M_Returns_above (14, [some (vO 7), some (vL x1), none, some (vA 112), some (vI x4), some (vI x5), none, none], [], (sc, ar)) Q :=
  wq_ok 200 _ _ [(14, 6)] _ _ _ _ _ (show (inR x5 ∧ inR x4) ∧ (x4 ≤ x5 → (Q (some (vL x1)) (sc, ar))) ∧ (¬ (x4 ≤ x5) → ((aK 112 = 1 ∧ (0 : Int) ≤ x5 ∧ x5 < (8 : Int)) ∧ (Ev 0 M_Returns_above (14, [some (vO 7), some (vL (x1 + (ar 112 x5.toNat))), none, some (vA 112), some (vI x4), some (vI (x5 + 1)), none, none], [], (sc, ar)) Q))) from ⟨⟨k.1, k.2.1⟩, fun c1 => (k.2.2.1 c1), fun c1 => ⟨⟨(by decide), (k.2.2.2 c1).1, (k.2.2.2 c1).2.1⟩, (k.2.2.2 c1).2.2⟩⟩)
theorem sg_Returns_below_0 {sc : Nat → Int} {ar : Nat → Nat → Int} {Q : Option mV → mH → Prop} (k : Q (some (vL (sc 114))) (sc, ar)) :
  Ev 0 M_Returns_below (0, [some (vO 7)], [], (sc, ar)) Q :=
  wq_ok 200 _ _ [] _ _ _ _ _ (show (cO 7 = 3) ∧ (Q (some (vL (sc 114))) (sc, ar)) from ⟨(by decide), k⟩)
theorem sg_Returns_reckonOne_0 {sc : Nat → Int} {ar : Nat → Nat → Int} {x3 : Int} {Q : Option mV → mH → Prop} (k : Ev 3 M_Returns_reckonOne (3, [some (vO 7), some (vO 3), some (vO 2), some (vI x3), some (vI 0)], [], (sc, ar)) Q) :
  Ev 3 M_Returns_reckonOne (0, [some (vO 7), some (vO 3), some (vO 2), some (vI x3), none], [], (sc, ar)) Q :=
  wq_ok 200 _ _ [(3, 5), (44, 5)] _ _ _ _ _ (show Ev 3 M_Returns_reckonOne (3, [some (vO 7), some (vO 3), some (vO 2), some (vI x3), some (vI 0)], [], (sc, ar)) Q from k)
theorem sg_Returns_reckonOne_3 {sc : Nat → Int} {ar : Nat → Nat → Int} {x3 x4 : Int} {Q : Option mV → mH → Prop} (k : inR x4 ∧ 
  (8 ≤ x4 → (Ev 2 M_Returns_reckon (0, [some (vO 7), some (vO 3), some (vO 2), some (vA 113), none, none, none, none, none, none, none], [], (sc, ar)) (fun r1 h1 => Ev 3 M_Returns_reckonOne (44, [some (vO 7), some (vO 3), some (vO 2), some (vI x3), some (vI x4)], mPush r1 [], h1) Q))) ∧ 
  (¬ (8 ≤ x4) → (inR x4 ∧ inR x3 ∧ 
    (x4 ≠ x3 → ((0 : Int) ≤ x4 ∧ x4 < (8 : Int) ∧ 
      (Ev 3 M_Returns_reckonOne (3, [some (vO 7), some (vO 3), some (vO 2), some (vI x3), some (vI (x4 + 1))], [], (sc, (up ar 113 (up (ar 113) x4.toNat 0)))) Q))) ∧ 
    (¬ (x4 ≠ x3) → ((0 : Int) ≤ x4 ∧ x4 < (8 : Int) ∧ 
      (Ev 3 M_Returns_reckonOne (3, [some (vO 7), some (vO 3), some (vO 2), some (vI x3), some (vI (x4 + 1))], [], (sc, (up ar 113 (up (ar 113) x4.toNat 1)))) Q)))))) :
  Ev 3 M_Returns_reckonOne (3, [some (vO 7), some (vO 3), some (vO 2), some (vI x3), some (vI x4)], [], (sc, ar)) Q :=
  wq_ok 200 _ _ [(3, 5), (44, 5)] _ _ _ _ _ (show (inR x4 ∧ inR 8) ∧ (8 ≤ x4 → ((cO 7 = 3) ∧ ((cO 7 = mK M_Returns_reckon) ∧ (Ev 2 M_Returns_reckon (0, [some (vO 7), some (vO 3), some (vO 2), some (vA 113), none, none, none, none, none, none, none], [], (sc, ar)) (fun r1 h1 => Ev 3 M_Returns_reckonOne (44, [some (vO 7), some (vO 3), some (vO 2), some (vI x3), some (vI x4)], mPush r1 [], h1) Q))))) ∧ (¬ (8 ≤ x4) → ((cO 7 = 3) ∧ ((inR x4 ∧ inR x3) ∧ (x4 ≠ x3 → ((aK 113 = 0 ∧ 113 ≠ 999 ∧ (0 : Int) ≤ x4 ∧ x4 < (8 : Int)) ∧ (Ev 3 M_Returns_reckonOne (3, [some (vO 7), some (vO 3), some (vO 2), some (vI x3), some (vI (x4 + 1))], [], (sc, (up ar 113 (up (ar 113) x4.toNat 0)))) Q))) ∧ (¬ (x4 ≠ x3) → ((aK 113 = 0 ∧ 113 ≠ 999 ∧ (0 : Int) ≤ x4 ∧ x4 < (8 : Int)) ∧ (Ev 3 M_Returns_reckonOne (3, [some (vO 7), some (vO 3), some (vO 2), some (vI x3), some (vI (x4 + 1))], [], (sc, (up ar 113 (up (ar 113) x4.toNat 1)))) Q)))))) from ⟨⟨k.1, (by decide)⟩, fun c1 => ⟨(by decide), ⟨(by decide), (k.2.1 c1)⟩⟩, fun c1 => ⟨(by decide), ⟨⟨(k.2.2 c1).1, (k.2.2 c1).2.1⟩, fun c2 => ⟨⟨(by decide), (by decide), ((k.2.2 c1).2.2.1 c2).1, ((k.2.2 c1).2.2.1 c2).2.1⟩, ((k.2.2 c1).2.2.1 c2).2.2⟩, fun c2 => ⟨⟨(by decide), (by decide), ((k.2.2 c1).2.2.2 c2).1, ((k.2.2 c1).2.2.2 c2).2.1⟩, ((k.2.2 c1).2.2.2 c2).2.2⟩⟩⟩⟩)
theorem sg_Returns_reckonOne_44 {sc : Nat → Int} {ar : Nat → Nat → Int} {x3 x4 : Int} {Q : Option mV → mH → Prop} (k : Q none (sc, ar)) :
  Ev 3 M_Returns_reckonOne (44, [some (vO 7), some (vO 3), some (vO 2), some (vI x3), some (vI x4)], [], (sc, ar)) Q :=
  wq_ok 200 _ _ [(3, 5), (44, 5)] _ _ _ _ _ (show Q none (sc, ar) from k)
theorem sg_Returns_reckon_0t {sc : Nat → Int} {ar : Nat → Nat → Int} {Q : Option mV → mH → Prop} (k : Ev 1 M_Arr_fillL (0, [some (vA 112), some (vL 0), none, none, none], [], (sc, ar)) (fun r1 h1 => Ev 2 M_Returns_reckon (8, [some (vO 7), some (vO 3), some (vO 2), some (vA 0), none, none, none, none, none, none, none], mPush r1 [], h1) Q)) :
  Ev 2 M_Returns_reckon (0, [some (vO 7), some (vO 3), some (vO 2), some (vA 0), none, none, none, none, none, none, none], [], (sc, ar)) Q :=
  wq_ok 200 _ _ [(8, 4), (16, 5), (22, 5), (38, 5), (57, 7), (64, 10), (80, 10), (83, 10), (105, 11), (126, 10)] _ _ _ _ _ (show (cO 7 = 3) ∧ (Ev 1 M_Arr_fillL (0, [some (vA 112), some (vL 0), none, none, none], [], (sc, ar)) (fun r1 h1 => Ev 2 M_Returns_reckon (8, [some (vO 7), some (vO 3), some (vO 2), some (vA 0), none, none, none, none, none, none, none], mPush r1 [], h1) Q)) from ⟨(by decide), k⟩)
theorem sg_Returns_reckon_8t {sc : Nat → Int} {ar : Nat → Nat → Int} {Q : Option mV → mH → Prop} (k : Ev 2 M_Returns_reckon (16, [some (vO 7), some (vO 3), some (vO 2), some (vA 0), some (vI 0), none, none, none, none, none, none], [], ((up sc 114 1), ar)) Q) :
  Ev 2 M_Returns_reckon (8, [some (vO 7), some (vO 3), some (vO 2), some (vA 0), none, none, none, none, none, none, none], [], (sc, ar)) Q :=
  wq_ok 200 _ _ [(8, 4), (16, 5), (22, 5), (38, 5), (57, 7), (64, 10), (80, 10), (83, 10), (105, 11), (126, 10)] _ _ _ _ _ (show (cO 7 = 3) ∧ (Ev 2 M_Returns_reckon (16, [some (vO 7), some (vO 3), some (vO 2), some (vA 0), some (vI 0), none, none, none, none, none, none], [], ((up sc 114 1), ar)) Q) from ⟨(by decide), k⟩)
theorem sg_Returns_reckon_16t {sc : Nat → Int} {ar : Nat → Nat → Int} {x4 : Int} {Q : Option mV → mH → Prop} (k : Ev 1 M_Order_length (0, [some (vO 3)], [], (sc, ar)) (fun r1 h1 => Ev 2 M_Returns_reckon (22, [some (vO 7), some (vO 3), some (vO 2), some (vA 0), some (vI x4), none, none, none, none, none, none], mPush r1 [vI x4], h1) Q)) :
  Ev 2 M_Returns_reckon (16, [some (vO 7), some (vO 3), some (vO 2), some (vA 0), some (vI x4), none, none, none, none, none, none], [], (sc, ar)) Q :=
  wq_ok 200 _ _ [(8, 4), (16, 5), (22, 5), (38, 5), (57, 7), (64, 10), (80, 10), (83, 10), (105, 11), (126, 10)] _ _ _ _ _ (show (cO 3 = mK M_Order_length) ∧ (Ev 1 M_Order_length (0, [some (vO 3)], [], (sc, ar)) (fun r1 h1 => Ev 2 M_Returns_reckon (22, [some (vO 7), some (vO 3), some (vO 2), some (vA 0), some (vI x4), none, none, none, none, none, none], mPush r1 [vI x4], h1) Q)) from ⟨(by decide), k⟩)
theorem sg_Returns_reckon_22t {sc : Nat → Int} {ar : Nat → Nat → Int} {x4 s0 s1 : Int} {Q : Option mV → mH → Prop} (k : inR s1 ∧ inR s0 ∧ 
  (s0 ≤ s1 → (Q none (sc, ar))) ∧ 
  (¬ (s0 ≤ s1) → (inR x4 ∧ 
    (8 ≤ x4 → (Q none (sc, ar))) ∧ 
    (¬ (8 ≤ x4) → (Ev 1 M_Order_taskAt (0, [some (vO 3), some (vI x4)], [], (sc, ar)) (fun r1 h1 => Ev 2 M_Returns_reckon (38, [some (vO 7), some (vO 3), some (vO 2), some (vA 0), some (vI x4), none, none, none, none, none, none], mPush r1 [], h1) Q)))))) :
  Ev 2 M_Returns_reckon (22, [some (vO 7), some (vO 3), some (vO 2), some (vA 0), some (vI x4), none, none, none, none, none, none], [vI s0, vI s1], (sc, ar)) Q :=
  wq_ok 200 _ _ [(8, 4), (16, 5), (22, 5), (38, 5), (57, 7), (64, 10), (80, 10), (83, 10), (105, 11), (126, 10)] _ _ _ _ _ (show (inR s1 ∧ inR s0) ∧ (s0 ≤ s1 → (Q none (sc, ar))) ∧ (¬ (s0 ≤ s1) → ((inR x4 ∧ inR 8) ∧ (8 ≤ x4 → (Q none (sc, ar))) ∧ (¬ (8 ≤ x4) → ((cO 3 = mK M_Order_taskAt) ∧ (Ev 1 M_Order_taskAt (0, [some (vO 3), some (vI x4)], [], (sc, ar)) (fun r1 h1 => Ev 2 M_Returns_reckon (38, [some (vO 7), some (vO 3), some (vO 2), some (vA 0), some (vI x4), none, none, none, none, none, none], mPush r1 [], h1) Q)))))) from ⟨⟨k.1, k.2.1⟩, fun c1 => (k.2.2.1 c1), fun c1 => ⟨⟨(k.2.2.2 c1).1, (by decide)⟩, fun c2 => ((k.2.2.2 c1).2.1 c2), fun c2 => ⟨(by decide), ((k.2.2.2 c1).2.2 c2)⟩⟩⟩)
theorem sg_Returns_reckon_38t {sc : Nat → Int} {ar : Nat → Nat → Int} {x4 s0 : Int} {Q : Option mV → mH → Prop} (k : Ev 1 M_Dt_valueOf (0, [some (vA 0), some (vI s0)], [], (sc, ar)) (fun r1 h1 => Ev 2 M_Returns_reckon (57, [some (vO 7), some (vO 3), some (vO 2), some (vA 0), some (vI x4), some (vI s0), some (vI 0), none, none, none, none], mPush r1 [vL (10 * (sc 114))], h1) Q)) :
  Ev 2 M_Returns_reckon (38, [some (vO 7), some (vO 3), some (vO 2), some (vA 0), some (vI x4), none, none, none, none, none, none], [vI s0], (sc, ar)) Q :=
  wq_ok 200 _ _ [(8, 4), (16, 5), (22, 5), (38, 5), (57, 7), (64, 10), (80, 10), (83, 10), (105, 11), (126, 10)] _ _ _ _ _ (show (cO 7 = 3) ∧ (Ev 1 M_Dt_valueOf (0, [some (vA 0), some (vI s0)], [], (sc, ar)) (fun r1 h1 => Ev 2 M_Returns_reckon (57, [some (vO 7), some (vO 3), some (vO 2), some (vA 0), some (vI x4), some (vI s0), some (vI 0), none, none, none, none], mPush r1 [vL (10 * (sc 114))], h1) Q)) from ⟨(by decide), k⟩)
theorem sg_Returns_reckon_57t {sc : Nat → Int} {ar : Nat → Nat → Int} {x4 x5 x6 s0 s1 : Int} {Q : Option mV → mH → Prop} (k : inR s0 ∧ 
  (Ev 2 M_Returns_reckon (64, [some (vO 7), some (vO 3), some (vO 2), some (vA 0), some (vI x4), some (vI x5), some (vI x6), some (vL (s1 * s0)), none, some (vI 0), none], [], (sc, ar)) Q)) :
  Ev 2 M_Returns_reckon (57, [some (vO 7), some (vO 3), some (vO 2), some (vA 0), some (vI x4), some (vI x5), some (vI x6), none, none, none, none], [vI s0, vL s1], (sc, ar)) Q :=
  wq_ok 200 _ _ [(8, 4), (16, 5), (22, 5), (38, 5), (57, 7), (64, 10), (80, 10), (83, 10), (105, 11), (126, 10)] _ _ _ _ _ (show (inR s0) ∧ (Ev 2 M_Returns_reckon (64, [some (vO 7), some (vO 3), some (vO 2), some (vA 0), some (vI x4), some (vI x5), some (vI x6), some (vL (s1 * s0)), none, some (vI 0), none], [], (sc, ar)) Q) from ⟨k.1, k.2⟩)
theorem sg_Returns_reckon_64t {sc : Nat → Int} {ar : Nat → Nat → Int} {x4 x5 x6 x7 x9 : Int} {Q : Option mV → mH → Prop} (k : inR x9 ∧ inR x4 ∧ 
  (x4 ≤ x9 → (Ev 1 M_Returns_refine (0, [some (vO 7), some (vI (10 - x6)), some (vI x4), none], [], (sc, ar)) (fun r1 h1 => Ev 2 M_Returns_reckon (126, [some (vO 7), some (vO 3), some (vO 2), some (vA 0), some (vI x4), some (vI x5), some (vI x6), some (vL x7), none, some (vI x9), none], mPush r1 [], h1) Q))) ∧ 
  (¬ (x4 ≤ x9) → (Ev 1 M_Order_taskAt (0, [some (vO 3), some (vI x9)], [], (sc, ar)) (fun r1 h1 => Ev 2 M_Returns_reckon (80, [some (vO 7), some (vO 3), some (vO 2), some (vA 0), some (vI x4), some (vI x5), some (vI x6), some (vL x7), none, some (vI x9), none], mPush r1 [vI x5, vO 2], h1) Q)))) :
  Ev 2 M_Returns_reckon (64, [some (vO 7), some (vO 3), some (vO 2), some (vA 0), some (vI x4), some (vI x5), some (vI x6), some (vL x7), none, some (vI x9), none], [], (sc, ar)) Q :=
  wq_ok 200 _ _ [(8, 4), (16, 5), (22, 5), (38, 5), (57, 7), (64, 10), (80, 10), (83, 10), (105, 11), (126, 10)] _ _ _ _ _ (show (inR x9 ∧ inR x4) ∧ (x4 ≤ x9 → ((cO 7 = mK M_Returns_refine) ∧ (Ev 1 M_Returns_refine (0, [some (vO 7), some (vI (10 - x6)), some (vI x4), none], [], (sc, ar)) (fun r1 h1 => Ev 2 M_Returns_reckon (126, [some (vO 7), some (vO 3), some (vO 2), some (vA 0), some (vI x4), some (vI x5), some (vI x6), some (vL x7), none, some (vI x9), none], mPush r1 [], h1) Q)))) ∧ (¬ (x4 ≤ x9) → ((cO 3 = mK M_Order_taskAt) ∧ (Ev 1 M_Order_taskAt (0, [some (vO 3), some (vI x9)], [], (sc, ar)) (fun r1 h1 => Ev 2 M_Returns_reckon (80, [some (vO 7), some (vO 3), some (vO 2), some (vA 0), some (vI x4), some (vI x5), some (vI x6), some (vL x7), none, some (vI x9), none], mPush r1 [vI x5, vO 2], h1) Q)))) from ⟨⟨k.1, k.2.1⟩, fun c1 => ⟨(by decide), (k.2.2.1 c1)⟩, fun c1 => ⟨(by decide), (k.2.2.2 c1)⟩⟩)
theorem sg_Returns_reckon_80t {sc : Nat → Int} {ar : Nat → Nat → Int} {x4 x5 x6 x7 x9 s0 s1 : Int} {Q : Option mV → mH → Prop} (k : Ev 1 M_Table_get (0, [some (vO 2), some (vI s1), some (vI s0)], [], (sc, ar)) (fun r1 h1 => Ev 2 M_Returns_reckon (83, [some (vO 7), some (vO 3), some (vO 2), some (vA 0), some (vI x4), some (vI x5), some (vI x6), some (vL x7), none, some (vI x9), none], mPush r1 [], h1) Q)) :
  Ev 2 M_Returns_reckon (80, [some (vO 7), some (vO 3), some (vO 2), some (vA 0), some (vI x4), some (vI x5), some (vI x6), some (vL x7), none, some (vI x9), none], [vI s0, vI s1, vO 2], (sc, ar)) Q :=
  wq_ok 200 _ _ [(8, 4), (16, 5), (22, 5), (38, 5), (57, 7), (64, 10), (80, 10), (83, 10), (105, 11), (126, 10)] _ _ _ _ _ (show (cO 2 = mK M_Table_get) ∧ (Ev 1 M_Table_get (0, [some (vO 2), some (vI s1), some (vI s0)], [], (sc, ar)) (fun r1 h1 => Ev 2 M_Returns_reckon (83, [some (vO 7), some (vO 3), some (vO 2), some (vA 0), some (vI x4), some (vI x5), some (vI x6), some (vL x7), none, some (vI x9), none], mPush r1 [], h1) Q)) from ⟨(by decide), k⟩)
theorem sg_Returns_reckon_83t {sc : Nat → Int} {ar : Nat → Nat → Int} {x4 x5 x6 x7 x9 s0 : Int} {Q : Option mV → mH → Prop} (k : inR s0 ∧ 
  (Ev 1 M_Returns_spentFrom (0, [some (vO 7), some (vI x9), some (vI x4), none, none, none], [], (sc, ar)) (fun r1 h1 => Ev 2 M_Returns_reckon (105, [some (vO 7), some (vO 3), some (vO 2), some (vA 0), some (vI x4), some (vI x5), some (vI (x6 + s0)), some (vL x7), none, some (vI x9), some (vI s0)], mPush r1 [vL s0, vL x7], h1) Q))) :
  Ev 2 M_Returns_reckon (83, [some (vO 7), some (vO 3), some (vO 2), some (vA 0), some (vI x4), some (vI x5), some (vI x6), some (vL x7), none, some (vI x9), none], [vI s0], (sc, ar)) Q :=
  wq_ok 200 _ _ [(8, 4), (16, 5), (22, 5), (38, 5), (57, 7), (64, 10), (80, 10), (83, 10), (105, 11), (126, 10)] _ _ _ _ _ (show (inR s0) ∧ ((cO 7 = mK M_Returns_spentFrom) ∧ (Ev 1 M_Returns_spentFrom (0, [some (vO 7), some (vI x9), some (vI x4), none, none, none], [], (sc, ar)) (fun r1 h1 => Ev 2 M_Returns_reckon (105, [some (vO 7), some (vO 3), some (vO 2), some (vA 0), some (vI x4), some (vI x5), some (vI (x6 + s0)), some (vL x7), none, some (vI x9), some (vI s0)], mPush r1 [vL s0, vL x7], h1) Q))) from ⟨k.1, ⟨(by decide), k.2⟩⟩)
theorem sg_Returns_reckon_105t {sc : Nat → Int} {ar : Nat → Nat → Int} {x4 x5 x6 x7 x9 x10 s0 s1 s2 : Int} {Q : Option mV → mH → Prop} (k : Ev 2 M_Returns_reckon (64, [some (vO 7), some (vO 3), some (vO 2), some (vA 0), some (vI x4), some (vI x5), some (vI x6), some (vL (s2 + (s1 * s0))), none, some (vI (x9 + 1)), none], [], (sc, ar)) Q) :
  Ev 2 M_Returns_reckon (105, [some (vO 7), some (vO 3), some (vO 2), some (vA 0), some (vI x4), some (vI x5), some (vI x6), some (vL x7), none, some (vI x9), some (vI x10)], [vL s0, vL s1, vL s2], (sc, ar)) Q :=
  wq_ok 200 _ _ [(8, 4), (16, 5), (22, 5), (38, 5), (57, 7), (64, 10), (80, 10), (83, 10), (105, 11), (126, 10)] _ _ _ _ _ (show Ev 2 M_Returns_reckon (64, [some (vO 7), some (vO 3), some (vO 2), some (vA 0), some (vI x4), some (vI x5), some (vI x6), some (vL (s2 + (s1 * s0))), none, some (vI (x9 + 1)), none], [], (sc, ar)) Q from k)
theorem sg_Returns_reckon_126t {sc : Nat → Int} {ar : Nat → Nat → Int} {x4 x5 x6 x7 x9 : Int} {Q : Option mV → mH → Prop} (k : (0 : Int) ≤ x4 ∧ x4 < (8 : Int) ∧ 
  (Ev 2 M_Returns_reckon (16, [some (vO 7), some (vO 3), some (vO 2), some (vA 0), some (vI (x4 + 1)), none, none, none, none, none, none], [], (sc, (up ar 112 (up (ar 112) x4.toNat x7)))) Q)) :
  Ev 2 M_Returns_reckon (126, [some (vO 7), some (vO 3), some (vO 2), some (vA 0), some (vI x4), some (vI x5), some (vI x6), some (vL x7), none, some (vI x9), none], [], (sc, ar)) Q :=
  wq_ok 200 _ _ [(8, 4), (16, 5), (22, 5), (38, 5), (57, 7), (64, 10), (80, 10), (83, 10), (105, 11), (126, 10)] _ _ _ _ _ (show (cO 7 = 3) ∧ ((aK 112 = 1 ∧ 112 ≠ 999 ∧ (0 : Int) ≤ x4 ∧ x4 < (8 : Int)) ∧ (Ev 2 M_Returns_reckon (16, [some (vO 7), some (vO 3), some (vO 2), some (vA 0), some (vI (x4 + 1)), none, none, none, none, none, none], [], (sc, (up ar 112 (up (ar 112) x4.toNat x7)))) Q)) from ⟨(by decide), ⟨⟨(by decide), (by decide), k.1, k.2.1⟩, k.2.2⟩⟩)
theorem sg_Returns_reckon_0o {sc : Nat → Int} {ar : Nat → Nat → Int} {Q : Option mV → mH → Prop} (k : Ev 1 M_Arr_fillL (0, [some (vA 112), some (vL 0), none, none, none], [], (sc, ar)) (fun r1 h1 => Ev 2 M_Returns_reckon (8, [some (vO 7), some (vO 3), some (vO 2), some (vA 113), none, none, none, none, none, none, none], mPush r1 [], h1) Q)) :
  Ev 2 M_Returns_reckon (0, [some (vO 7), some (vO 3), some (vO 2), some (vA 113), none, none, none, none, none, none, none], [], (sc, ar)) Q :=
  wq_ok 200 _ _ [(8, 4), (16, 5), (22, 5), (38, 5), (57, 7), (64, 10), (80, 10), (83, 10), (105, 11), (126, 10)] _ _ _ _ _ (show (cO 7 = 3) ∧ (Ev 1 M_Arr_fillL (0, [some (vA 112), some (vL 0), none, none, none], [], (sc, ar)) (fun r1 h1 => Ev 2 M_Returns_reckon (8, [some (vO 7), some (vO 3), some (vO 2), some (vA 113), none, none, none, none, none, none, none], mPush r1 [], h1) Q)) from ⟨(by decide), k⟩)
theorem sg_Returns_reckon_8o {sc : Nat → Int} {ar : Nat → Nat → Int} {Q : Option mV → mH → Prop} (k : Ev 2 M_Returns_reckon (16, [some (vO 7), some (vO 3), some (vO 2), some (vA 113), some (vI 0), none, none, none, none, none, none], [], ((up sc 114 1), ar)) Q) :
  Ev 2 M_Returns_reckon (8, [some (vO 7), some (vO 3), some (vO 2), some (vA 113), none, none, none, none, none, none, none], [], (sc, ar)) Q :=
  wq_ok 200 _ _ [(8, 4), (16, 5), (22, 5), (38, 5), (57, 7), (64, 10), (80, 10), (83, 10), (105, 11), (126, 10)] _ _ _ _ _ (show (cO 7 = 3) ∧ (Ev 2 M_Returns_reckon (16, [some (vO 7), some (vO 3), some (vO 2), some (vA 113), some (vI 0), none, none, none, none, none, none], [], ((up sc 114 1), ar)) Q) from ⟨(by decide), k⟩)
theorem sg_Returns_reckon_16o {sc : Nat → Int} {ar : Nat → Nat → Int} {x4 : Int} {Q : Option mV → mH → Prop} (k : Ev 1 M_Order_length (0, [some (vO 3)], [], (sc, ar)) (fun r1 h1 => Ev 2 M_Returns_reckon (22, [some (vO 7), some (vO 3), some (vO 2), some (vA 113), some (vI x4), none, none, none, none, none, none], mPush r1 [vI x4], h1) Q)) :
  Ev 2 M_Returns_reckon (16, [some (vO 7), some (vO 3), some (vO 2), some (vA 113), some (vI x4), none, none, none, none, none, none], [], (sc, ar)) Q :=
  wq_ok 200 _ _ [(8, 4), (16, 5), (22, 5), (38, 5), (57, 7), (64, 10), (80, 10), (83, 10), (105, 11), (126, 10)] _ _ _ _ _ (show (cO 3 = mK M_Order_length) ∧ (Ev 1 M_Order_length (0, [some (vO 3)], [], (sc, ar)) (fun r1 h1 => Ev 2 M_Returns_reckon (22, [some (vO 7), some (vO 3), some (vO 2), some (vA 113), some (vI x4), none, none, none, none, none, none], mPush r1 [vI x4], h1) Q)) from ⟨(by decide), k⟩)
theorem sg_Returns_reckon_22o {sc : Nat → Int} {ar : Nat → Nat → Int} {x4 s0 s1 : Int} {Q : Option mV → mH → Prop} (k : inR s1 ∧ inR s0 ∧ 
  (s0 ≤ s1 → (Q none (sc, ar))) ∧ 
  (¬ (s0 ≤ s1) → (inR x4 ∧ 
    (8 ≤ x4 → (Q none (sc, ar))) ∧ 
    (¬ (8 ≤ x4) → (Ev 1 M_Order_taskAt (0, [some (vO 3), some (vI x4)], [], (sc, ar)) (fun r1 h1 => Ev 2 M_Returns_reckon (38, [some (vO 7), some (vO 3), some (vO 2), some (vA 113), some (vI x4), none, none, none, none, none, none], mPush r1 [], h1) Q)))))) :
  Ev 2 M_Returns_reckon (22, [some (vO 7), some (vO 3), some (vO 2), some (vA 113), some (vI x4), none, none, none, none, none, none], [vI s0, vI s1], (sc, ar)) Q :=
  wq_ok 200 _ _ [(8, 4), (16, 5), (22, 5), (38, 5), (57, 7), (64, 10), (80, 10), (83, 10), (105, 11), (126, 10)] _ _ _ _ _ (show (inR s1 ∧ inR s0) ∧ (s0 ≤ s1 → (Q none (sc, ar))) ∧ (¬ (s0 ≤ s1) → ((inR x4 ∧ inR 8) ∧ (8 ≤ x4 → (Q none (sc, ar))) ∧ (¬ (8 ≤ x4) → ((cO 3 = mK M_Order_taskAt) ∧ (Ev 1 M_Order_taskAt (0, [some (vO 3), some (vI x4)], [], (sc, ar)) (fun r1 h1 => Ev 2 M_Returns_reckon (38, [some (vO 7), some (vO 3), some (vO 2), some (vA 113), some (vI x4), none, none, none, none, none, none], mPush r1 [], h1) Q)))))) from ⟨⟨k.1, k.2.1⟩, fun c1 => (k.2.2.1 c1), fun c1 => ⟨⟨(k.2.2.2 c1).1, (by decide)⟩, fun c2 => ((k.2.2.2 c1).2.1 c2), fun c2 => ⟨(by decide), ((k.2.2.2 c1).2.2 c2)⟩⟩⟩)
theorem sg_Returns_reckon_38o {sc : Nat → Int} {ar : Nat → Nat → Int} {x4 s0 : Int} {Q : Option mV → mH → Prop} (k : Ev 1 M_Dt_valueOf (0, [some (vA 113), some (vI s0)], [], (sc, ar)) (fun r1 h1 => Ev 2 M_Returns_reckon (57, [some (vO 7), some (vO 3), some (vO 2), some (vA 113), some (vI x4), some (vI s0), some (vI 0), none, none, none, none], mPush r1 [vL (10 * (sc 114))], h1) Q)) :
  Ev 2 M_Returns_reckon (38, [some (vO 7), some (vO 3), some (vO 2), some (vA 113), some (vI x4), none, none, none, none, none, none], [vI s0], (sc, ar)) Q :=
  wq_ok 200 _ _ [(8, 4), (16, 5), (22, 5), (38, 5), (57, 7), (64, 10), (80, 10), (83, 10), (105, 11), (126, 10)] _ _ _ _ _ (show (cO 7 = 3) ∧ (Ev 1 M_Dt_valueOf (0, [some (vA 113), some (vI s0)], [], (sc, ar)) (fun r1 h1 => Ev 2 M_Returns_reckon (57, [some (vO 7), some (vO 3), some (vO 2), some (vA 113), some (vI x4), some (vI s0), some (vI 0), none, none, none, none], mPush r1 [vL (10 * (sc 114))], h1) Q)) from ⟨(by decide), k⟩)
theorem sg_Returns_reckon_57o {sc : Nat → Int} {ar : Nat → Nat → Int} {x4 x5 x6 s0 s1 : Int} {Q : Option mV → mH → Prop} (k : inR s0 ∧ 
  (Ev 2 M_Returns_reckon (64, [some (vO 7), some (vO 3), some (vO 2), some (vA 113), some (vI x4), some (vI x5), some (vI x6), some (vL (s1 * s0)), none, some (vI 0), none], [], (sc, ar)) Q)) :
  Ev 2 M_Returns_reckon (57, [some (vO 7), some (vO 3), some (vO 2), some (vA 113), some (vI x4), some (vI x5), some (vI x6), none, none, none, none], [vI s0, vL s1], (sc, ar)) Q :=
  wq_ok 200 _ _ [(8, 4), (16, 5), (22, 5), (38, 5), (57, 7), (64, 10), (80, 10), (83, 10), (105, 11), (126, 10)] _ _ _ _ _ (show (inR s0) ∧ (Ev 2 M_Returns_reckon (64, [some (vO 7), some (vO 3), some (vO 2), some (vA 113), some (vI x4), some (vI x5), some (vI x6), some (vL (s1 * s0)), none, some (vI 0), none], [], (sc, ar)) Q) from ⟨k.1, k.2⟩)
theorem sg_Returns_reckon_64o {sc : Nat → Int} {ar : Nat → Nat → Int} {x4 x5 x6 x7 x9 : Int} {Q : Option mV → mH → Prop} (k : inR x9 ∧ inR x4 ∧ 
  (x4 ≤ x9 → (Ev 1 M_Returns_refine (0, [some (vO 7), some (vI (10 - x6)), some (vI x4), none], [], (sc, ar)) (fun r1 h1 => Ev 2 M_Returns_reckon (126, [some (vO 7), some (vO 3), some (vO 2), some (vA 113), some (vI x4), some (vI x5), some (vI x6), some (vL x7), none, some (vI x9), none], mPush r1 [], h1) Q))) ∧ 
  (¬ (x4 ≤ x9) → (Ev 1 M_Order_taskAt (0, [some (vO 3), some (vI x9)], [], (sc, ar)) (fun r1 h1 => Ev 2 M_Returns_reckon (80, [some (vO 7), some (vO 3), some (vO 2), some (vA 113), some (vI x4), some (vI x5), some (vI x6), some (vL x7), none, some (vI x9), none], mPush r1 [vI x5, vO 2], h1) Q)))) :
  Ev 2 M_Returns_reckon (64, [some (vO 7), some (vO 3), some (vO 2), some (vA 113), some (vI x4), some (vI x5), some (vI x6), some (vL x7), none, some (vI x9), none], [], (sc, ar)) Q :=
  wq_ok 200 _ _ [(8, 4), (16, 5), (22, 5), (38, 5), (57, 7), (64, 10), (80, 10), (83, 10), (105, 11), (126, 10)] _ _ _ _ _ (show (inR x9 ∧ inR x4) ∧ (x4 ≤ x9 → ((cO 7 = mK M_Returns_refine) ∧ (Ev 1 M_Returns_refine (0, [some (vO 7), some (vI (10 - x6)), some (vI x4), none], [], (sc, ar)) (fun r1 h1 => Ev 2 M_Returns_reckon (126, [some (vO 7), some (vO 3), some (vO 2), some (vA 113), some (vI x4), some (vI x5), some (vI x6), some (vL x7), none, some (vI x9), none], mPush r1 [], h1) Q)))) ∧ (¬ (x4 ≤ x9) → ((cO 3 = mK M_Order_taskAt) ∧ (Ev 1 M_Order_taskAt (0, [some (vO 3), some (vI x9)], [], (sc, ar)) (fun r1 h1 => Ev 2 M_Returns_reckon (80, [some (vO 7), some (vO 3), some (vO 2), some (vA 113), some (vI x4), some (vI x5), some (vI x6), some (vL x7), none, some (vI x9), none], mPush r1 [vI x5, vO 2], h1) Q)))) from ⟨⟨k.1, k.2.1⟩, fun c1 => ⟨(by decide), (k.2.2.1 c1)⟩, fun c1 => ⟨(by decide), (k.2.2.2 c1)⟩⟩)
theorem sg_Returns_reckon_80o {sc : Nat → Int} {ar : Nat → Nat → Int} {x4 x5 x6 x7 x9 s0 s1 : Int} {Q : Option mV → mH → Prop} (k : Ev 1 M_Table_get (0, [some (vO 2), some (vI s1), some (vI s0)], [], (sc, ar)) (fun r1 h1 => Ev 2 M_Returns_reckon (83, [some (vO 7), some (vO 3), some (vO 2), some (vA 113), some (vI x4), some (vI x5), some (vI x6), some (vL x7), none, some (vI x9), none], mPush r1 [], h1) Q)) :
  Ev 2 M_Returns_reckon (80, [some (vO 7), some (vO 3), some (vO 2), some (vA 113), some (vI x4), some (vI x5), some (vI x6), some (vL x7), none, some (vI x9), none], [vI s0, vI s1, vO 2], (sc, ar)) Q :=
  wq_ok 200 _ _ [(8, 4), (16, 5), (22, 5), (38, 5), (57, 7), (64, 10), (80, 10), (83, 10), (105, 11), (126, 10)] _ _ _ _ _ (show (cO 2 = mK M_Table_get) ∧ (Ev 1 M_Table_get (0, [some (vO 2), some (vI s1), some (vI s0)], [], (sc, ar)) (fun r1 h1 => Ev 2 M_Returns_reckon (83, [some (vO 7), some (vO 3), some (vO 2), some (vA 113), some (vI x4), some (vI x5), some (vI x6), some (vL x7), none, some (vI x9), none], mPush r1 [], h1) Q)) from ⟨(by decide), k⟩)
theorem sg_Returns_reckon_83o {sc : Nat → Int} {ar : Nat → Nat → Int} {x4 x5 x6 x7 x9 s0 : Int} {Q : Option mV → mH → Prop} (k : inR s0 ∧ 
  (Ev 1 M_Returns_spentFrom (0, [some (vO 7), some (vI x9), some (vI x4), none, none, none], [], (sc, ar)) (fun r1 h1 => Ev 2 M_Returns_reckon (105, [some (vO 7), some (vO 3), some (vO 2), some (vA 113), some (vI x4), some (vI x5), some (vI (x6 + s0)), some (vL x7), none, some (vI x9), some (vI s0)], mPush r1 [vL s0, vL x7], h1) Q))) :
  Ev 2 M_Returns_reckon (83, [some (vO 7), some (vO 3), some (vO 2), some (vA 113), some (vI x4), some (vI x5), some (vI x6), some (vL x7), none, some (vI x9), none], [vI s0], (sc, ar)) Q :=
  wq_ok 200 _ _ [(8, 4), (16, 5), (22, 5), (38, 5), (57, 7), (64, 10), (80, 10), (83, 10), (105, 11), (126, 10)] _ _ _ _ _ (show (inR s0) ∧ ((cO 7 = mK M_Returns_spentFrom) ∧ (Ev 1 M_Returns_spentFrom (0, [some (vO 7), some (vI x9), some (vI x4), none, none, none], [], (sc, ar)) (fun r1 h1 => Ev 2 M_Returns_reckon (105, [some (vO 7), some (vO 3), some (vO 2), some (vA 113), some (vI x4), some (vI x5), some (vI (x6 + s0)), some (vL x7), none, some (vI x9), some (vI s0)], mPush r1 [vL s0, vL x7], h1) Q))) from ⟨k.1, ⟨(by decide), k.2⟩⟩)
theorem sg_Returns_reckon_105o {sc : Nat → Int} {ar : Nat → Nat → Int} {x4 x5 x6 x7 x9 x10 s0 s1 s2 : Int} {Q : Option mV → mH → Prop} (k : Ev 2 M_Returns_reckon (64, [some (vO 7), some (vO 3), some (vO 2), some (vA 113), some (vI x4), some (vI x5), some (vI x6), some (vL (s2 + (s1 * s0))), none, some (vI (x9 + 1)), none], [], (sc, ar)) Q) :
  Ev 2 M_Returns_reckon (105, [some (vO 7), some (vO 3), some (vO 2), some (vA 113), some (vI x4), some (vI x5), some (vI x6), some (vL x7), none, some (vI x9), some (vI x10)], [vL s0, vL s1, vL s2], (sc, ar)) Q :=
  wq_ok 200 _ _ [(8, 4), (16, 5), (22, 5), (38, 5), (57, 7), (64, 10), (80, 10), (83, 10), (105, 11), (126, 10)] _ _ _ _ _ (show Ev 2 M_Returns_reckon (64, [some (vO 7), some (vO 3), some (vO 2), some (vA 113), some (vI x4), some (vI x5), some (vI x6), some (vL (s2 + (s1 * s0))), none, some (vI (x9 + 1)), none], [], (sc, ar)) Q from k)
theorem sg_Returns_reckon_126o {sc : Nat → Int} {ar : Nat → Nat → Int} {x4 x5 x6 x7 x9 : Int} {Q : Option mV → mH → Prop} (k : (0 : Int) ≤ x4 ∧ x4 < (8 : Int) ∧ 
  (Ev 2 M_Returns_reckon (16, [some (vO 7), some (vO 3), some (vO 2), some (vA 113), some (vI (x4 + 1)), none, none, none, none, none, none], [], (sc, (up ar 112 (up (ar 112) x4.toNat x7)))) Q)) :
  Ev 2 M_Returns_reckon (126, [some (vO 7), some (vO 3), some (vO 2), some (vA 113), some (vI x4), some (vI x5), some (vI x6), some (vL x7), none, some (vI x9), none], [], (sc, ar)) Q :=
  wq_ok 200 _ _ [(8, 4), (16, 5), (22, 5), (38, 5), (57, 7), (64, 10), (80, 10), (83, 10), (105, 11), (126, 10)] _ _ _ _ _ (show (cO 7 = 3) ∧ ((aK 112 = 1 ∧ 112 ≠ 999 ∧ (0 : Int) ≤ x4 ∧ x4 < (8 : Int)) ∧ (Ev 2 M_Returns_reckon (16, [some (vO 7), some (vO 3), some (vO 2), some (vA 113), some (vI (x4 + 1)), none, none, none, none, none, none], [], (sc, (up ar 112 (up (ar 112) x4.toNat x7)))) Q)) from ⟨(by decide), ⟨⟨(by decide), (by decide), k.1, k.2.1⟩, k.2.2⟩⟩)
theorem sg_Returns_spentFrom_0 {sc : Nat → Int} {ar : Nat → Nat → Int} {x1 x2 : Int} {Q : Option mV → mH → Prop} (k : inR x1 ∧ 
  (Ev 0 M_Returns_spentFrom (9, [some (vO 7), some (vI x1), some (vI x2), some (vL 0), none, some (vI (if x1 < 0 then 0 else x1))], [], (sc, ar)) Q)) :
  Ev 0 M_Returns_spentFrom (0, [some (vO 7), some (vI x1), some (vI x2), none, none, none], [], (sc, ar)) Q :=
  wq_ok 200 _ _ [(9, 6)] _ _ _ _ _ (show (inR x1 ∧ inR 0 ∧ mCat [] ≤ 8) ∧ (Ev 0 M_Returns_spentFrom (9, [some (vO 7), some (vI x1), some (vI x2), some (vL 0), none, some (vI (if x1 < 0 then 0 else x1))], [], (sc, ar)) Q) from ⟨⟨k.1, (by decide), (Nat.le_of_ble_eq_true rfl)⟩, k.2⟩)
theorem sg_Returns_spentFrom_9 {sc : Nat → Int} {ar : Nat → Nat → Int} {x1 x2 x3 x5 : Int} {Q : Option mV → mH → Prop} (k : inR x5 ∧ inR x2 ∧ 
  (x2 ≤ x5 → (Q (some (vL x3)) (sc, ar))) ∧ 
  (¬ (x2 ≤ x5) → (inR x5 ∧ 
    (8 ≤ x5 → (Q (some (vL x3)) (sc, ar))) ∧ 
    (¬ (8 ≤ x5) → ((0 : Int) ≤ x5 ∧ x5 < (8 : Int) ∧ 
      (Ev 0 M_Returns_spentFrom (9, [some (vO 7), some (vI x1), some (vI x2), some (vL (x3 + (ar 112 x5.toNat))), none, some (vI (x5 + 1))], [], (sc, ar)) Q)))))) :
  Ev 0 M_Returns_spentFrom (9, [some (vO 7), some (vI x1), some (vI x2), some (vL x3), none, some (vI x5)], [], (sc, ar)) Q :=
  wq_ok 200 _ _ [(9, 6)] _ _ _ _ _ (show (inR x5 ∧ inR x2) ∧ (x2 ≤ x5 → (Q (some (vL x3)) (sc, ar))) ∧ (¬ (x2 ≤ x5) → ((inR x5 ∧ inR 8) ∧ (8 ≤ x5 → (Q (some (vL x3)) (sc, ar))) ∧ (¬ (8 ≤ x5) → ((cO 7 = 3) ∧ ((aK 112 = 1 ∧ (0 : Int) ≤ x5 ∧ x5 < (8 : Int)) ∧ (Ev 0 M_Returns_spentFrom (9, [some (vO 7), some (vI x1), some (vI x2), some (vL (x3 + (ar 112 x5.toNat))), none, some (vI (x5 + 1))], [], (sc, ar)) Q)))))) from ⟨⟨k.1, k.2.1⟩, fun c1 => (k.2.2.1 c1), fun c1 => ⟨⟨(k.2.2.2 c1).1, (by decide)⟩, fun c2 => ((k.2.2.2 c1).2.1 c2), fun c2 => ⟨(by decide), ⟨⟨(by decide), ((k.2.2.2 c1).2.2 c2).1, ((k.2.2.2 c1).2.2 c2).2.1⟩, ((k.2.2.2 c1).2.2 c2).2.2⟩⟩⟩⟩)
theorem sg_Returns_refine_0 {sc : Nat → Int} {ar : Nat → Nat → Int} {x1 x2 : Int} {Q : Option mV → mH → Prop} (k : inR x1 ∧ 
  (Ev 0 M_Returns_refine (13, [some (vO 7), some (vI x1), some (vI x2), some (vI 0)], [], ((up sc 114 ((sc 114) * x1)), ar)) Q)) :
  Ev 0 M_Returns_refine (0, [some (vO 7), some (vI x1), some (vI x2), none], [], (sc, ar)) Q :=
  wq_ok 200 _ _ [(13, 4)] _ _ _ _ _ (show (cO 7 = 3) ∧ ((inR x1) ∧ ((cO 7 = 3) ∧ (Ev 0 M_Returns_refine (13, [some (vO 7), some (vI x1), some (vI x2), some (vI 0)], [], ((up sc 114 ((sc 114) * x1)), ar)) Q))) from ⟨(by decide), ⟨k.1, ⟨(by decide), k.2⟩⟩⟩)
theorem sg_Returns_refine_13 {sc : Nat → Int} {ar : Nat → Nat → Int} {x1 x2 x3 : Int} {Q : Option mV → mH → Prop} (k : inR x3 ∧ inR x2 ∧ 
  (x2 ≤ x3 → (Q none (sc, ar))) ∧ 
  (¬ (x2 ≤ x3) → (inR x3 ∧ 
    (8 ≤ x3 → (Q none (sc, ar))) ∧ 
    (¬ (8 ≤ x3) → ((0 : Int) ≤ x3 ∧ x3 < (8 : Int) ∧ 
      (inR x1 ∧ 
      ((0 : Int) ≤ x3 ∧ x3 < (8 : Int) ∧ 
      (Ev 0 M_Returns_refine (13, [some (vO 7), some (vI x1), some (vI x2), some (vI (x3 + 1))], [], (sc, (up ar 112 (up (ar 112) x3.toNat ((ar 112 x3.toNat) * x1))))) Q)))))))) :
  Ev 0 M_Returns_refine (13, [some (vO 7), some (vI x1), some (vI x2), some (vI x3)], [], (sc, ar)) Q :=
  wq_ok 200 _ _ [(13, 4)] _ _ _ _ _ (show (inR x3 ∧ inR x2) ∧ (x2 ≤ x3 → (Q none (sc, ar))) ∧ (¬ (x2 ≤ x3) → ((inR x3 ∧ inR 8) ∧ (8 ≤ x3 → (Q none (sc, ar))) ∧ (¬ (8 ≤ x3) → ((cO 7 = 3) ∧ ((aK 112 = 1 ∧ (0 : Int) ≤ x3 ∧ x3 < (8 : Int)) ∧ ((inR x1) ∧ ((aK 112 = 1 ∧ 112 ≠ 999 ∧ (0 : Int) ≤ x3 ∧ x3 < (8 : Int)) ∧ (Ev 0 M_Returns_refine (13, [some (vO 7), some (vI x1), some (vI x2), some (vI (x3 + 1))], [], (sc, (up ar 112 (up (ar 112) x3.toNat ((ar 112 x3.toNat) * x1))))) Q)))))))) from ⟨⟨k.1, k.2.1⟩, fun c1 => (k.2.2.1 c1), fun c1 => ⟨⟨(k.2.2.2 c1).1, (by decide)⟩, fun c2 => ((k.2.2.2 c1).2.1 c2), fun c2 => ⟨(by decide), ⟨⟨(by decide), ((k.2.2.2 c1).2.2 c2).1, ((k.2.2.2 c1).2.2 c2).2.1⟩, ⟨((k.2.2.2 c1).2.2 c2).2.2.1, ⟨⟨(by decide), (by decide), ((k.2.2.2 c1).2.2 c2).2.2.2.1, ((k.2.2.2 c1).2.2 c2).2.2.2.2.1⟩, ((k.2.2.2 c1).2.2 c2).2.2.2.2.2⟩⟩⟩⟩⟩⟩)
theorem sg_Rings_isLeaning_0 {sc : Nat → Int} {ar : Nat → Nat → Int} {x1 x2 : Int} {Q : Option mV → mH → Prop} (k : inR x2 ∧ 
  (x2 < 0 → (Q (some (vI 0)) (sc, ar))) ∧ 
  (¬ (x2 < 0) → (inR x2 ∧ 
    (8 ≤ x2 → (Q (some (vI 0)) (sc, ar))) ∧ 
    (¬ (8 ≤ x2) → (Ev 0 M_Dt_valueOf (0, [some (vA 64), some (vI x1)], [], (sc, ar)) (fun r1 h1 => Ev 1 M_Rings_isLeaning (18, [some (vO 4), some (vI x1), some (vI x2)], mPush r1 [], h1) Q)))))) :
  Ev 1 M_Rings_isLeaning (0, [some (vO 4), some (vI x1), some (vI x2)], [], (sc, ar)) Q :=
  wq_ok 200 _ _ [(18, 3)] _ _ _ _ _ (show (inR x2) ∧ (x2 < 0 → (((0 : Int) ≤ 0 ∧ (0 : Int) ≤ 1) ∧ (Q (some (vI 0)) (sc, ar)))) ∧ (¬ (x2 < 0) → ((inR x2 ∧ inR 8) ∧ (8 ≤ x2 → (((0 : Int) ≤ 0 ∧ (0 : Int) ≤ 1) ∧ (Q (some (vI 0)) (sc, ar)))) ∧ (¬ (8 ≤ x2) → ((cO 4 = 4) ∧ (Ev 0 M_Dt_valueOf (0, [some (vA 64), some (vI x1)], [], (sc, ar)) (fun r1 h1 => Ev 1 M_Rings_isLeaning (18, [some (vO 4), some (vI x1), some (vI x2)], mPush r1 [], h1) Q)))))) from ⟨k.1, fun c1 => ⟨⟨(by decide), (by decide)⟩, (k.2.1 c1)⟩, fun c1 => ⟨⟨(k.2.2 c1).1, (by decide)⟩, fun c2 => ⟨⟨(by decide), (by decide)⟩, ((k.2.2 c1).2.1 c2)⟩, fun c2 => ⟨(by decide), ((k.2.2 c1).2.2 c2)⟩⟩⟩)
theorem sg_Rings_isLeaning_18 {sc : Nat → Int} {ar : Nat → Nat → Int} {x1 x2 s0 : Int} {Q : Option mV → mH → Prop} (k : inR (bAnd s0 (bShl 1 x2)) ∧ 
  ((bAnd s0 (bShl 1 x2)) = 0 → (Q (some (vI 0)) (sc, ar))) ∧ 
  (¬ ((bAnd s0 (bShl 1 x2)) = 0) → (Q (some (vI 1)) (sc, ar)))) :
  Ev 1 M_Rings_isLeaning (18, [some (vO 4), some (vI x1), some (vI x2)], [vI s0], (sc, ar)) Q :=
  wq_ok 200 _ _ [(18, 3)] _ _ _ _ _ (show (inR (bAnd s0 (bShl 1 x2))) ∧ ((bAnd s0 (bShl 1 x2)) = 0 → (((0 : Int) ≤ 0 ∧ (0 : Int) ≤ 1) ∧ (Q (some (vI 0)) (sc, ar)))) ∧ (¬ ((bAnd s0 (bShl 1 x2)) = 0) → (((0 : Int) ≤ 1 ∧ (1 : Int) ≤ 1) ∧ (Q (some (vI 1)) (sc, ar)))) from ⟨k.1, fun c1 => ⟨⟨(by decide), (by decide)⟩, (k.2.1 c1)⟩, fun c1 => ⟨⟨(by decide), (by decide)⟩, (k.2.2 c1)⟩⟩)
theorem sg_Rings_howMany_0 {sc : Nat → Int} {ar : Nat → Nat → Int} {Q : Option mV → mH → Prop} (k : Q (some (vI (sc 66))) (sc, ar)) :
  Ev 0 M_Rings_howMany (0, [some (vO 4)], [], (sc, ar)) Q :=
  wq_ok 200 _ _ [] _ _ _ _ _ (show (cO 4 = 4) ∧ (Q (some (vI (sc 66))) (sc, ar)) from ⟨(by decide), k⟩)
theorem sg_Rings_numberOf_0 {sc : Nat → Int} {ar : Nat → Nat → Int} {x1 : Int} {Q : Option mV → mH → Prop} (k : Ev 0 M_Dt_valueOf (0, [some (vA 65), some (vI x1)], [], (sc, ar)) (fun r1 h1 => Ev 1 M_Rings_numberOf (8, [some (vO 4), some (vI x1)], mPush r1 [], h1) Q)) :
  Ev 1 M_Rings_numberOf (0, [some (vO 4), some (vI x1)], [], (sc, ar)) Q :=
  wq_ok 200 _ _ [(8, 2)] _ _ _ _ _ (show (cO 4 = 4) ∧ (Ev 0 M_Dt_valueOf (0, [some (vA 65), some (vI x1)], [], (sc, ar)) (fun r1 h1 => Ev 1 M_Rings_numberOf (8, [some (vO 4), some (vI x1)], mPush r1 [], h1) Q)) from ⟨(by decide), k⟩)
theorem sg_Rings_numberOf_8 {sc : Nat → Int} {ar : Nat → Nat → Int} {x1 s0 : Int} {Q : Option mV → mH → Prop} (k : Q (some (vI s0)) (sc, ar)) :
  Ev 1 M_Rings_numberOf (8, [some (vO 4), some (vI x1)], [vI s0], (sc, ar)) Q :=
  wq_ok 200 _ _ [(8, 2)] _ _ _ _ _ (show Q (some (vI s0)) (sc, ar) from k)
theorem sg_Rings_find_0 {sc : Nat → Int} {ar : Nat → Nat → Int} {x1 : Int} {Q : Option mV → mH → Prop} (k : Ev 4 M_Rings_lean (0, [some (vO 4), some (vI x1), some (vO 1), none, none], [], (sc, ar)) (fun r1 h1 => Ev 5 M_Rings_find (6, [some (vO 4), some (vI x1), some (vO 1)], mPush r1 [], h1) Q)) :
  Ev 5 M_Rings_find (0, [some (vO 4), some (vI x1), some (vO 1)], [], (sc, ar)) Q :=
  wq_ok 200 _ _ [(6, 3), (11, 3)] _ _ _ _ _ (show (cO 4 = mK M_Rings_lean) ∧ (Ev 4 M_Rings_lean (0, [some (vO 4), some (vI x1), some (vO 1), none, none], [], (sc, ar)) (fun r1 h1 => Ev 5 M_Rings_find (6, [some (vO 4), some (vI x1), some (vO 1)], mPush r1 [], h1) Q)) from ⟨(by decide), k⟩)
theorem sg_Rings_find_6 {sc : Nat → Int} {ar : Nat → Nat → Int} {x1 : Int} {Q : Option mV → mH → Prop} (k : Ev 4 M_Rings_number (0, [some (vO 4), some (vI x1), none, none, none, none], [], (sc, ar)) (fun r1 h1 => Ev 5 M_Rings_find (11, [some (vO 4), some (vI x1), some (vO 1)], mPush r1 [], h1) Q)) :
  Ev 5 M_Rings_find (6, [some (vO 4), some (vI x1), some (vO 1)], [], (sc, ar)) Q :=
  wq_ok 200 _ _ [(6, 3), (11, 3)] _ _ _ _ _ (show (cO 4 = mK M_Rings_number) ∧ (Ev 4 M_Rings_number (0, [some (vO 4), some (vI x1), none, none, none, none], [], (sc, ar)) (fun r1 h1 => Ev 5 M_Rings_find (11, [some (vO 4), some (vI x1), some (vO 1)], mPush r1 [], h1) Q)) from ⟨(by decide), k⟩)
theorem sg_Rings_find_11 {sc : Nat → Int} {ar : Nat → Nat → Int} {x1 : Int} {Q : Option mV → mH → Prop} (k : Q none (sc, ar)) :
  Ev 5 M_Rings_find (11, [some (vO 4), some (vI x1), some (vO 1)], [], (sc, ar)) Q :=
  wq_ok 200 _ _ [(6, 3), (11, 3)] _ _ _ _ _ (show Q none (sc, ar) from k)
theorem sg_Rings_lean_0 {sc : Nat → Int} {ar : Nat → Nat → Int} {x1 : Int} {Q : Option mV → mH → Prop} (k : Ev 2 M_Rings_lean (2, [some (vO 4), some (vI x1), some (vO 1), some (vI 0), none], [], (sc, ar)) Q) :
  Ev 2 M_Rings_lean (0, [some (vO 4), some (vI x1), some (vO 1), none, none], [], (sc, ar)) Q :=
  wq_ok 200 _ _ [(2, 4), (23, 5), (43, 5), (70, 4), (84, 5), (112, 5)] _ _ _ _ _ (show Ev 2 M_Rings_lean (2, [some (vO 4), some (vI x1), some (vO 1), some (vI 0), none], [], (sc, ar)) Q from k)
theorem sg_Rings_lean_2 {sc : Nat → Int} {ar : Nat → Nat → Int} {x1 x3 : Int} {Q : Option mV → mH → Prop} (k : inR x3 ∧ inR x1 ∧ 
  (x1 ≤ x3 → (Ev 2 M_Rings_lean (70, [some (vO 4), some (vI x1), some (vO 1), some (vI 0), none], [], (sc, ar)) Q)) ∧ 
  (¬ (x1 ≤ x3) → (inR x3 ∧ 
    (8 ≤ x3 → (Ev 2 M_Rings_lean (70, [some (vO 4), some (vI x1), some (vO 1), some (vI 0), none], [], (sc, ar)) Q)) ∧ 
    (¬ (8 ≤ x3) → ((0 : Int) ≤ x3 ∧ x3 < (8 : Int) ∧ 
      (Ev 2 M_Rings_lean (23, [some (vO 4), some (vI x1), some (vO 1), some (vI x3), some (vI 0)], [], (sc, (up ar 64 (up (ar 64) x3.toNat 0)))) Q)))))) :
  Ev 2 M_Rings_lean (2, [some (vO 4), some (vI x1), some (vO 1), some (vI x3), none], [], (sc, ar)) Q :=
  wq_ok 200 _ _ [(2, 4), (23, 5), (43, 5), (70, 4), (84, 5), (112, 5)] _ _ _ _ _ (show (inR x3 ∧ inR x1) ∧ (x1 ≤ x3 → (Ev 2 M_Rings_lean (70, [some (vO 4), some (vI x1), some (vO 1), some (vI 0), none], [], (sc, ar)) Q)) ∧ (¬ (x1 ≤ x3) → ((inR x3 ∧ inR 8) ∧ (8 ≤ x3 → (Ev 2 M_Rings_lean (70, [some (vO 4), some (vI x1), some (vO 1), some (vI 0), none], [], (sc, ar)) Q)) ∧ (¬ (8 ≤ x3) → ((cO 4 = 4) ∧ ((aK 64 = 0 ∧ 64 ≠ 999 ∧ (0 : Int) ≤ x3 ∧ x3 < (8 : Int)) ∧ (Ev 2 M_Rings_lean (23, [some (vO 4), some (vI x1), some (vO 1), some (vI x3), some (vI 0)], [], (sc, (up ar 64 (up (ar 64) x3.toNat 0)))) Q)))))) from ⟨⟨k.1, k.2.1⟩, fun c1 => (k.2.2.1 c1), fun c1 => ⟨⟨(k.2.2.2 c1).1, (by decide)⟩, fun c2 => ((k.2.2.2 c1).2.1 c2), fun c2 => ⟨(by decide), ⟨⟨(by decide), (by decide), ((k.2.2.2 c1).2.2 c2).1, ((k.2.2.2 c1).2.2 c2).2.1⟩, ((k.2.2.2 c1).2.2 c2).2.2⟩⟩⟩⟩)
theorem sg_Rings_lean_23 {sc : Nat → Int} {ar : Nat → Nat → Int} {x1 x3 x4 : Int} {Q : Option mV → mH → Prop} (k : inR x4 ∧ inR x1 ∧ 
  (x1 ≤ x4 → (Ev 2 M_Rings_lean (2, [some (vO 4), some (vI x1), some (vO 1), some (vI (x3 + 1)), none], [], (sc, ar)) Q)) ∧ 
  (¬ (x1 ≤ x4) → ((0 : Int) ≤ x3 ∧ x3 < (8 : Int) ∧ 
    (Ev 1 M_Table_get (0, [some (vO 1), some (vI x3), some (vI x4)], [], (sc, ar)) (fun r1 h1 => Ev 2 M_Rings_lean (43, [some (vO 4), some (vI x1), some (vO 1), some (vI x3), some (vI x4)], mPush r1 [vI (ar 64 x3.toNat), vI x3, vA 64], h1) Q))))) :
  Ev 2 M_Rings_lean (23, [some (vO 4), some (vI x1), some (vO 1), some (vI x3), some (vI x4)], [], (sc, ar)) Q :=
  wq_ok 200 _ _ [(2, 4), (23, 5), (43, 5), (70, 4), (84, 5), (112, 5)] _ _ _ _ _ (show (inR x4 ∧ inR x1) ∧ (x1 ≤ x4 → (Ev 2 M_Rings_lean (2, [some (vO 4), some (vI x1), some (vO 1), some (vI (x3 + 1)), none], [], (sc, ar)) Q)) ∧ (¬ (x1 ≤ x4) → ((cO 4 = 4) ∧ ((aK 64 = 0 ∧ (0 : Int) ≤ x3 ∧ x3 < (8 : Int)) ∧ ((cO 1 = mK M_Table_get) ∧ (Ev 1 M_Table_get (0, [some (vO 1), some (vI x3), some (vI x4)], [], (sc, ar)) (fun r1 h1 => Ev 2 M_Rings_lean (43, [some (vO 4), some (vI x1), some (vO 1), some (vI x3), some (vI x4)], mPush r1 [vI (ar 64 x3.toNat), vI x3, vA 64], h1) Q)))))) from ⟨⟨k.1, k.2.1⟩, fun c1 => (k.2.2.1 c1), fun c1 => ⟨(by decide), ⟨⟨(by decide), (k.2.2.2 c1).1, (k.2.2.2 c1).2.1⟩, ⟨(by decide), (k.2.2.2 c1).2.2⟩⟩⟩⟩)
theorem sg_Rings_lean_43 {sc : Nat → Int} {ar : Nat → Nat → Int} {x1 x3 x4 s0 s1 s2 : Int} {Q : Option mV → mH → Prop} (k : inR s0 ∧ 
  (s0 ≤ 0 → ((0 : Int) ≤ s2 ∧ s2 < (8 : Int) ∧ 
    (Ev 2 M_Rings_lean (23, [some (vO 4), some (vI x1), some (vO 1), some (vI x3), some (vI (x4 + 1))], [], (sc, (up ar 64 (up (ar 64) s2.toNat (bOr s1 0))))) Q))) ∧ 
  (¬ (s0 ≤ 0) → ((0 : Int) ≤ s2 ∧ s2 < (8 : Int) ∧ 
    (Ev 2 M_Rings_lean (23, [some (vO 4), some (vI x1), some (vO 1), some (vI x3), some (vI (x4 + 1))], [], (sc, (up ar 64 (up (ar 64) s2.toNat (bOr s1 (bShl 1 x4)))))) Q)))) :
  Ev 2 M_Rings_lean (43, [some (vO 4), some (vI x1), some (vO 1), some (vI x3), some (vI x4)], [vI s0, vI s1, vI s2, vA 64], (sc, ar)) Q :=
  wq_ok 200 _ _ [(2, 4), (23, 5), (43, 5), (70, 4), (84, 5), (112, 5)] _ _ _ _ _ (show (inR s0) ∧ (s0 ≤ 0 → ((aK 64 = 0 ∧ 64 ≠ 999 ∧ (0 : Int) ≤ s2 ∧ s2 < (8 : Int)) ∧ (Ev 2 M_Rings_lean (23, [some (vO 4), some (vI x1), some (vO 1), some (vI x3), some (vI (x4 + 1))], [], (sc, (up ar 64 (up (ar 64) s2.toNat (bOr s1 0))))) Q))) ∧ (¬ (s0 ≤ 0) → ((aK 64 = 0 ∧ 64 ≠ 999 ∧ (0 : Int) ≤ s2 ∧ s2 < (8 : Int)) ∧ (Ev 2 M_Rings_lean (23, [some (vO 4), some (vI x1), some (vO 1), some (vI x3), some (vI (x4 + 1))], [], (sc, (up ar 64 (up (ar 64) s2.toNat (bOr s1 (bShl 1 x4)))))) Q))) from ⟨k.1, fun c1 => ⟨⟨(by decide), (by decide), (k.2.1 c1).1, (k.2.1 c1).2.1⟩, (k.2.1 c1).2.2⟩, fun c1 => ⟨⟨(by decide), (by decide), (k.2.2 c1).1, (k.2.2 c1).2.1⟩, (k.2.2 c1).2.2⟩⟩)
theorem sg_Rings_lean_70 {sc : Nat → Int} {ar : Nat → Nat → Int} {x1 x3 : Int} {Q : Option mV → mH → Prop} (k : inR x3 ∧ inR x1 ∧ 
  (x1 ≤ x3 → (Q none (sc, ar))) ∧ 
  (¬ (x1 ≤ x3) → (inR x3 ∧ 
    (8 ≤ x3 → (Q none (sc, ar))) ∧ 
    (¬ (8 ≤ x3) → (Ev 2 M_Rings_lean (84, [some (vO 4), some (vI x1), some (vO 1), some (vI x3), some (vI 0)], [], (sc, ar)) Q))))) :
  Ev 2 M_Rings_lean (70, [some (vO 4), some (vI x1), some (vO 1), some (vI x3), none], [], (sc, ar)) Q :=
  wq_ok 200 _ _ [(2, 4), (23, 5), (43, 5), (70, 4), (84, 5), (112, 5)] _ _ _ _ _ (show (inR x3 ∧ inR x1) ∧ (x1 ≤ x3 → (Q none (sc, ar))) ∧ (¬ (x1 ≤ x3) → ((inR x3 ∧ inR 8) ∧ (8 ≤ x3 → (Q none (sc, ar))) ∧ (¬ (8 ≤ x3) → (Ev 2 M_Rings_lean (84, [some (vO 4), some (vI x1), some (vO 1), some (vI x3), some (vI 0)], [], (sc, ar)) Q)))) from ⟨⟨k.1, k.2.1⟩, fun c1 => (k.2.2.1 c1), fun c1 => ⟨⟨(k.2.2.2 c1).1, (by decide)⟩, fun c2 => ((k.2.2.2 c1).2.1 c2), fun c2 => ((k.2.2.2 c1).2.2 c2)⟩⟩)
theorem sg_Rings_lean_84 {sc : Nat → Int} {ar : Nat → Nat → Int} {x1 x3 x4 : Int} {Q : Option mV → mH → Prop} (k : inR x4 ∧ inR x1 ∧ 
  (x1 ≤ x4 → (Ev 2 M_Rings_lean (70, [some (vO 4), some (vI x1), some (vO 1), some (vI (x3 + 1)), none], [], (sc, ar)) Q)) ∧ 
  (¬ (x1 ≤ x4) → (inR x4 ∧ 
    (8 ≤ x4 → (Ev 2 M_Rings_lean (70, [some (vO 4), some (vI x1), some (vO 1), some (vI (x3 + 1)), none], [], (sc, ar)) Q)) ∧ 
    (¬ (8 ≤ x4) → ((0 : Int) ≤ x4 ∧ x4 < (8 : Int) ∧ 
      (Ev 1 M_Rings_isLeaning (0, [some (vO 4), some (vI x4), some (vI x3)], [], (sc, ar)) (fun r1 h1 => Ev 2 M_Rings_lean (112, [some (vO 4), some (vI x1), some (vO 1), some (vI x3), some (vI x4)], mPush r1 [vI (ar 64 x4.toNat), vI x4, vA 64], h1) Q))))))) :
  Ev 2 M_Rings_lean (84, [some (vO 4), some (vI x1), some (vO 1), some (vI x3), some (vI x4)], [], (sc, ar)) Q :=
  wq_ok 200 _ _ [(2, 4), (23, 5), (43, 5), (70, 4), (84, 5), (112, 5)] _ _ _ _ _ (show (inR x4 ∧ inR x1) ∧ (x1 ≤ x4 → (Ev 2 M_Rings_lean (70, [some (vO 4), some (vI x1), some (vO 1), some (vI (x3 + 1)), none], [], (sc, ar)) Q)) ∧ (¬ (x1 ≤ x4) → ((inR x4 ∧ inR 8) ∧ (8 ≤ x4 → (Ev 2 M_Rings_lean (70, [some (vO 4), some (vI x1), some (vO 1), some (vI (x3 + 1)), none], [], (sc, ar)) Q)) ∧ (¬ (8 ≤ x4) → ((cO 4 = 4) ∧ ((aK 64 = 0 ∧ (0 : Int) ≤ x4 ∧ x4 < (8 : Int)) ∧ ((cO 4 = mK M_Rings_isLeaning) ∧ (Ev 1 M_Rings_isLeaning (0, [some (vO 4), some (vI x4), some (vI x3)], [], (sc, ar)) (fun r1 h1 => Ev 2 M_Rings_lean (112, [some (vO 4), some (vI x1), some (vO 1), some (vI x3), some (vI x4)], mPush r1 [vI (ar 64 x4.toNat), vI x4, vA 64], h1) Q)))))))) from ⟨⟨k.1, k.2.1⟩, fun c1 => (k.2.2.1 c1), fun c1 => ⟨⟨(k.2.2.2 c1).1, (by decide)⟩, fun c2 => ((k.2.2.2 c1).2.1 c2), fun c2 => ⟨(by decide), ⟨⟨(by decide), ((k.2.2.2 c1).2.2 c2).1, ((k.2.2.2 c1).2.2 c2).2.1⟩, ⟨(by decide), ((k.2.2.2 c1).2.2 c2).2.2⟩⟩⟩⟩⟩)
theorem sg_Rings_lean_112 {sc : Nat → Int} {ar : Nat → Nat → Int} {x1 x3 x4 s0 s1 s2 : Int} {Q : Option mV → mH → Prop} (k : inR s0 ∧ 
  (s0 = 0 → ((0 : Int) ≤ s2 ∧ s2 < (8 : Int) ∧ 
    (Ev 2 M_Rings_lean (84, [some (vO 4), some (vI x1), some (vO 1), some (vI x3), some (vI (x4 + 1))], [], (sc, (up ar 64 (up (ar 64) s2.toNat (bOr s1 0))))) Q))) ∧ 
  (¬ (s0 = 0) → ((0 : Int) ≤ x3 ∧ x3 < (8 : Int) ∧ 
    ((0 : Int) ≤ s2 ∧ s2 < (8 : Int) ∧ 
    (Ev 2 M_Rings_lean (84, [some (vO 4), some (vI x1), some (vO 1), some (vI x3), some (vI (x4 + 1))], [], (sc, (up ar 64 (up (ar 64) s2.toNat (bOr s1 (ar 64 x3.toNat)))))) Q))))) :
  Ev 2 M_Rings_lean (112, [some (vO 4), some (vI x1), some (vO 1), some (vI x3), some (vI x4)], [vI s0, vI s1, vI s2, vA 64], (sc, ar)) Q :=
  wq_ok 200 _ _ [(2, 4), (23, 5), (43, 5), (70, 4), (84, 5), (112, 5)] _ _ _ _ _ (show (inR s0) ∧ (s0 = 0 → ((aK 64 = 0 ∧ 64 ≠ 999 ∧ (0 : Int) ≤ s2 ∧ s2 < (8 : Int)) ∧ (Ev 2 M_Rings_lean (84, [some (vO 4), some (vI x1), some (vO 1), some (vI x3), some (vI (x4 + 1))], [], (sc, (up ar 64 (up (ar 64) s2.toNat (bOr s1 0))))) Q))) ∧ (¬ (s0 = 0) → ((cO 4 = 4) ∧ ((aK 64 = 0 ∧ (0 : Int) ≤ x3 ∧ x3 < (8 : Int)) ∧ ((aK 64 = 0 ∧ 64 ≠ 999 ∧ (0 : Int) ≤ s2 ∧ s2 < (8 : Int)) ∧ (Ev 2 M_Rings_lean (84, [some (vO 4), some (vI x1), some (vO 1), some (vI x3), some (vI (x4 + 1))], [], (sc, (up ar 64 (up (ar 64) s2.toNat (bOr s1 (ar 64 x3.toNat)))))) Q))))) from ⟨k.1, fun c1 => ⟨⟨(by decide), (by decide), (k.2.1 c1).1, (k.2.1 c1).2.1⟩, (k.2.1 c1).2.2⟩, fun c1 => ⟨(by decide), ⟨⟨(by decide), (k.2.2 c1).1, (k.2.2 c1).2.1⟩, ⟨⟨(by decide), (by decide), (k.2.2 c1).2.2.1, (k.2.2 c1).2.2.2.1⟩, (k.2.2 c1).2.2.2.2⟩⟩⟩⟩)
theorem sg_Rings_number_0 {sc : Nat → Int} {ar : Nat → Nat → Int} {x1 : Int} {Q : Option mV → mH → Prop} (k : Ev 4 M_Rings_number (13, [some (vO 4), some (vI x1), some (vI ((bShl 1 x1) - 1)), some (vI 0), none, none], [], ((up sc 66 0), ar)) Q) :
  Ev 4 M_Rings_number (0, [some (vO 4), some (vI x1), none, none, none, none], [], (sc, ar)) Q :=
  wq_ok 200 _ _ [(13, 4), (28, 4), (33, 6)] _ _ _ _ _ (show (cO 4 = 4) ∧ (Ev 4 M_Rings_number (13, [some (vO 4), some (vI x1), some (vI ((bShl 1 x1) - 1)), some (vI 0), none, none], [], ((up sc 66 0), ar)) Q) from ⟨(by decide), k⟩)
theorem sg_Rings_number_13 {sc : Nat → Int} {ar : Nat → Nat → Int} {x1 x2 x3 : Int} {Q : Option mV → mH → Prop} (k : inR x3 ∧ inR x1 ∧ 
  (x1 ≤ x3 → (Q none (sc, ar))) ∧ 
  (¬ (x1 ≤ x3) → (inR x2 ∧ 
    (x2 = 0 → (Q none (sc, ar))) ∧ 
    (¬ (x2 = 0) → (Ev 3 M_Rings_nextBlock (0, [some (vO 4), some (vI x1), some (vI x2), none, none], [], (sc, ar)) (fun r1 h1 => Ev 4 M_Rings_number (28, [some (vO 4), some (vI x1), some (vI x2), some (vI x3), none, none], mPush r1 [], h1) Q)))))) :
  Ev 4 M_Rings_number (13, [some (vO 4), some (vI x1), some (vI x2), some (vI x3), none, none], [], (sc, ar)) Q :=
  wq_ok 200 _ _ [(13, 4), (28, 4), (33, 6)] _ _ _ _ _ (show (inR x3 ∧ inR x1) ∧ (x1 ≤ x3 → (Q none (sc, ar))) ∧ (¬ (x1 ≤ x3) → ((inR x2) ∧ (x2 = 0 → (Q none (sc, ar))) ∧ (¬ (x2 = 0) → ((cO 4 = mK M_Rings_nextBlock) ∧ (Ev 3 M_Rings_nextBlock (0, [some (vO 4), some (vI x1), some (vI x2), none, none], [], (sc, ar)) (fun r1 h1 => Ev 4 M_Rings_number (28, [some (vO 4), some (vI x1), some (vI x2), some (vI x3), none, none], mPush r1 [], h1) Q)))))) from ⟨⟨k.1, k.2.1⟩, fun c1 => (k.2.2.1 c1), fun c1 => ⟨(k.2.2.2 c1).1, fun c2 => ((k.2.2.2 c1).2.1 c2), fun c2 => ⟨(by decide), ((k.2.2.2 c1).2.2 c2)⟩⟩⟩)
theorem sg_Rings_number_28 {sc : Nat → Int} {ar : Nat → Nat → Int} {x1 x2 x3 s0 : Int} {Q : Option mV → mH → Prop} (k : Ev 4 M_Rings_number (33, [some (vO 4), some (vI x1), some (vI x2), some (vI x3), some (vI s0), some (vI 0)], [], (sc, ar)) Q) :
  Ev 4 M_Rings_number (28, [some (vO 4), some (vI x1), some (vI x2), some (vI x3), none, none], [vI s0], (sc, ar)) Q :=
  wq_ok 200 _ _ [(13, 4), (28, 4), (33, 6)] _ _ _ _ _ (show Ev 4 M_Rings_number (33, [some (vO 4), some (vI x1), some (vI x2), some (vI x3), some (vI s0), some (vI 0)], [], (sc, ar)) Q from k)
theorem sg_Rings_number_33 {sc : Nat → Int} {ar : Nat → Nat → Int} {x1 x2 x3 x4 x5 : Int} {Q : Option mV → mH → Prop} (k : inR x5 ∧ inR x1 ∧ 
  (x1 ≤ x5 → (Ev 4 M_Rings_number (13, [some (vO 4), some (vI x1), some (vI (bAnd x2 (bXor x4 (-1)))), some (vI (x3 + 1)), none, none], [], ((up sc 66 ((sc 66) + 1)), ar)) Q)) ∧ 
  (¬ (x1 ≤ x5) → (inR x5 ∧ 
    (8 ≤ x5 → (Ev 4 M_Rings_number (13, [some (vO 4), some (vI x1), some (vI (bAnd x2 (bXor x4 (-1)))), some (vI (x3 + 1)), none, none], [], ((up sc 66 ((sc 66) + 1)), ar)) Q)) ∧ 
    (¬ (8 ≤ x5) → (inR (bAnd x4 (bShl 1 x5)) ∧ 
      ((bAnd x4 (bShl 1 x5)) = 0 → (Ev 4 M_Rings_number (33, [some (vO 4), some (vI x1), some (vI x2), some (vI x3), some (vI x4), some (vI (x5 + 1))], [], (sc, ar)) Q)) ∧ 
      (¬ ((bAnd x4 (bShl 1 x5)) = 0) → ((0 : Int) ≤ x5 ∧ x5 < (8 : Int) ∧ 
        (Ev 4 M_Rings_number (33, [some (vO 4), some (vI x1), some (vI x2), some (vI x3), some (vI x4), some (vI (x5 + 1))], [], (sc, (up ar 65 (up (ar 65) x5.toNat (sc 66))))) Q)))))))) :
  Ev 4 M_Rings_number (33, [some (vO 4), some (vI x1), some (vI x2), some (vI x3), some (vI x4), some (vI x5)], [], (sc, ar)) Q :=
  wq_ok 200 _ _ [(13, 4), (28, 4), (33, 6)] _ _ _ _ _ (show (inR x5 ∧ inR x1) ∧ (x1 ≤ x5 → ((cO 4 = 4) ∧ ((cO 4 = 4) ∧ (Ev 4 M_Rings_number (13, [some (vO 4), some (vI x1), some (vI (bAnd x2 (bXor x4 (-1)))), some (vI (x3 + 1)), none, none], [], ((up sc 66 ((sc 66) + 1)), ar)) Q)))) ∧ (¬ (x1 ≤ x5) → ((inR x5 ∧ inR 8) ∧ (8 ≤ x5 → ((cO 4 = 4) ∧ ((cO 4 = 4) ∧ (Ev 4 M_Rings_number (13, [some (vO 4), some (vI x1), some (vI (bAnd x2 (bXor x4 (-1)))), some (vI (x3 + 1)), none, none], [], ((up sc 66 ((sc 66) + 1)), ar)) Q)))) ∧ (¬ (8 ≤ x5) → ((inR (bAnd x4 (bShl 1 x5))) ∧ ((bAnd x4 (bShl 1 x5)) = 0 → (Ev 4 M_Rings_number (33, [some (vO 4), some (vI x1), some (vI x2), some (vI x3), some (vI x4), some (vI (x5 + 1))], [], (sc, ar)) Q)) ∧ (¬ ((bAnd x4 (bShl 1 x5)) = 0) → ((cO 4 = 4) ∧ ((cO 4 = 4) ∧ ((aK 65 = 0 ∧ 65 ≠ 999 ∧ (0 : Int) ≤ x5 ∧ x5 < (8 : Int)) ∧ (Ev 4 M_Rings_number (33, [some (vO 4), some (vI x1), some (vI x2), some (vI x3), some (vI x4), some (vI (x5 + 1))], [], (sc, (up ar 65 (up (ar 65) x5.toNat (sc 66))))) Q))))))))) from ⟨⟨k.1, k.2.1⟩, fun c1 => ⟨(by decide), ⟨(by decide), (k.2.2.1 c1)⟩⟩, fun c1 => ⟨⟨(k.2.2.2 c1).1, (by decide)⟩, fun c2 => ⟨(by decide), ⟨(by decide), ((k.2.2.2 c1).2.1 c2)⟩⟩, fun c2 => ⟨((k.2.2.2 c1).2.2 c2).1, fun c3 => (((k.2.2.2 c1).2.2 c2).2.1 c3), fun c3 => ⟨(by decide), ⟨(by decide), ⟨⟨(by decide), (by decide), (((k.2.2.2 c1).2.2 c2).2.2 c3).1, (((k.2.2.2 c1).2.2 c2).2.2 c3).2.1⟩, (((k.2.2.2 c1).2.2 c2).2.2 c3).2.2⟩⟩⟩⟩⟩⟩)
theorem sg_Rings_nextBlock_0 {sc : Nat → Int} {ar : Nat → Nat → Int} {x1 x2 : Int} {Q : Option mV → mH → Prop} (k : Ev 3 M_Rings_nextBlock (2, [some (vO 4), some (vI x1), some (vI x2), some (vI 0), none], [], (sc, ar)) Q) :
  Ev 3 M_Rings_nextBlock (0, [some (vO 4), some (vI x1), some (vI x2), none, none], [], (sc, ar)) Q :=
  wq_ok 200 _ _ [(2, 4), (13, 4), (31, 5)] _ _ _ _ _ (show Ev 3 M_Rings_nextBlock (2, [some (vO 4), some (vI x1), some (vI x2), some (vI 0), none], [], (sc, ar)) Q from k)
theorem sg_Rings_nextBlock_2 {sc : Nat → Int} {ar : Nat → Nat → Int} {x1 x2 x3 : Int} {Q : Option mV → mH → Prop} (k : inR x3 ∧ inR x1 ∧ 
  (x1 ≤ x3 → (Q (some (vI 0)) (sc, ar))) ∧ 
  (¬ (x1 ≤ x3) → (Ev 2 M_Rings_blockAround (0, [some (vO 4), some (vI x3), some (vI x1), none, none], [], (sc, ar)) (fun r1 h1 => Ev 3 M_Rings_nextBlock (13, [some (vO 4), some (vI x1), some (vI x2), some (vI x3), none], mPush r1 [], h1) Q)))) :
  Ev 3 M_Rings_nextBlock (2, [some (vO 4), some (vI x1), some (vI x2), some (vI x3), none], [], (sc, ar)) Q :=
  wq_ok 200 _ _ [(2, 4), (13, 4), (31, 5)] _ _ _ _ _ (show (inR x3 ∧ inR x1) ∧ (x1 ≤ x3 → (Q (some (vI 0)) (sc, ar))) ∧ (¬ (x1 ≤ x3) → ((cO 4 = mK M_Rings_blockAround) ∧ (Ev 2 M_Rings_blockAround (0, [some (vO 4), some (vI x3), some (vI x1), none, none], [], (sc, ar)) (fun r1 h1 => Ev 3 M_Rings_nextBlock (13, [some (vO 4), some (vI x1), some (vI x2), some (vI x3), none], mPush r1 [], h1) Q)))) from ⟨⟨k.1, k.2.1⟩, fun c1 => (k.2.2.1 c1), fun c1 => ⟨(by decide), (k.2.2.2 c1)⟩⟩)
theorem sg_Rings_nextBlock_13 {sc : Nat → Int} {ar : Nat → Nat → Int} {x1 x2 x3 s0 : Int} {Q : Option mV → mH → Prop} (k : inR (bAnd x2 (bShl 1 x3)) ∧ 
  ((bAnd x2 (bShl 1 x3)) = 0 → (Ev 3 M_Rings_nextBlock (2, [some (vO 4), some (vI x1), some (vI x2), some (vI (x3 + 1)), none], [], (sc, ar)) Q)) ∧ 
  (¬ ((bAnd x2 (bShl 1 x3)) = 0) → (Ev 2 M_Dt_valueOf (0, [some (vA 64), some (vI x3)], [], (sc, ar)) (fun r1 h1 => Ev 3 M_Rings_nextBlock (31, [some (vO 4), some (vI x1), some (vI x2), some (vI x3), some (vI s0)], mPush r1 [], h1) Q)))) :
  Ev 3 M_Rings_nextBlock (13, [some (vO 4), some (vI x1), some (vI x2), some (vI x3), none], [vI s0], (sc, ar)) Q :=
  wq_ok 200 _ _ [(2, 4), (13, 4), (31, 5)] _ _ _ _ _ (show (inR (bAnd x2 (bShl 1 x3))) ∧ ((bAnd x2 (bShl 1 x3)) = 0 → (Ev 3 M_Rings_nextBlock (2, [some (vO 4), some (vI x1), some (vI x2), some (vI (x3 + 1)), none], [], (sc, ar)) Q)) ∧ (¬ ((bAnd x2 (bShl 1 x3)) = 0) → ((cO 4 = 4) ∧ (Ev 2 M_Dt_valueOf (0, [some (vA 64), some (vI x3)], [], (sc, ar)) (fun r1 h1 => Ev 3 M_Rings_nextBlock (31, [some (vO 4), some (vI x1), some (vI x2), some (vI x3), some (vI s0)], mPush r1 [], h1) Q)))) from ⟨k.1, fun c1 => (k.2.1 c1), fun c1 => ⟨(by decide), (k.2.2 c1)⟩⟩)
theorem sg_Rings_nextBlock_31 {sc : Nat → Int} {ar : Nat → Nat → Int} {x1 x2 x3 x4 s0 : Int} {Q : Option mV → mH → Prop} (k : inR (bAnd (bAnd s0 x2) (bXor x4 (-1))) ∧ 
  ((bAnd (bAnd s0 x2) (bXor x4 (-1))) ≠ 0 → (Ev 3 M_Rings_nextBlock (2, [some (vO 4), some (vI x1), some (vI x2), some (vI (x3 + 1)), none], [], (sc, ar)) Q)) ∧ 
  (¬ ((bAnd (bAnd s0 x2) (bXor x4 (-1))) ≠ 0) → (Q (some (vI x4)) (sc, ar)))) :
  Ev 3 M_Rings_nextBlock (31, [some (vO 4), some (vI x1), some (vI x2), some (vI x3), some (vI x4)], [vI s0], (sc, ar)) Q :=
  wq_ok 200 _ _ [(2, 4), (13, 4), (31, 5)] _ _ _ _ _ (show (inR (bAnd (bAnd s0 x2) (bXor x4 (-1)))) ∧ ((bAnd (bAnd s0 x2) (bXor x4 (-1))) ≠ 0 → (Ev 3 M_Rings_nextBlock (2, [some (vO 4), some (vI x1), some (vI x2), some (vI (x3 + 1)), none], [], (sc, ar)) Q)) ∧ (¬ ((bAnd (bAnd s0 x2) (bXor x4 (-1))) ≠ 0) → (Q (some (vI x4)) (sc, ar))) from ⟨k.1, fun c1 => (k.2.1 c1), fun c1 => (k.2.2 c1)⟩)
theorem sg_Rings_blockAround_0 {sc : Nat → Int} {ar : Nat → Nat → Int} {x1 x2 : Int} {Q : Option mV → mH → Prop} (k : Ev 2 M_Rings_blockAround (7, [some (vO 4), some (vI x1), some (vI x2), some (vI (bShl 1 x1)), some (vI 0)], [], (sc, ar)) Q) :
  Ev 2 M_Rings_blockAround (0, [some (vO 4), some (vI x1), some (vI x2), none, none], [], (sc, ar)) Q :=
  wq_ok 200 _ _ [(7, 5), (21, 5), (31, 5)] _ _ _ _ _ (show Ev 2 M_Rings_blockAround (7, [some (vO 4), some (vI x1), some (vI x2), some (vI (bShl 1 x1)), some (vI 0)], [], (sc, ar)) Q from k)
theorem sg_Rings_blockAround_7 {sc : Nat → Int} {ar : Nat → Nat → Int} {x1 x2 x3 x4 : Int} {Q : Option mV → mH → Prop} (k : inR x4 ∧ inR x2 ∧ 
  (x2 ≤ x4 → (Q (some (vI x3)) (sc, ar))) ∧ 
  (¬ (x2 ≤ x4) → (Ev 1 M_Rings_isLeaning (0, [some (vO 4), some (vI x1), some (vI x4)], [], (sc, ar)) (fun r1 h1 => Ev 2 M_Rings_blockAround (21, [some (vO 4), some (vI x1), some (vI x2), some (vI x3), some (vI x4)], mPush r1 [vI x3], h1) Q)))) :
  Ev 2 M_Rings_blockAround (7, [some (vO 4), some (vI x1), some (vI x2), some (vI x3), some (vI x4)], [], (sc, ar)) Q :=
  wq_ok 200 _ _ [(7, 5), (21, 5), (31, 5)] _ _ _ _ _ (show (inR x4 ∧ inR x2) ∧ (x2 ≤ x4 → (Q (some (vI x3)) (sc, ar))) ∧ (¬ (x2 ≤ x4) → ((cO 4 = mK M_Rings_isLeaning) ∧ (Ev 1 M_Rings_isLeaning (0, [some (vO 4), some (vI x1), some (vI x4)], [], (sc, ar)) (fun r1 h1 => Ev 2 M_Rings_blockAround (21, [some (vO 4), some (vI x1), some (vI x2), some (vI x3), some (vI x4)], mPush r1 [vI x3], h1) Q)))) from ⟨⟨k.1, k.2.1⟩, fun c1 => (k.2.2.1 c1), fun c1 => ⟨(by decide), (k.2.2.2 c1)⟩⟩)
theorem sg_Rings_blockAround_21 {sc : Nat → Int} {ar : Nat → Nat → Int} {x1 x2 x3 x4 s0 s1 : Int} {Q : Option mV → mH → Prop} (k : inR s0 ∧ 
  (s0 = 0 → (Ev 2 M_Rings_blockAround (7, [some (vO 4), some (vI x1), some (vI x2), some (vI (bOr s1 0)), some (vI (x4 + 1))], [], (sc, ar)) Q)) ∧ 
  (¬ (s0 = 0) → (Ev 1 M_Rings_isLeaning (0, [some (vO 4), some (vI x4), some (vI x1)], [], (sc, ar)) (fun r1 h1 => Ev 2 M_Rings_blockAround (31, [some (vO 4), some (vI x1), some (vI x2), some (vI x3), some (vI x4)], mPush r1 [vI s1], h1) Q)))) :
  Ev 2 M_Rings_blockAround (21, [some (vO 4), some (vI x1), some (vI x2), some (vI x3), some (vI x4)], [vI s0, vI s1], (sc, ar)) Q :=
  wq_ok 200 _ _ [(7, 5), (21, 5), (31, 5)] _ _ _ _ _ (show (inR s0) ∧ (s0 = 0 → (Ev 2 M_Rings_blockAround (7, [some (vO 4), some (vI x1), some (vI x2), some (vI (bOr s1 0)), some (vI (x4 + 1))], [], (sc, ar)) Q)) ∧ (¬ (s0 = 0) → ((cO 4 = mK M_Rings_isLeaning) ∧ (Ev 1 M_Rings_isLeaning (0, [some (vO 4), some (vI x4), some (vI x1)], [], (sc, ar)) (fun r1 h1 => Ev 2 M_Rings_blockAround (31, [some (vO 4), some (vI x1), some (vI x2), some (vI x3), some (vI x4)], mPush r1 [vI s1], h1) Q)))) from ⟨k.1, fun c1 => (k.2.1 c1), fun c1 => ⟨(by decide), (k.2.2 c1)⟩⟩)
theorem sg_Rings_blockAround_31 {sc : Nat → Int} {ar : Nat → Nat → Int} {x1 x2 x3 x4 s0 s1 : Int} {Q : Option mV → mH → Prop} (k : inR s0 ∧ 
  (s0 = 0 → (Ev 2 M_Rings_blockAround (7, [some (vO 4), some (vI x1), some (vI x2), some (vI (bOr s1 0)), some (vI (x4 + 1))], [], (sc, ar)) Q)) ∧ 
  (¬ (s0 = 0) → (Ev 2 M_Rings_blockAround (7, [some (vO 4), some (vI x1), some (vI x2), some (vI (bOr s1 (bShl 1 x4))), some (vI (x4 + 1))], [], (sc, ar)) Q))) :
  Ev 2 M_Rings_blockAround (31, [some (vO 4), some (vI x1), some (vI x2), some (vI x3), some (vI x4)], [vI s0, vI s1], (sc, ar)) Q :=
  wq_ok 200 _ _ [(7, 5), (21, 5), (31, 5)] _ _ _ _ _ (show (inR s0) ∧ (s0 = 0 → (Ev 2 M_Rings_blockAround (7, [some (vO 4), some (vI x1), some (vI x2), some (vI (bOr s1 0)), some (vI (x4 + 1))], [], (sc, ar)) Q)) ∧ (¬ (s0 = 0) → (Ev 2 M_Rings_blockAround (7, [some (vO 4), some (vI x1), some (vI x2), some (vI (bOr s1 (bShl 1 x4))), some (vI (x4 + 1))], [], (sc, ar)) Q)) from ⟨k.1, fun c1 => (k.2.1 c1), fun c1 => (k.2.2 c1)⟩)
end
section
/-! segments of the methods, printed by tools/seg.py: what must hold at a place for the walk to the next ones -/
theorem sg_Dt_task_0 {sc : Nat → Int} {ar : Nat → Nat → Int} {x1 : Int} {Q : Option mV → mH → Prop} (k : Ev 1 M_Dt_isTime (0, [some (vI x1)], [], (sc, ar)) (fun r1 h1 => Ev 2 M_Dt_task (4, [some (vO 0), some (vI x1), none], mPush r1 [], h1) Q)) :
  Ev 2 M_Dt_task (0, [some (vO 0), some (vI x1), none], [], (sc, ar)) Q :=
  wq_ok 200 _ _ [(4, 2), (52, 3)] _ _ _ _ _ (show Ev 1 M_Dt_isTime (0, [some (vI x1)], [], (sc, ar)) (fun r1 h1 => Ev 2 M_Dt_task (4, [some (vO 0), some (vI x1), none], mPush r1 [], h1) Q) from k)
theorem sg_Dt_task_4 {sc : Nat → Int} {ar : Nat → Nat → Int} {x1 s0 : Int} {Q : Option mV → mH → Prop} (k : inR s0 ∧ 
  (s0 ≠ 0 → (inR (sc 10) ∧ 
    ((sc 10) < 8 → ((0 : Int) ≤ (sc 10) ∧ (sc 10) < (8 : Int) ∧ 
      (Ev 1 M_Order_restart (0, [some (vO 3), some (vI ((sc 10) + 1)), none], [], ((up sc 10 ((sc 10) + 1)), (up ar 0 (up (ar 0) (sc 10).toNat x1)))) (fun r1 h1 => Ev 2 M_Dt_task (52, [some (vO 0), some (vI x1), some (vI (sc 10))], mPush r1 [], h1) Q)))) ∧ 
    (¬ ((sc 10) < 8) → (Q (some (vI (-4))) (sc, ar))))) ∧ 
  (¬ (s0 ≠ 0) → (Q (some (vI (-2))) (sc, ar)))) :
  Ev 2 M_Dt_task (4, [some (vO 0), some (vI x1), none], [vI s0], (sc, ar)) Q :=
  wq_ok 200 _ _ [(4, 2), (52, 3)] _ _ _ _ _ (show (inR s0) ∧ (s0 ≠ 0 → ((cO 0 = 8) ∧ ((inR (sc 10) ∧ inR 8) ∧ ((sc 10) < 8 → ((cO 0 = 8) ∧ ((cO 0 = 8) ∧ ((aK 0 = 0 ∧ 0 ≠ 999 ∧ (0 : Int) ≤ (sc 10) ∧ (sc 10) < (8 : Int)) ∧ ((cO 0 = 8) ∧ ((cO 0 = 8) ∧ ((cO 0 = 8) ∧ ((cO 3 = mK M_Order_restart) ∧ (Ev 1 M_Order_restart (0, [some (vO 3), some (vI ((sc 10) + 1)), none], [], ((up sc 10 ((sc 10) + 1)), (up ar 0 (up (ar 0) (sc 10).toNat x1)))) (fun r1 h1 => Ev 2 M_Dt_task (52, [some (vO 0), some (vI x1), some (vI (sc 10))], mPush r1 [], h1) Q)))))))))) ∧ (¬ ((sc 10) < 8) → (Q (some (vI (-4))) (sc, ar)))))) ∧ (¬ (s0 ≠ 0) → (Q (some (vI (-2))) (sc, ar))) from ⟨k.1, fun c1 => ⟨(by decide), ⟨⟨(k.2.1 c1).1, (by decide)⟩, fun c2 => ⟨(by decide), ⟨(by decide), ⟨⟨(by decide), (by decide), ((k.2.1 c1).2.1 c2).1, ((k.2.1 c1).2.1 c2).2.1⟩, ⟨(by decide), ⟨(by decide), ⟨(by decide), ⟨(by decide), ((k.2.1 c1).2.1 c2).2.2⟩⟩⟩⟩⟩⟩⟩, fun c2 => ((k.2.1 c1).2.2 c2)⟩⟩, fun c1 => (k.2.2 c1)⟩)
theorem sg_Dt_task_52 {sc : Nat → Int} {ar : Nat → Nat → Int} {x1 x2 : Int} {Q : Option mV → mH → Prop} (k : Q (some (vI x2)) (sc, ar)) :
  Ev 2 M_Dt_task (52, [some (vO 0), some (vI x1), some (vI x2)], [], (sc, ar)) Q :=
  wq_ok 200 _ _ [(4, 2), (52, 3)] _ _ _ _ _ (show Q (some (vI x2)) (sc, ar) from k)
theorem sg_Dt_time_0 {sc : Nat → Int} {ar : Nat → Nat → Int} {x1 x2 : Int} {Q : Option mV → mH → Prop} (k : Ev 0 M_Dt_isTask (0, [some (vO 0), some (vI x1)], [], (sc, ar)) (fun r1 h1 => Ev 1 M_Dt_time (5, [some (vO 0), some (vI x1), some (vI x2), none], mPush r1 [], h1) Q)) :
  Ev 1 M_Dt_time (0, [some (vO 0), some (vI x1), some (vI x2), none], [], (sc, ar)) Q :=
  wq_ok 200 _ _ [(5, 3), (14, 3)] _ _ _ _ _ (show (cO 0 = mK M_Dt_isTask) ∧ (Ev 0 M_Dt_isTask (0, [some (vO 0), some (vI x1)], [], (sc, ar)) (fun r1 h1 => Ev 1 M_Dt_time (5, [some (vO 0), some (vI x1), some (vI x2), none], mPush r1 [], h1) Q)) from ⟨(by decide), k⟩)
theorem sg_Dt_time_5 {sc : Nat → Int} {ar : Nat → Nat → Int} {x1 x2 s0 : Int} {Q : Option mV → mH → Prop} (k : inR s0 ∧ 
  (s0 ≠ 0 → (Ev 0 M_Dt_isTime (0, [some (vI x2)], [], (sc, ar)) (fun r1 h1 => Ev 1 M_Dt_time (14, [some (vO 0), some (vI x1), some (vI x2), none], mPush r1 [], h1) Q))) ∧ 
  (¬ (s0 ≠ 0) → (Q (some (vI (-1))) (sc, ar)))) :
  Ev 1 M_Dt_time (5, [some (vO 0), some (vI x1), some (vI x2), none], [vI s0], (sc, ar)) Q :=
  wq_ok 200 _ _ [(5, 3), (14, 3)] _ _ _ _ _ (show (inR s0) ∧ (s0 ≠ 0 → (Ev 0 M_Dt_isTime (0, [some (vI x2)], [], (sc, ar)) (fun r1 h1 => Ev 1 M_Dt_time (14, [some (vO 0), some (vI x1), some (vI x2), none], mPush r1 [], h1) Q))) ∧ (¬ (s0 ≠ 0) → (Q (some (vI (-1))) (sc, ar))) from ⟨k.1, fun c1 => (k.2.1 c1), fun c1 => (k.2.2 c1)⟩)
theorem sg_Dt_time_14 {sc : Nat → Int} {ar : Nat → Nat → Int} {x1 x2 s0 : Int} {Q : Option mV → mH → Prop} (k : inR s0 ∧ 
  (s0 ≠ 0 → ((0 : Int) ≤ x1 ∧ x1 < (8 : Int) ∧ 
    ((0 : Int) ≤ x1 ∧ x1 < (8 : Int) ∧ 
    (Q (some (vI (ar 0 x1.toNat))) (sc, (up ar 0 (up (ar 0) x1.toNat x2))))))) ∧ 
  (¬ (s0 ≠ 0) → (Q (some (vI (-2))) (sc, ar)))) :
  Ev 1 M_Dt_time (14, [some (vO 0), some (vI x1), some (vI x2), none], [vI s0], (sc, ar)) Q :=
  wq_ok 200 _ _ [(5, 3), (14, 3)] _ _ _ _ _ (show (inR s0) ∧ (s0 ≠ 0 → ((cO 0 = 8) ∧ ((aK 0 = 0 ∧ (0 : Int) ≤ x1 ∧ x1 < (8 : Int)) ∧ ((cO 0 = 8) ∧ ((aK 0 = 0 ∧ 0 ≠ 999 ∧ (0 : Int) ≤ x1 ∧ x1 < (8 : Int)) ∧ (Q (some (vI (ar 0 x1.toNat))) (sc, (up ar 0 (up (ar 0) x1.toNat x2))))))))) ∧ (¬ (s0 ≠ 0) → (Q (some (vI (-2))) (sc, ar))) from ⟨k.1, fun c1 => ⟨(by decide), ⟨⟨(by decide), (k.2.1 c1).1, (k.2.1 c1).2.1⟩, ⟨(by decide), ⟨⟨(by decide), (by decide), (k.2.1 c1).2.2.1, (k.2.1 c1).2.2.2.1⟩, (k.2.1 c1).2.2.2.2⟩⟩⟩⟩, fun c1 => (k.2.2 c1)⟩)
theorem sg_Dt_need_0 {sc : Nat → Int} {ar : Nat → Nat → Int} {x1 x2 x3 : Int} {Q : Option mV → mH → Prop} (k : Ev 1 M_Dt_isTask (0, [some (vO 0), some (vI x1)], [], (sc, ar)) (fun r1 h1 => Ev 2 M_Dt_need (5, [some (vO 0), some (vI x1), some (vI x2), some (vI x3)], mPush r1 [], h1) Q)) :
  Ev 2 M_Dt_need (0, [some (vO 0), some (vI x1), some (vI x2), some (vI x3)], [], (sc, ar)) Q :=
  wq_ok 200 _ _ [(5, 4), (13, 4), (49, 4)] _ _ _ _ _ (show (cO 0 = mK M_Dt_isTask) ∧ (Ev 1 M_Dt_isTask (0, [some (vO 0), some (vI x1)], [], (sc, ar)) (fun r1 h1 => Ev 2 M_Dt_need (5, [some (vO 0), some (vI x1), some (vI x2), some (vI x3)], mPush r1 [], h1) Q)) from ⟨(by decide), k⟩)
theorem sg_Dt_need_5 {sc : Nat → Int} {ar : Nat → Nat → Int} {x1 x2 x3 s0 : Int} {Q : Option mV → mH → Prop} (k : inR s0 ∧ 
  (s0 = 0 → (Q (some (vI (-1))) (sc, ar))) ∧ 
  (¬ (s0 = 0) → (Ev 1 M_Dt_isTask (0, [some (vO 0), some (vI x2)], [], (sc, ar)) (fun r1 h1 => Ev 2 M_Dt_need (13, [some (vO 0), some (vI x1), some (vI x2), some (vI x3)], mPush r1 [], h1) Q)))) :
  Ev 2 M_Dt_need (5, [some (vO 0), some (vI x1), some (vI x2), some (vI x3)], [vI s0], (sc, ar)) Q :=
  wq_ok 200 _ _ [(5, 4), (13, 4), (49, 4)] _ _ _ _ _ (show (inR s0) ∧ (s0 = 0 → (Q (some (vI (-1))) (sc, ar))) ∧ (¬ (s0 = 0) → ((cO 0 = mK M_Dt_isTask) ∧ (Ev 1 M_Dt_isTask (0, [some (vO 0), some (vI x2)], [], (sc, ar)) (fun r1 h1 => Ev 2 M_Dt_need (13, [some (vO 0), some (vI x1), some (vI x2), some (vI x3)], mPush r1 [], h1) Q)))) from ⟨k.1, fun c1 => (k.2.1 c1), fun c1 => ⟨(by decide), (k.2.2 c1)⟩⟩)
theorem sg_Dt_need_13 {sc : Nat → Int} {ar : Nat → Nat → Int} {x1 x2 x3 s0 : Int} {Q : Option mV → mH → Prop} (k : inR s0 ∧ 
  (s0 ≠ 0 → (inR x3 ∧ 
    (x3 < 0 → (Q (some (vI (-2))) (sc, ar))) ∧ 
    (¬ (x3 < 0) → (inR x3 ∧ 
      (x3 ≤ 9 → (inR x1 ∧ inR x2 ∧ 
        (x1 ≠ x2 → (Ev 1 M_Table_put (0, [some (vO 1), some (vI x1), some (vI x2), some (vI x3), none, none], [], (sc, ar)) (fun r1 h1 => Ev 2 M_Dt_need (49, [some (vO 0), some (vI x1), some (vI x2), some (vI x3)], mPush r1 [], h1) Q))) ∧ 
        (¬ (x1 ≠ x2) → (Q (some (vI (-3))) (sc, ar))))) ∧ 
      (¬ (x3 ≤ 9) → (Q (some (vI (-2))) (sc, ar))))))) ∧ 
  (¬ (s0 ≠ 0) → (Q (some (vI (-1))) (sc, ar)))) :
  Ev 2 M_Dt_need (13, [some (vO 0), some (vI x1), some (vI x2), some (vI x3)], [vI s0], (sc, ar)) Q :=
  wq_ok 200 _ _ [(5, 4), (13, 4), (49, 4)] _ _ _ _ _ (show (inR s0) ∧ (s0 ≠ 0 → ((inR x3) ∧ (x3 < 0 → (Q (some (vI (-2))) (sc, ar))) ∧ (¬ (x3 < 0) → ((inR x3 ∧ inR 9) ∧ (x3 ≤ 9 → ((inR x1 ∧ inR x2) ∧ (x1 ≠ x2 → ((cO 0 = 8) ∧ ((cO 1 = mK M_Table_put) ∧ (Ev 1 M_Table_put (0, [some (vO 1), some (vI x1), some (vI x2), some (vI x3), none, none], [], (sc, ar)) (fun r1 h1 => Ev 2 M_Dt_need (49, [some (vO 0), some (vI x1), some (vI x2), some (vI x3)], mPush r1 [], h1) Q))))) ∧ (¬ (x1 ≠ x2) → (Q (some (vI (-3))) (sc, ar))))) ∧ (¬ (x3 ≤ 9) → (Q (some (vI (-2))) (sc, ar))))))) ∧ (¬ (s0 ≠ 0) → (Q (some (vI (-1))) (sc, ar))) from ⟨k.1, fun c1 => ⟨(k.2.1 c1).1, fun c2 => ((k.2.1 c1).2.1 c2), fun c2 => ⟨⟨((k.2.1 c1).2.2 c2).1, (by decide)⟩, fun c3 => ⟨⟨(((k.2.1 c1).2.2 c2).2.1 c3).1, (((k.2.1 c1).2.2 c2).2.1 c3).2.1⟩, fun c4 => ⟨(by decide), ⟨(by decide), ((((k.2.1 c1).2.2 c2).2.1 c3).2.2.1 c4)⟩⟩, fun c4 => ((((k.2.1 c1).2.2 c2).2.1 c3).2.2.2 c4)⟩, fun c3 => (((k.2.1 c1).2.2 c2).2.2 c3)⟩⟩, fun c1 => (k.2.2 c1)⟩)
theorem sg_Dt_need_49 {sc : Nat → Int} {ar : Nat → Nat → Int} {x1 x2 x3 s0 : Int} {Q : Option mV → mH → Prop} (k : Q (some (vI s0)) (sc, ar)) :
  Ev 2 M_Dt_need (49, [some (vO 0), some (vI x1), some (vI x2), some (vI x3)], [vI s0], (sc, ar)) Q :=
  wq_ok 200 _ _ [(5, 4), (13, 4), (49, 4)] _ _ _ _ _ (show Q (some (vI s0)) (sc, ar) from k)
theorem sg_Dt_strength_0 {sc : Nat → Int} {ar : Nat → Nat → Int} {x1 x2 : Int} {Q : Option mV → mH → Prop} (k : Ev 1 M_Dt_isTask (0, [some (vO 0), some (vI x1)], [], (sc, ar)) (fun r1 h1 => Ev 2 M_Dt_strength (5, [some (vO 0), some (vI x1), some (vI x2)], mPush r1 [], h1) Q)) :
  Ev 2 M_Dt_strength (0, [some (vO 0), some (vI x1), some (vI x2)], [], (sc, ar)) Q :=
  wq_ok 200 _ _ [(5, 3), (13, 3), (27, 3)] _ _ _ _ _ (show (cO 0 = mK M_Dt_isTask) ∧ (Ev 1 M_Dt_isTask (0, [some (vO 0), some (vI x1)], [], (sc, ar)) (fun r1 h1 => Ev 2 M_Dt_strength (5, [some (vO 0), some (vI x1), some (vI x2)], mPush r1 [], h1) Q)) from ⟨(by decide), k⟩)
theorem sg_Dt_strength_5 {sc : Nat → Int} {ar : Nat → Nat → Int} {x1 x2 s0 : Int} {Q : Option mV → mH → Prop} (k : inR s0 ∧ 
  (s0 = 0 → (Q (some (vI (-1))) (sc, ar))) ∧ 
  (¬ (s0 = 0) → (Ev 1 M_Dt_isTask (0, [some (vO 0), some (vI x2)], [], (sc, ar)) (fun r1 h1 => Ev 2 M_Dt_strength (13, [some (vO 0), some (vI x1), some (vI x2)], mPush r1 [], h1) Q)))) :
  Ev 2 M_Dt_strength (5, [some (vO 0), some (vI x1), some (vI x2)], [vI s0], (sc, ar)) Q :=
  wq_ok 200 _ _ [(5, 3), (13, 3), (27, 3)] _ _ _ _ _ (show (inR s0) ∧ (s0 = 0 → (Q (some (vI (-1))) (sc, ar))) ∧ (¬ (s0 = 0) → ((cO 0 = mK M_Dt_isTask) ∧ (Ev 1 M_Dt_isTask (0, [some (vO 0), some (vI x2)], [], (sc, ar)) (fun r1 h1 => Ev 2 M_Dt_strength (13, [some (vO 0), some (vI x1), some (vI x2)], mPush r1 [], h1) Q)))) from ⟨k.1, fun c1 => (k.2.1 c1), fun c1 => ⟨(by decide), (k.2.2 c1)⟩⟩)
theorem sg_Dt_strength_13 {sc : Nat → Int} {ar : Nat → Nat → Int} {x1 x2 s0 : Int} {Q : Option mV → mH → Prop} (k : inR s0 ∧ 
  (s0 ≠ 0 → (Ev 1 M_Table_get (0, [some (vO 1), some (vI x1), some (vI x2)], [], (sc, ar)) (fun r1 h1 => Ev 2 M_Dt_strength (27, [some (vO 0), some (vI x1), some (vI x2)], mPush r1 [], h1) Q))) ∧ 
  (¬ (s0 ≠ 0) → (Q (some (vI (-1))) (sc, ar)))) :
  Ev 2 M_Dt_strength (13, [some (vO 0), some (vI x1), some (vI x2)], [vI s0], (sc, ar)) Q :=
  wq_ok 200 _ _ [(5, 3), (13, 3), (27, 3)] _ _ _ _ _ (show (inR s0) ∧ (s0 ≠ 0 → ((cO 0 = 8) ∧ ((cO 1 = mK M_Table_get) ∧ (Ev 1 M_Table_get (0, [some (vO 1), some (vI x1), some (vI x2)], [], (sc, ar)) (fun r1 h1 => Ev 2 M_Dt_strength (27, [some (vO 0), some (vI x1), some (vI x2)], mPush r1 [], h1) Q))))) ∧ (¬ (s0 ≠ 0) → (Q (some (vI (-1))) (sc, ar))) from ⟨k.1, fun c1 => ⟨(by decide), ⟨(by decide), (k.2.1 c1)⟩⟩, fun c1 => (k.2.2 c1)⟩)
theorem sg_Dt_strength_27 {sc : Nat → Int} {ar : Nat → Nat → Int} {x1 x2 s0 : Int} {Q : Option mV → mH → Prop} (k : Q (some (vI s0)) (sc, ar)) :
  Ev 2 M_Dt_strength (27, [some (vO 0), some (vI x1), some (vI x2)], [vI s0], (sc, ar)) Q :=
  wq_ok 200 _ _ [(5, 3), (13, 3), (27, 3)] _ _ _ _ _ (show Q (some (vI s0)) (sc, ar) from k)
theorem sg_Dt_leans_0 {sc : Nat → Int} {ar : Nat → Nat → Int} {x1 x2 : Int} {Q : Option mV → mH → Prop} (k : Ev 5 M_Dt_isTask (0, [some (vO 0), some (vI x1)], [], (sc, ar)) (fun r1 h1 => Ev 6 M_Dt_leans (5, [some (vO 0), some (vI x1), some (vI x2)], mPush r1 [], h1) Q)) :
  Ev 6 M_Dt_leans (0, [some (vO 0), some (vI x1), some (vI x2)], [], (sc, ar)) Q :=
  wq_ok 200 _ _ [(5, 3), (13, 3), (33, 3), (42, 3)] _ _ _ _ _ (show (cO 0 = mK M_Dt_isTask) ∧ (Ev 5 M_Dt_isTask (0, [some (vO 0), some (vI x1)], [], (sc, ar)) (fun r1 h1 => Ev 6 M_Dt_leans (5, [some (vO 0), some (vI x1), some (vI x2)], mPush r1 [], h1) Q)) from ⟨(by decide), k⟩)
theorem sg_Dt_leans_5 {sc : Nat → Int} {ar : Nat → Nat → Int} {x1 x2 s0 : Int} {Q : Option mV → mH → Prop} (k : inR s0 ∧ 
  (s0 = 0 → (Q (some (vI (-1))) (sc, ar))) ∧ 
  (¬ (s0 = 0) → (Ev 5 M_Dt_isTask (0, [some (vO 0), some (vI x2)], [], (sc, ar)) (fun r1 h1 => Ev 6 M_Dt_leans (13, [some (vO 0), some (vI x1), some (vI x2)], mPush r1 [], h1) Q)))) :
  Ev 6 M_Dt_leans (5, [some (vO 0), some (vI x1), some (vI x2)], [vI s0], (sc, ar)) Q :=
  wq_ok 200 _ _ [(5, 3), (13, 3), (33, 3), (42, 3)] _ _ _ _ _ (show (inR s0) ∧ (s0 = 0 → (Q (some (vI (-1))) (sc, ar))) ∧ (¬ (s0 = 0) → ((cO 0 = mK M_Dt_isTask) ∧ (Ev 5 M_Dt_isTask (0, [some (vO 0), some (vI x2)], [], (sc, ar)) (fun r1 h1 => Ev 6 M_Dt_leans (13, [some (vO 0), some (vI x1), some (vI x2)], mPush r1 [], h1) Q)))) from ⟨k.1, fun c1 => (k.2.1 c1), fun c1 => ⟨(by decide), (k.2.2 c1)⟩⟩)
theorem sg_Dt_leans_13 {sc : Nat → Int} {ar : Nat → Nat → Int} {x1 x2 s0 : Int} {Q : Option mV → mH → Prop} (k : inR s0 ∧ 
  (s0 ≠ 0 → (Ev 5 M_Rings_find (0, [some (vO 4), some (vI (sc 10)), some (vO 1)], [], (sc, ar)) (fun r1 h1 => Ev 6 M_Dt_leans (33, [some (vO 0), some (vI x1), some (vI x2)], mPush r1 [], h1) Q))) ∧ 
  (¬ (s0 ≠ 0) → (Q (some (vI (-1))) (sc, ar)))) :
  Ev 6 M_Dt_leans (13, [some (vO 0), some (vI x1), some (vI x2)], [vI s0], (sc, ar)) Q :=
  wq_ok 200 _ _ [(5, 3), (13, 3), (33, 3), (42, 3)] _ _ _ _ _ (show (inR s0) ∧ (s0 ≠ 0 → ((cO 0 = 8) ∧ ((cO 0 = 8) ∧ ((cO 0 = 8) ∧ ((cO 4 = mK M_Rings_find) ∧ (Ev 5 M_Rings_find (0, [some (vO 4), some (vI (sc 10)), some (vO 1)], [], (sc, ar)) (fun r1 h1 => Ev 6 M_Dt_leans (33, [some (vO 0), some (vI x1), some (vI x2)], mPush r1 [], h1) Q))))))) ∧ (¬ (s0 ≠ 0) → (Q (some (vI (-1))) (sc, ar))) from ⟨k.1, fun c1 => ⟨(by decide), ⟨(by decide), ⟨(by decide), ⟨(by decide), (k.2.1 c1)⟩⟩⟩⟩, fun c1 => (k.2.2 c1)⟩)
theorem sg_Dt_leans_33 {sc : Nat → Int} {ar : Nat → Nat → Int} {x1 x2 : Int} {Q : Option mV → mH → Prop} (k : Ev 5 M_Rings_isLeaning (0, [some (vO 4), some (vI x1), some (vI x2)], [], (sc, ar)) (fun r1 h1 => Ev 6 M_Dt_leans (42, [some (vO 0), some (vI x1), some (vI x2)], mPush r1 [], h1) Q)) :
  Ev 6 M_Dt_leans (33, [some (vO 0), some (vI x1), some (vI x2)], [], (sc, ar)) Q :=
  wq_ok 200 _ _ [(5, 3), (13, 3), (33, 3), (42, 3)] _ _ _ _ _ (show (cO 0 = 8) ∧ ((cO 4 = mK M_Rings_isLeaning) ∧ (Ev 5 M_Rings_isLeaning (0, [some (vO 4), some (vI x1), some (vI x2)], [], (sc, ar)) (fun r1 h1 => Ev 6 M_Dt_leans (42, [some (vO 0), some (vI x1), some (vI x2)], mPush r1 [], h1) Q))) from ⟨(by decide), ⟨(by decide), k⟩⟩)
theorem sg_Dt_leans_42 {sc : Nat → Int} {ar : Nat → Nat → Int} {x1 x2 s0 : Int} {Q : Option mV → mH → Prop} (k : inR s0 ∧ 
  (s0 = 0 → (Q (some (vI 0)) (sc, ar))) ∧ 
  (¬ (s0 = 0) → (Q (some (vI 1)) (sc, ar)))) :
  Ev 6 M_Dt_leans (42, [some (vO 0), some (vI x1), some (vI x2)], [vI s0], (sc, ar)) Q :=
  wq_ok 200 _ _ [(5, 3), (13, 3), (33, 3), (42, 3)] _ _ _ _ _ (show (inR s0) ∧ (s0 = 0 → (Q (some (vI 0)) (sc, ar))) ∧ (¬ (s0 = 0) → (Q (some (vI 1)) (sc, ar))) from ⟨k.1, fun c1 => (k.2.1 c1), fun c1 => (k.2.2 c1)⟩)
theorem sg_Dt_blocks_0 {sc : Nat → Int} {ar : Nat → Nat → Int} {Q : Option mV → mH → Prop} (k : Ev 5 M_Rings_find (0, [some (vO 4), some (vI (sc 10)), some (vO 1)], [], (sc, ar)) (fun r1 h1 => Ev 6 M_Dt_blocks (15, [some (vO 0)], mPush r1 [], h1) Q)) :
  Ev 6 M_Dt_blocks (0, [some (vO 0)], [], (sc, ar)) Q :=
  wq_ok 200 _ _ [(15, 1), (22, 1)] _ _ _ _ _ (show (cO 0 = 8) ∧ ((cO 0 = 8) ∧ ((cO 0 = 8) ∧ ((cO 4 = mK M_Rings_find) ∧ (Ev 5 M_Rings_find (0, [some (vO 4), some (vI (sc 10)), some (vO 1)], [], (sc, ar)) (fun r1 h1 => Ev 6 M_Dt_blocks (15, [some (vO 0)], mPush r1 [], h1) Q))))) from ⟨(by decide), ⟨(by decide), ⟨(by decide), ⟨(by decide), k⟩⟩⟩⟩)
theorem sg_Dt_blocks_15 {sc : Nat → Int} {ar : Nat → Nat → Int} {Q : Option mV → mH → Prop} (k : Ev 5 M_Rings_howMany (0, [some (vO 4)], [], (sc, ar)) (fun r1 h1 => Ev 6 M_Dt_blocks (22, [some (vO 0)], mPush r1 [], h1) Q)) :
  Ev 6 M_Dt_blocks (15, [some (vO 0)], [], (sc, ar)) Q :=
  wq_ok 200 _ _ [(15, 1), (22, 1)] _ _ _ _ _ (show (cO 0 = 8) ∧ ((cO 4 = mK M_Rings_howMany) ∧ (Ev 5 M_Rings_howMany (0, [some (vO 4)], [], (sc, ar)) (fun r1 h1 => Ev 6 M_Dt_blocks (22, [some (vO 0)], mPush r1 [], h1) Q))) from ⟨(by decide), ⟨(by decide), k⟩⟩)
theorem sg_Dt_blocks_22 {sc : Nat → Int} {ar : Nat → Nat → Int} {s0 : Int} {Q : Option mV → mH → Prop} (k : Q (some (vI s0)) (sc, ar)) :
  Ev 6 M_Dt_blocks (22, [some (vO 0)], [vI s0], (sc, ar)) Q :=
  wq_ok 200 _ _ [(15, 1), (22, 1)] _ _ _ _ _ (show Q (some (vI s0)) (sc, ar) from k)
theorem sg_Dt_block_0 {sc : Nat → Int} {ar : Nat → Nat → Int} {x1 : Int} {Q : Option mV → mH → Prop} (k : Ev 5 M_Dt_isTask (0, [some (vO 0), some (vI x1)], [], (sc, ar)) (fun r1 h1 => Ev 6 M_Dt_block (5, [some (vO 0), some (vI x1)], mPush r1 [], h1) Q)) :
  Ev 6 M_Dt_block (0, [some (vO 0), some (vI x1)], [], (sc, ar)) Q :=
  wq_ok 200 _ _ [(5, 2), (25, 2), (33, 2)] _ _ _ _ _ (show (cO 0 = mK M_Dt_isTask) ∧ (Ev 5 M_Dt_isTask (0, [some (vO 0), some (vI x1)], [], (sc, ar)) (fun r1 h1 => Ev 6 M_Dt_block (5, [some (vO 0), some (vI x1)], mPush r1 [], h1) Q)) from ⟨(by decide), k⟩)
theorem sg_Dt_block_5 {sc : Nat → Int} {ar : Nat → Nat → Int} {x1 s0 : Int} {Q : Option mV → mH → Prop} (k : inR s0 ∧ 
  (s0 ≠ 0 → (Ev 5 M_Rings_find (0, [some (vO 4), some (vI (sc 10)), some (vO 1)], [], (sc, ar)) (fun r1 h1 => Ev 6 M_Dt_block (25, [some (vO 0), some (vI x1)], mPush r1 [], h1) Q))) ∧ 
  (¬ (s0 ≠ 0) → (Q (some (vI (-1))) (sc, ar)))) :
  Ev 6 M_Dt_block (5, [some (vO 0), some (vI x1)], [vI s0], (sc, ar)) Q :=
  wq_ok 200 _ _ [(5, 2), (25, 2), (33, 2)] _ _ _ _ _ (show (inR s0) ∧ (s0 ≠ 0 → ((cO 0 = 8) ∧ ((cO 0 = 8) ∧ ((cO 0 = 8) ∧ ((cO 4 = mK M_Rings_find) ∧ (Ev 5 M_Rings_find (0, [some (vO 4), some (vI (sc 10)), some (vO 1)], [], (sc, ar)) (fun r1 h1 => Ev 6 M_Dt_block (25, [some (vO 0), some (vI x1)], mPush r1 [], h1) Q))))))) ∧ (¬ (s0 ≠ 0) → (Q (some (vI (-1))) (sc, ar))) from ⟨k.1, fun c1 => ⟨(by decide), ⟨(by decide), ⟨(by decide), ⟨(by decide), (k.2.1 c1)⟩⟩⟩⟩, fun c1 => (k.2.2 c1)⟩)
theorem sg_Dt_block_25 {sc : Nat → Int} {ar : Nat → Nat → Int} {x1 : Int} {Q : Option mV → mH → Prop} (k : Ev 5 M_Rings_numberOf (0, [some (vO 4), some (vI x1)], [], (sc, ar)) (fun r1 h1 => Ev 6 M_Dt_block (33, [some (vO 0), some (vI x1)], mPush r1 [], h1) Q)) :
  Ev 6 M_Dt_block (25, [some (vO 0), some (vI x1)], [], (sc, ar)) Q :=
  wq_ok 200 _ _ [(5, 2), (25, 2), (33, 2)] _ _ _ _ _ (show (cO 0 = 8) ∧ ((cO 4 = mK M_Rings_numberOf) ∧ (Ev 5 M_Rings_numberOf (0, [some (vO 4), some (vI x1)], [], (sc, ar)) (fun r1 h1 => Ev 6 M_Dt_block (33, [some (vO 0), some (vI x1)], mPush r1 [], h1) Q))) from ⟨(by decide), ⟨(by decide), k⟩⟩)
theorem sg_Dt_block_33 {sc : Nat → Int} {ar : Nat → Nat → Int} {x1 s0 : Int} {Q : Option mV → mH → Prop} (k : Q (some (vI s0)) (sc, ar)) :
  Ev 6 M_Dt_block (33, [some (vO 0), some (vI x1)], [vI s0], (sc, ar)) Q :=
  wq_ok 200 _ _ [(5, 2), (25, 2), (33, 2)] _ _ _ _ _ (show Q (some (vI s0)) (sc, ar) from k)
theorem sg_Dt_least_0 {sc : Nat → Int} {ar : Nat → Nat → Int} {Q : Option mV → mH → Prop} (k : Ev 4 M_Least_leastGuess (0, [some (vO 5), some (vI (sc 10)), some (vO 1), none, none], [], (sc, ar)) (fun r1 h1 => Ev 5 M_Dt_least (15, [some (vO 0)], mPush r1 [], h1) Q)) :
  Ev 5 M_Dt_least (0, [some (vO 0)], [], (sc, ar)) Q :=
  wq_ok 200 _ _ [(15, 1)] _ _ _ _ _ (show (cO 0 = 8) ∧ ((cO 0 = 8) ∧ ((cO 0 = 8) ∧ ((cO 5 = mK M_Least_leastGuess) ∧ (Ev 4 M_Least_leastGuess (0, [some (vO 5), some (vI (sc 10)), some (vO 1), none, none], [], (sc, ar)) (fun r1 h1 => Ev 5 M_Dt_least (15, [some (vO 0)], mPush r1 [], h1) Q))))) from ⟨(by decide), ⟨(by decide), ⟨(by decide), ⟨(by decide), k⟩⟩⟩⟩)
theorem sg_Dt_least_15 {sc : Nat → Int} {ar : Nat → Nat → Int} {s0 : Int} {Q : Option mV → mH → Prop} (k : Q (some (vI s0)) (sc, ar)) :
  Ev 5 M_Dt_least (15, [some (vO 0)], [vI s0], (sc, ar)) Q :=
  wq_ok 200 _ _ [(15, 1)] _ _ _ _ _ (show Q (some (vI s0)) (sc, ar) from k)
theorem sg_Dt_leastAt_0 {sc : Nat → Int} {ar : Nat → Nat → Int} {x1 : Int} {Q : Option mV → mH → Prop} (k : inR x1 ∧ 
  (x1 < 0 → (Q (some (vI (-9))) (sc, ar))) ∧ 
  (¬ (x1 < 0) → (inR x1 ∧ inR (sc 10) ∧ 
    (x1 < (sc 10) → (Ev 5 M_Least_find (0, [some (vO 5), some (vI (sc 10)), some (vO 1), none, none, none], [], (sc, ar)) (fun r1 h1 => Ev 6 M_Dt_leastAt (30, [some (vO 0), some (vI x1)], mPush r1 [], h1) Q))) ∧ 
    (¬ (x1 < (sc 10)) → (Q (some (vI (-9))) (sc, ar)))))) :
  Ev 6 M_Dt_leastAt (0, [some (vO 0), some (vI x1)], [], (sc, ar)) Q :=
  wq_ok 200 _ _ [(30, 2), (34, 2)] _ _ _ _ _ (show (inR x1) ∧ (x1 < 0 → (Q (some (vI (-9))) (sc, ar))) ∧ (¬ (x1 < 0) → ((cO 0 = 8) ∧ ((inR x1 ∧ inR (sc 10)) ∧ (x1 < (sc 10) → ((cO 0 = 8) ∧ ((cO 0 = 8) ∧ ((cO 0 = 8) ∧ ((cO 5 = mK M_Least_find) ∧ (Ev 5 M_Least_find (0, [some (vO 5), some (vI (sc 10)), some (vO 1), none, none, none], [], (sc, ar)) (fun r1 h1 => Ev 6 M_Dt_leastAt (30, [some (vO 0), some (vI x1)], mPush r1 [], h1) Q))))))) ∧ (¬ (x1 < (sc 10)) → (Q (some (vI (-9))) (sc, ar)))))) from ⟨k.1, fun c1 => (k.2.1 c1), fun c1 => ⟨(by decide), ⟨⟨(k.2.2 c1).1, (k.2.2 c1).2.1⟩, fun c2 => ⟨(by decide), ⟨(by decide), ⟨(by decide), ⟨(by decide), ((k.2.2 c1).2.2.1 c2)⟩⟩⟩⟩, fun c2 => ((k.2.2 c1).2.2.2 c2)⟩⟩⟩)
theorem sg_Dt_leastAt_30 {sc : Nat → Int} {ar : Nat → Nat → Int} {x1 : Int} {Q : Option mV → mH → Prop} (k : Ev 5 M_Order_taskAt (0, [some (vO 6), some (vI x1)], [], (sc, ar)) (fun r1 h1 => Ev 6 M_Dt_leastAt (34, [some (vO 0), some (vI x1)], mPush r1 [], h1) Q)) :
  Ev 6 M_Dt_leastAt (30, [some (vO 0), some (vI x1)], [vO 6], (sc, ar)) Q :=
  wq_ok 200 _ _ [(30, 2), (34, 2)] _ _ _ _ _ (show (cO 6 = mK M_Order_taskAt) ∧ (Ev 5 M_Order_taskAt (0, [some (vO 6), some (vI x1)], [], (sc, ar)) (fun r1 h1 => Ev 6 M_Dt_leastAt (34, [some (vO 0), some (vI x1)], mPush r1 [], h1) Q)) from ⟨(by decide), k⟩)
theorem sg_Dt_leastAt_34 {sc : Nat → Int} {ar : Nat → Nat → Int} {x1 s0 : Int} {Q : Option mV → mH → Prop} (k : Q (some (vI s0)) (sc, ar)) :
  Ev 6 M_Dt_leastAt (34, [some (vO 0), some (vI x1)], [vI s0], (sc, ar)) Q :=
  wq_ok 200 _ _ [(30, 2), (34, 2)] _ _ _ _ _ (show Q (some (vI s0)) (sc, ar) from k)
theorem sg_Dt_saved_0 {sc : Nat → Int} {ar : Nat → Nat → Int} {x1 x2 : Int} {Q : Option mV → mH → Prop} (k : Ev 4 M_Dt_isTask (0, [some (vO 0), some (vI x1)], [], (sc, ar)) (fun r1 h1 => Ev 5 M_Dt_saved (5, [some (vO 0), some (vI x1), some (vI x2), none, none, none], mPush r1 [], h1) Q)) :
  Ev 5 M_Dt_saved (0, [some (vO 0), some (vI x1), some (vI x2), none, none, none], [], (sc, ar)) Q :=
  wq_ok 200 _ _ [(5, 3), (13, 3), (33, 3), (44, 4), (61, 5), (74, 6)] _ _ _ _ _ (show (cO 0 = mK M_Dt_isTask) ∧ (Ev 4 M_Dt_isTask (0, [some (vO 0), some (vI x1)], [], (sc, ar)) (fun r1 h1 => Ev 5 M_Dt_saved (5, [some (vO 0), some (vI x1), some (vI x2), none, none, none], mPush r1 [], h1) Q)) from ⟨(by decide), k⟩)
theorem sg_Dt_saved_5 {sc : Nat → Int} {ar : Nat → Nat → Int} {x1 x2 s0 : Int} {Q : Option mV → mH → Prop} (k : inR s0 ∧ 
  (s0 = 0 → (Q (some (vI (-1))) (sc, ar))) ∧ 
  (¬ (s0 = 0) → (Ev 4 M_Dt_isTask (0, [some (vO 0), some (vI x2)], [], (sc, ar)) (fun r1 h1 => Ev 5 M_Dt_saved (13, [some (vO 0), some (vI x1), some (vI x2), none, none, none], mPush r1 [], h1) Q)))) :
  Ev 5 M_Dt_saved (5, [some (vO 0), some (vI x1), some (vI x2), none, none, none], [vI s0], (sc, ar)) Q :=
  wq_ok 200 _ _ [(5, 3), (13, 3), (33, 3), (44, 4), (61, 5), (74, 6)] _ _ _ _ _ (show (inR s0) ∧ (s0 = 0 → (Q (some (vI (-1))) (sc, ar))) ∧ (¬ (s0 = 0) → ((cO 0 = mK M_Dt_isTask) ∧ (Ev 4 M_Dt_isTask (0, [some (vO 0), some (vI x2)], [], (sc, ar)) (fun r1 h1 => Ev 5 M_Dt_saved (13, [some (vO 0), some (vI x1), some (vI x2), none, none, none], mPush r1 [], h1) Q)))) from ⟨k.1, fun c1 => (k.2.1 c1), fun c1 => ⟨(by decide), (k.2.2 c1)⟩⟩)
theorem sg_Dt_saved_13 {sc : Nat → Int} {ar : Nat → Nat → Int} {x1 x2 s0 : Int} {Q : Option mV → mH → Prop} (k : inR s0 ∧ 
  (s0 ≠ 0 → (Ev 4 M_Least_leastGuess (0, [some (vO 5), some (vI (sc 10)), some (vO 1), none, none], [], (sc, ar)) (fun r1 h1 => Ev 5 M_Dt_saved (33, [some (vO 0), some (vI x1), some (vI x2), none, none, none], mPush r1 [], h1) Q))) ∧ 
  (¬ (s0 ≠ 0) → (Q (some (vI (-1))) (sc, ar)))) :
  Ev 5 M_Dt_saved (13, [some (vO 0), some (vI x1), some (vI x2), none, none, none], [vI s0], (sc, ar)) Q :=
  wq_ok 200 _ _ [(5, 3), (13, 3), (33, 3), (44, 4), (61, 5), (74, 6)] _ _ _ _ _ (show (inR s0) ∧ (s0 ≠ 0 → ((cO 0 = 8) ∧ ((cO 0 = 8) ∧ ((cO 0 = 8) ∧ ((cO 5 = mK M_Least_leastGuess) ∧ (Ev 4 M_Least_leastGuess (0, [some (vO 5), some (vI (sc 10)), some (vO 1), none, none], [], (sc, ar)) (fun r1 h1 => Ev 5 M_Dt_saved (33, [some (vO 0), some (vI x1), some (vI x2), none, none, none], mPush r1 [], h1) Q))))))) ∧ (¬ (s0 ≠ 0) → (Q (some (vI (-1))) (sc, ar))) from ⟨k.1, fun c1 => ⟨(by decide), ⟨(by decide), ⟨(by decide), ⟨(by decide), (k.2.1 c1)⟩⟩⟩⟩, fun c1 => (k.2.2 c1)⟩)
theorem sg_Dt_saved_33 {sc : Nat → Int} {ar : Nat → Nat → Int} {x1 x2 s0 : Int} {Q : Option mV → mH → Prop} (k : Ev 4 M_Table_put (0, [some (vO 1), some (vI x1), some (vI x2), some (vI 0), none, none], [], (sc, ar)) (fun r1 h1 => Ev 5 M_Dt_saved (44, [some (vO 0), some (vI x1), some (vI x2), some (vI s0), none, none], mPush r1 [], h1) Q)) :
  Ev 5 M_Dt_saved (33, [some (vO 0), some (vI x1), some (vI x2), none, none, none], [vI s0], (sc, ar)) Q :=
  wq_ok 200 _ _ [(5, 3), (13, 3), (33, 3), (44, 4), (61, 5), (74, 6)] _ _ _ _ _ (show (cO 0 = 8) ∧ ((cO 1 = mK M_Table_put) ∧ (Ev 4 M_Table_put (0, [some (vO 1), some (vI x1), some (vI x2), some (vI 0), none, none], [], (sc, ar)) (fun r1 h1 => Ev 5 M_Dt_saved (44, [some (vO 0), some (vI x1), some (vI x2), some (vI s0), none, none], mPush r1 [], h1) Q))) from ⟨(by decide), ⟨(by decide), k⟩⟩)
theorem sg_Dt_saved_44 {sc : Nat → Int} {ar : Nat → Nat → Int} {x1 x2 x3 s0 : Int} {Q : Option mV → mH → Prop} (k : Ev 4 M_Least_leastGuess (0, [some (vO 5), some (vI (sc 10)), some (vO 1), none, none], [], (sc, ar)) (fun r1 h1 => Ev 5 M_Dt_saved (61, [some (vO 0), some (vI x1), some (vI x2), some (vI x3), some (vI s0), none], mPush r1 [], h1) Q)) :
  Ev 5 M_Dt_saved (44, [some (vO 0), some (vI x1), some (vI x2), some (vI x3), none, none], [vI s0], (sc, ar)) Q :=
  wq_ok 200 _ _ [(5, 3), (13, 3), (33, 3), (44, 4), (61, 5), (74, 6)] _ _ _ _ _ (show (cO 0 = 8) ∧ ((cO 0 = 8) ∧ ((cO 0 = 8) ∧ ((cO 5 = mK M_Least_leastGuess) ∧ (Ev 4 M_Least_leastGuess (0, [some (vO 5), some (vI (sc 10)), some (vO 1), none, none], [], (sc, ar)) (fun r1 h1 => Ev 5 M_Dt_saved (61, [some (vO 0), some (vI x1), some (vI x2), some (vI x3), some (vI s0), none], mPush r1 [], h1) Q))))) from ⟨(by decide), ⟨(by decide), ⟨(by decide), ⟨(by decide), k⟩⟩⟩⟩)
theorem sg_Dt_saved_61 {sc : Nat → Int} {ar : Nat → Nat → Int} {x1 x2 x3 x4 s0 : Int} {Q : Option mV → mH → Prop} (k : Ev 4 M_Table_put (0, [some (vO 1), some (vI x1), some (vI x2), some (vI x4), none, none], [], (sc, ar)) (fun r1 h1 => Ev 5 M_Dt_saved (74, [some (vO 0), some (vI x1), some (vI x2), some (vI x3), some (vI x4), some (vI s0)], mPush r1 [], h1) Q)) :
  Ev 5 M_Dt_saved (61, [some (vO 0), some (vI x1), some (vI x2), some (vI x3), some (vI x4), none], [vI s0], (sc, ar)) Q :=
  wq_ok 200 _ _ [(5, 3), (13, 3), (33, 3), (44, 4), (61, 5), (74, 6)] _ _ _ _ _ (show (cO 0 = 8) ∧ ((cO 1 = mK M_Table_put) ∧ (Ev 4 M_Table_put (0, [some (vO 1), some (vI x1), some (vI x2), some (vI x4), none, none], [], (sc, ar)) (fun r1 h1 => Ev 5 M_Dt_saved (74, [some (vO 0), some (vI x1), some (vI x2), some (vI x3), some (vI x4), some (vI s0)], mPush r1 [], h1) Q))) from ⟨(by decide), ⟨(by decide), k⟩⟩)
theorem sg_Dt_saved_74 {sc : Nat → Int} {ar : Nat → Nat → Int} {x1 x2 x3 x4 x5 s0 : Int} {Q : Option mV → mH → Prop} (k : Q (some (vI (x3 - x5))) (sc, ar)) :
  Ev 5 M_Dt_saved (74, [some (vO 0), some (vI x1), some (vI x2), some (vI x3), some (vI x4), some (vI x5)], [vI s0], (sc, ar)) Q :=
  wq_ok 200 _ _ [(5, 3), (13, 3), (33, 3), (44, 4), (61, 5), (74, 6)] _ _ _ _ _ (show Q (some (vI (x3 - x5))) (sc, ar) from k)
theorem sg_Dt_at_0 {sc : Nat → Int} {ar : Nat → Nat → Int} {x1 : Int} {Q : Option mV → mH → Prop} (k : Ev 1 M_Order_taskAt (0, [some (vO 3), some (vI x1)], [], (sc, ar)) (fun r1 h1 => Ev 2 M_Dt_at (8, [some (vO 0), some (vI x1)], mPush r1 [], h1) Q)) :
  Ev 2 M_Dt_at (0, [some (vO 0), some (vI x1)], [], (sc, ar)) Q :=
  wq_ok 200 _ _ [(8, 2)] _ _ _ _ _ (show (cO 0 = 8) ∧ ((cO 3 = mK M_Order_taskAt) ∧ (Ev 1 M_Order_taskAt (0, [some (vO 3), some (vI x1)], [], (sc, ar)) (fun r1 h1 => Ev 2 M_Dt_at (8, [some (vO 0), some (vI x1)], mPush r1 [], h1) Q))) from ⟨(by decide), ⟨(by decide), k⟩⟩)
theorem sg_Dt_at_8 {sc : Nat → Int} {ar : Nat → Nat → Int} {x1 s0 : Int} {Q : Option mV → mH → Prop} (k : Q (some (vI s0)) (sc, ar)) :
  Ev 2 M_Dt_at (8, [some (vO 0), some (vI x1)], [vI s0], (sc, ar)) Q :=
  wq_ok 200 _ _ [(8, 2)] _ _ _ _ _ (show Q (some (vI s0)) (sc, ar) from k)
theorem sg_Dt_swap_0 {sc : Nat → Int} {ar : Nat → Nat → Int} {x1 x2 : Int} {Q : Option mV → mH → Prop} (k : Ev 2 M_Order_hasPlace (0, [some (vO 3), some (vI x1)], [], (sc, ar)) (fun r1 h1 => Ev 3 M_Dt_swap (8, [some (vO 0), some (vI x1), some (vI x2)], mPush r1 [], h1) Q)) :
  Ev 3 M_Dt_swap (0, [some (vO 0), some (vI x1), some (vI x2)], [], (sc, ar)) Q :=
  wq_ok 200 _ _ [(8, 3), (19, 3), (34, 3), (45, 3)] _ _ _ _ _ (show (cO 0 = 8) ∧ ((cO 3 = mK M_Order_hasPlace) ∧ (Ev 2 M_Order_hasPlace (0, [some (vO 3), some (vI x1)], [], (sc, ar)) (fun r1 h1 => Ev 3 M_Dt_swap (8, [some (vO 0), some (vI x1), some (vI x2)], mPush r1 [], h1) Q))) from ⟨(by decide), ⟨(by decide), k⟩⟩)
theorem sg_Dt_swap_8 {sc : Nat → Int} {ar : Nat → Nat → Int} {x1 x2 s0 : Int} {Q : Option mV → mH → Prop} (k : inR s0 ∧ 
  (s0 = 0 → (Q (some (vI (-2))) (sc, ar))) ∧ 
  (¬ (s0 = 0) → (Ev 2 M_Order_hasPlace (0, [some (vO 3), some (vI x2)], [], (sc, ar)) (fun r1 h1 => Ev 3 M_Dt_swap (19, [some (vO 0), some (vI x1), some (vI x2)], mPush r1 [], h1) Q)))) :
  Ev 3 M_Dt_swap (8, [some (vO 0), some (vI x1), some (vI x2)], [vI s0], (sc, ar)) Q :=
  wq_ok 200 _ _ [(8, 3), (19, 3), (34, 3), (45, 3)] _ _ _ _ _ (show (inR s0) ∧ (s0 = 0 → (Q (some (vI (-2))) (sc, ar))) ∧ (¬ (s0 = 0) → ((cO 0 = 8) ∧ ((cO 3 = mK M_Order_hasPlace) ∧ (Ev 2 M_Order_hasPlace (0, [some (vO 3), some (vI x2)], [], (sc, ar)) (fun r1 h1 => Ev 3 M_Dt_swap (19, [some (vO 0), some (vI x1), some (vI x2)], mPush r1 [], h1) Q))))) from ⟨k.1, fun c1 => (k.2.1 c1), fun c1 => ⟨(by decide), ⟨(by decide), (k.2.2 c1)⟩⟩⟩)
theorem sg_Dt_swap_19 {sc : Nat → Int} {ar : Nat → Nat → Int} {x1 x2 s0 : Int} {Q : Option mV → mH → Prop} (k : inR s0 ∧ 
  (s0 ≠ 0 → (Ev 2 M_Order_exchange (0, [some (vO 3), some (vI x1), some (vI x2), none], [], (sc, ar)) (fun r1 h1 => Ev 3 M_Dt_swap (34, [some (vO 0), some (vI x1), some (vI x2)], mPush r1 [], h1) Q))) ∧ 
  (¬ (s0 ≠ 0) → (Q (some (vI (-2))) (sc, ar)))) :
  Ev 3 M_Dt_swap (19, [some (vO 0), some (vI x1), some (vI x2)], [vI s0], (sc, ar)) Q :=
  wq_ok 200 _ _ [(8, 3), (19, 3), (34, 3), (45, 3)] _ _ _ _ _ (show (inR s0) ∧ (s0 ≠ 0 → ((cO 0 = 8) ∧ ((cO 3 = mK M_Order_exchange) ∧ (Ev 2 M_Order_exchange (0, [some (vO 3), some (vI x1), some (vI x2), none], [], (sc, ar)) (fun r1 h1 => Ev 3 M_Dt_swap (34, [some (vO 0), some (vI x1), some (vI x2)], mPush r1 [], h1) Q))))) ∧ (¬ (s0 ≠ 0) → (Q (some (vI (-2))) (sc, ar))) from ⟨k.1, fun c1 => ⟨(by decide), ⟨(by decide), (k.2.1 c1)⟩⟩, fun c1 => (k.2.2 c1)⟩)
theorem sg_Dt_swap_34 {sc : Nat → Int} {ar : Nat → Nat → Int} {x1 x2 : Int} {Q : Option mV → mH → Prop} (k : Ev 2 M_Order_guessOf (0, [some (vO 3), some (vO 1), none, none, none], [], (sc, ar)) (fun r1 h1 => Ev 3 M_Dt_swap (45, [some (vO 0), some (vI x1), some (vI x2)], mPush r1 [], h1) Q)) :
  Ev 3 M_Dt_swap (34, [some (vO 0), some (vI x1), some (vI x2)], [], (sc, ar)) Q :=
  wq_ok 200 _ _ [(8, 3), (19, 3), (34, 3), (45, 3)] _ _ _ _ _ (show (cO 0 = 8) ∧ ((cO 0 = 8) ∧ ((cO 3 = mK M_Order_guessOf) ∧ (Ev 2 M_Order_guessOf (0, [some (vO 3), some (vO 1), none, none, none], [], (sc, ar)) (fun r1 h1 => Ev 3 M_Dt_swap (45, [some (vO 0), some (vI x1), some (vI x2)], mPush r1 [], h1) Q)))) from ⟨(by decide), ⟨(by decide), ⟨(by decide), k⟩⟩⟩)
theorem sg_Dt_swap_45 {sc : Nat → Int} {ar : Nat → Nat → Int} {x1 x2 s0 : Int} {Q : Option mV → mH → Prop} (k : Q (some (vI s0)) (sc, ar)) :
  Ev 3 M_Dt_swap (45, [some (vO 0), some (vI x1), some (vI x2)], [vI s0], (sc, ar)) Q :=
  wq_ok 200 _ _ [(8, 3), (19, 3), (34, 3), (45, 3)] _ _ _ _ _ (show Q (some (vI s0)) (sc, ar) from k)
theorem sg_Dt_take_0 {sc : Nat → Int} {ar : Nat → Nat → Int} {Q : Option mV → mH → Prop} (k : Ev 5 M_Least_find (0, [some (vO 5), some (vI (sc 10)), some (vO 1), none, none, none], [], (sc, ar)) (fun r1 h1 => Ev 6 M_Dt_take (19, [some (vO 0)], mPush r1 [vO 3], h1) Q)) :
  Ev 6 M_Dt_take (0, [some (vO 0)], [], (sc, ar)) Q :=
  wq_ok 200 _ _ [(19, 1), (22, 1), (33, 1)] _ _ _ _ _ (show (cO 0 = 8) ∧ ((cO 0 = 8) ∧ ((cO 0 = 8) ∧ ((cO 0 = 8) ∧ ((cO 5 = mK M_Least_find) ∧ (Ev 5 M_Least_find (0, [some (vO 5), some (vI (sc 10)), some (vO 1), none, none, none], [], (sc, ar)) (fun r1 h1 => Ev 6 M_Dt_take (19, [some (vO 0)], mPush r1 [vO 3], h1) Q)))))) from ⟨(by decide), ⟨(by decide), ⟨(by decide), ⟨(by decide), ⟨(by decide), k⟩⟩⟩⟩⟩)
theorem sg_Dt_take_19 {sc : Nat → Int} {ar : Nat → Nat → Int} {Q : Option mV → mH → Prop} (k : Ev 5 M_Order_become (0, [some (vO 3), some (vO 6), none], [], (sc, ar)) (fun r1 h1 => Ev 6 M_Dt_take (22, [some (vO 0)], mPush r1 [], h1) Q)) :
  Ev 6 M_Dt_take (19, [some (vO 0)], [vO 6, vO 3], (sc, ar)) Q :=
  wq_ok 200 _ _ [(19, 1), (22, 1), (33, 1)] _ _ _ _ _ (show (cO 3 = mK M_Order_become) ∧ (Ev 5 M_Order_become (0, [some (vO 3), some (vO 6), none], [], (sc, ar)) (fun r1 h1 => Ev 6 M_Dt_take (22, [some (vO 0)], mPush r1 [], h1) Q)) from ⟨(by decide), k⟩)
theorem sg_Dt_take_22 {sc : Nat → Int} {ar : Nat → Nat → Int} {Q : Option mV → mH → Prop} (k : Ev 5 M_Order_guessOf (0, [some (vO 3), some (vO 1), none, none, none], [], (sc, ar)) (fun r1 h1 => Ev 6 M_Dt_take (33, [some (vO 0)], mPush r1 [], h1) Q)) :
  Ev 6 M_Dt_take (22, [some (vO 0)], [], (sc, ar)) Q :=
  wq_ok 200 _ _ [(19, 1), (22, 1), (33, 1)] _ _ _ _ _ (show (cO 0 = 8) ∧ ((cO 0 = 8) ∧ ((cO 3 = mK M_Order_guessOf) ∧ (Ev 5 M_Order_guessOf (0, [some (vO 3), some (vO 1), none, none, none], [], (sc, ar)) (fun r1 h1 => Ev 6 M_Dt_take (33, [some (vO 0)], mPush r1 [], h1) Q)))) from ⟨(by decide), ⟨(by decide), ⟨(by decide), k⟩⟩⟩)
theorem sg_Dt_take_33 {sc : Nat → Int} {ar : Nat → Nat → Int} {s0 : Int} {Q : Option mV → mH → Prop} (k : Q (some (vI s0)) (sc, ar)) :
  Ev 6 M_Dt_take (33, [some (vO 0)], [vI s0], (sc, ar)) Q :=
  wq_ok 200 _ _ [(19, 1), (22, 1), (33, 1)] _ _ _ _ _ (show Q (some (vI s0)) (sc, ar) from k)
theorem sg_Dt_guess_0 {sc : Nat → Int} {ar : Nat → Nat → Int} {Q : Option mV → mH → Prop} (k : Ev 2 M_Order_guessOf (0, [some (vO 3), some (vO 1), none, none, none], [], (sc, ar)) (fun r1 h1 => Ev 3 M_Dt_guess (11, [some (vO 0)], mPush r1 [], h1) Q)) :
  Ev 3 M_Dt_guess (0, [some (vO 0)], [], (sc, ar)) Q :=
  wq_ok 200 _ _ [(11, 1)] _ _ _ _ _ (show (cO 0 = 8) ∧ ((cO 0 = 8) ∧ ((cO 3 = mK M_Order_guessOf) ∧ (Ev 2 M_Order_guessOf (0, [some (vO 3), some (vO 1), none, none, none], [], (sc, ar)) (fun r1 h1 => Ev 3 M_Dt_guess (11, [some (vO 0)], mPush r1 [], h1) Q)))) from ⟨(by decide), ⟨(by decide), ⟨(by decide), k⟩⟩⟩)
theorem sg_Dt_guess_11 {sc : Nat → Int} {ar : Nat → Nat → Int} {s0 : Int} {Q : Option mV → mH → Prop} (k : Q (some (vI s0)) (sc, ar)) :
  Ev 3 M_Dt_guess (11, [some (vO 0)], [vI s0], (sc, ar)) Q :=
  wq_ok 200 _ _ [(11, 1)] _ _ _ _ _ (show Q (some (vI s0)) (sc, ar) from k)
theorem sg_Dt_torn_0 {sc : Nat → Int} {ar : Nat → Nat → Int} {x1 x2 : Int} {Q : Option mV → mH → Prop} (k : Ev 1 M_Dt_isTask (0, [some (vO 0), some (vI x1)], [], (sc, ar)) (fun r1 h1 => Ev 2 M_Dt_torn (5, [some (vO 0), some (vI x1), some (vI x2)], mPush r1 [], h1) Q)) :
  Ev 2 M_Dt_torn (0, [some (vO 0), some (vI x1), some (vI x2)], [], (sc, ar)) Q :=
  wq_ok 200 _ _ [(5, 3), (13, 3), (27, 3), (38, 3), (46, 3)] _ _ _ _ _ (show (cO 0 = mK M_Dt_isTask) ∧ (Ev 1 M_Dt_isTask (0, [some (vO 0), some (vI x1)], [], (sc, ar)) (fun r1 h1 => Ev 2 M_Dt_torn (5, [some (vO 0), some (vI x1), some (vI x2)], mPush r1 [], h1) Q)) from ⟨(by decide), k⟩)
theorem sg_Dt_torn_5 {sc : Nat → Int} {ar : Nat → Nat → Int} {x1 x2 s0 : Int} {Q : Option mV → mH → Prop} (k : inR s0 ∧ 
  (s0 = 0 → (Q (some (vI (-1))) (sc, ar))) ∧ 
  (¬ (s0 = 0) → (Ev 1 M_Dt_isTask (0, [some (vO 0), some (vI x2)], [], (sc, ar)) (fun r1 h1 => Ev 2 M_Dt_torn (13, [some (vO 0), some (vI x1), some (vI x2)], mPush r1 [], h1) Q)))) :
  Ev 2 M_Dt_torn (5, [some (vO 0), some (vI x1), some (vI x2)], [vI s0], (sc, ar)) Q :=
  wq_ok 200 _ _ [(5, 3), (13, 3), (27, 3), (38, 3), (46, 3)] _ _ _ _ _ (show (inR s0) ∧ (s0 = 0 → (Q (some (vI (-1))) (sc, ar))) ∧ (¬ (s0 = 0) → ((cO 0 = mK M_Dt_isTask) ∧ (Ev 1 M_Dt_isTask (0, [some (vO 0), some (vI x2)], [], (sc, ar)) (fun r1 h1 => Ev 2 M_Dt_torn (13, [some (vO 0), some (vI x1), some (vI x2)], mPush r1 [], h1) Q)))) from ⟨k.1, fun c1 => (k.2.1 c1), fun c1 => ⟨(by decide), (k.2.2 c1)⟩⟩)
theorem sg_Dt_torn_13 {sc : Nat → Int} {ar : Nat → Nat → Int} {x1 x2 s0 : Int} {Q : Option mV → mH → Prop} (k : inR s0 ∧ 
  (s0 ≠ 0 → (Ev 1 M_Table_get (0, [some (vO 1), some (vI x1), some (vI x2)], [], (sc, ar)) (fun r1 h1 => Ev 2 M_Dt_torn (27, [some (vO 0), some (vI x1), some (vI x2)], mPush r1 [], h1) Q))) ∧ 
  (¬ (s0 ≠ 0) → (Q (some (vI (-1))) (sc, ar)))) :
  Ev 2 M_Dt_torn (13, [some (vO 0), some (vI x1), some (vI x2)], [vI s0], (sc, ar)) Q :=
  wq_ok 200 _ _ [(5, 3), (13, 3), (27, 3), (38, 3), (46, 3)] _ _ _ _ _ (show (inR s0) ∧ (s0 ≠ 0 → ((cO 0 = 8) ∧ ((cO 1 = mK M_Table_get) ∧ (Ev 1 M_Table_get (0, [some (vO 1), some (vI x1), some (vI x2)], [], (sc, ar)) (fun r1 h1 => Ev 2 M_Dt_torn (27, [some (vO 0), some (vI x1), some (vI x2)], mPush r1 [], h1) Q))))) ∧ (¬ (s0 ≠ 0) → (Q (some (vI (-1))) (sc, ar))) from ⟨k.1, fun c1 => ⟨(by decide), ⟨(by decide), (k.2.1 c1)⟩⟩, fun c1 => (k.2.2 c1)⟩)
theorem sg_Dt_torn_27 {sc : Nat → Int} {ar : Nat → Nat → Int} {x1 x2 s0 : Int} {Q : Option mV → mH → Prop} (k : inR s0 ∧ 
  (s0 ≤ 0 → (Q (some (vI 0)) (sc, ar))) ∧ 
  (¬ (s0 ≤ 0) → (Ev 1 M_Order_placeOf (0, [some (vO 3), some (vI x2), none], [], (sc, ar)) (fun r1 h1 => Ev 2 M_Dt_torn (38, [some (vO 0), some (vI x1), some (vI x2)], mPush r1 [], h1) Q)))) :
  Ev 2 M_Dt_torn (27, [some (vO 0), some (vI x1), some (vI x2)], [vI s0], (sc, ar)) Q :=
  wq_ok 200 _ _ [(5, 3), (13, 3), (27, 3), (38, 3), (46, 3)] _ _ _ _ _ (show (inR s0) ∧ (s0 ≤ 0 → (Q (some (vI 0)) (sc, ar))) ∧ (¬ (s0 ≤ 0) → ((cO 0 = 8) ∧ ((cO 3 = mK M_Order_placeOf) ∧ (Ev 1 M_Order_placeOf (0, [some (vO 3), some (vI x2), none], [], (sc, ar)) (fun r1 h1 => Ev 2 M_Dt_torn (38, [some (vO 0), some (vI x1), some (vI x2)], mPush r1 [], h1) Q))))) from ⟨k.1, fun c1 => (k.2.1 c1), fun c1 => ⟨(by decide), ⟨(by decide), (k.2.2 c1)⟩⟩⟩)
theorem sg_Dt_torn_38 {sc : Nat → Int} {ar : Nat → Nat → Int} {x1 x2 s0 : Int} {Q : Option mV → mH → Prop} (k : Ev 1 M_Order_placeOf (0, [some (vO 3), some (vI x1), none], [], (sc, ar)) (fun r1 h1 => Ev 2 M_Dt_torn (46, [some (vO 0), some (vI x1), some (vI x2)], mPush r1 [vI s0], h1) Q)) :
  Ev 2 M_Dt_torn (38, [some (vO 0), some (vI x1), some (vI x2)], [vI s0], (sc, ar)) Q :=
  wq_ok 200 _ _ [(5, 3), (13, 3), (27, 3), (38, 3), (46, 3)] _ _ _ _ _ (show (cO 0 = 8) ∧ ((cO 3 = mK M_Order_placeOf) ∧ (Ev 1 M_Order_placeOf (0, [some (vO 3), some (vI x1), none], [], (sc, ar)) (fun r1 h1 => Ev 2 M_Dt_torn (46, [some (vO 0), some (vI x1), some (vI x2)], mPush r1 [vI s0], h1) Q))) from ⟨(by decide), ⟨(by decide), k⟩⟩)
theorem sg_Dt_torn_46 {sc : Nat → Int} {ar : Nat → Nat → Int} {x1 x2 s0 s1 : Int} {Q : Option mV → mH → Prop} (k : inR s1 ∧ inR s0 ∧ 
  (s1 ≤ s0 → (Q (some (vI 0)) (sc, ar))) ∧ 
  (¬ (s1 ≤ s0) → (Q (some (vI 1)) (sc, ar)))) :
  Ev 2 M_Dt_torn (46, [some (vO 0), some (vI x1), some (vI x2)], [vI s0, vI s1], (sc, ar)) Q :=
  wq_ok 200 _ _ [(5, 3), (13, 3), (27, 3), (38, 3), (46, 3)] _ _ _ _ _ (show (inR s1 ∧ inR s0) ∧ (s1 ≤ s0 → (Q (some (vI 0)) (sc, ar))) ∧ (¬ (s1 ≤ s0) → (Q (some (vI 1)) (sc, ar))) from ⟨⟨k.1, k.2.1⟩, fun c1 => (k.2.2.1 c1), fun c1 => (k.2.2.2 c1)⟩)
theorem sg_Dt_chance_0 {sc : Nat → Int} {ar : Nat → Nat → Int} {x1 x2 x3 : Int} {Q : Option mV → mH → Prop} (k : Ev 2 M_Dt_isTask (0, [some (vO 0), some (vI x1)], [], (sc, ar)) (fun r1 h1 => Ev 3 M_Dt_chance (5, [some (vO 0), some (vI x1), some (vI x2), some (vI x3)], mPush r1 [], h1) Q)) :
  Ev 3 M_Dt_chance (0, [some (vO 0), some (vI x1), some (vI x2), some (vI x3)], [], (sc, ar)) Q :=
  wq_ok 200 _ _ [(5, 4), (13, 4), (44, 4), (53, 4), (74, 4)] _ _ _ _ _ (show (cO 0 = mK M_Dt_isTask) ∧ (Ev 2 M_Dt_isTask (0, [some (vO 0), some (vI x1)], [], (sc, ar)) (fun r1 h1 => Ev 3 M_Dt_chance (5, [some (vO 0), some (vI x1), some (vI x2), some (vI x3)], mPush r1 [], h1) Q)) from ⟨(by decide), k⟩)
theorem sg_Dt_chance_5 {sc : Nat → Int} {ar : Nat → Nat → Int} {x1 x2 x3 s0 : Int} {Q : Option mV → mH → Prop} (k : inR s0 ∧ 
  (s0 = 0 → (Q (some (vI (-1))) (sc, ar))) ∧ 
  (¬ (s0 = 0) → (Ev 2 M_Dt_isTask (0, [some (vO 0), some (vI x2)], [], (sc, ar)) (fun r1 h1 => Ev 3 M_Dt_chance (13, [some (vO 0), some (vI x1), some (vI x2), some (vI x3)], mPush r1 [], h1) Q)))) :
  Ev 3 M_Dt_chance (5, [some (vO 0), some (vI x1), some (vI x2), some (vI x3)], [vI s0], (sc, ar)) Q :=
  wq_ok 200 _ _ [(5, 4), (13, 4), (44, 4), (53, 4), (74, 4)] _ _ _ _ _ (show (inR s0) ∧ (s0 = 0 → (Q (some (vI (-1))) (sc, ar))) ∧ (¬ (s0 = 0) → ((cO 0 = mK M_Dt_isTask) ∧ (Ev 2 M_Dt_isTask (0, [some (vO 0), some (vI x2)], [], (sc, ar)) (fun r1 h1 => Ev 3 M_Dt_chance (13, [some (vO 0), some (vI x1), some (vI x2), some (vI x3)], mPush r1 [], h1) Q)))) from ⟨k.1, fun c1 => (k.2.1 c1), fun c1 => ⟨(by decide), (k.2.2 c1)⟩⟩)
theorem sg_Dt_chance_13 {sc : Nat → Int} {ar : Nat → Nat → Int} {x1 x2 x3 s0 : Int} {Q : Option mV → mH → Prop} (k : inR s0 ∧ 
  (s0 ≠ 0 → (inR x3 ∧ 
    (x3 < 0 → (Q (some (vI (-2))) (sc, ar))) ∧ 
    (¬ (x3 < 0) → (inR x3 ∧ 
      (x3 ≤ 8 → (inR x1 ∧ inR x2 ∧ 
        (x1 = x2 → (Q (some (vI (-3))) (sc, ar))) ∧ 
        (¬ (x1 = x2) → (Ev 2 M_Table_sumOfRow (0, [some (vO 2), some (vI x1), none, none], [], (sc, ar)) (fun r1 h1 => Ev 3 M_Dt_chance (44, [some (vO 0), some (vI x1), some (vI x2), some (vI x3)], mPush r1 [], h1) Q))))) ∧ 
      (¬ (x3 ≤ 8) → (Q (some (vI (-2))) (sc, ar))))))) ∧ 
  (¬ (s0 ≠ 0) → (Q (some (vI (-1))) (sc, ar)))) :
  Ev 3 M_Dt_chance (13, [some (vO 0), some (vI x1), some (vI x2), some (vI x3)], [vI s0], (sc, ar)) Q :=
  wq_ok 200 _ _ [(5, 4), (13, 4), (44, 4), (53, 4), (74, 4)] _ _ _ _ _ (show (inR s0) ∧ (s0 ≠ 0 → ((inR x3) ∧ (x3 < 0 → (Q (some (vI (-2))) (sc, ar))) ∧ (¬ (x3 < 0) → ((inR x3 ∧ inR 8) ∧ (x3 ≤ 8 → ((inR x1 ∧ inR x2) ∧ (x1 = x2 → (Q (some (vI (-3))) (sc, ar))) ∧ (¬ (x1 = x2) → ((cO 0 = 8) ∧ ((cO 2 = mK M_Table_sumOfRow) ∧ (Ev 2 M_Table_sumOfRow (0, [some (vO 2), some (vI x1), none, none], [], (sc, ar)) (fun r1 h1 => Ev 3 M_Dt_chance (44, [some (vO 0), some (vI x1), some (vI x2), some (vI x3)], mPush r1 [], h1) Q))))))) ∧ (¬ (x3 ≤ 8) → (Q (some (vI (-2))) (sc, ar))))))) ∧ (¬ (s0 ≠ 0) → (Q (some (vI (-1))) (sc, ar))) from ⟨k.1, fun c1 => ⟨(k.2.1 c1).1, fun c2 => ((k.2.1 c1).2.1 c2), fun c2 => ⟨⟨((k.2.1 c1).2.2 c2).1, (by decide)⟩, fun c3 => ⟨⟨(((k.2.1 c1).2.2 c2).2.1 c3).1, (((k.2.1 c1).2.2 c2).2.1 c3).2.1⟩, fun c4 => ((((k.2.1 c1).2.2 c2).2.1 c3).2.2.1 c4), fun c4 => ⟨(by decide), ⟨(by decide), ((((k.2.1 c1).2.2 c2).2.1 c3).2.2.2 c4)⟩⟩⟩, fun c3 => (((k.2.1 c1).2.2 c2).2.2 c3)⟩⟩, fun c1 => (k.2.2 c1)⟩)
theorem sg_Dt_chance_44 {sc : Nat → Int} {ar : Nat → Nat → Int} {x1 x2 x3 s0 : Int} {Q : Option mV → mH → Prop} (k : Ev 2 M_Table_get (0, [some (vO 2), some (vI x1), some (vI x2)], [], (sc, ar)) (fun r1 h1 => Ev 3 M_Dt_chance (53, [some (vO 0), some (vI x1), some (vI x2), some (vI x3)], mPush r1 [vI s0], h1) Q)) :
  Ev 3 M_Dt_chance (44, [some (vO 0), some (vI x1), some (vI x2), some (vI x3)], [vI s0], (sc, ar)) Q :=
  wq_ok 200 _ _ [(5, 4), (13, 4), (44, 4), (53, 4), (74, 4)] _ _ _ _ _ (show (cO 0 = 8) ∧ ((cO 2 = mK M_Table_get) ∧ (Ev 2 M_Table_get (0, [some (vO 2), some (vI x1), some (vI x2)], [], (sc, ar)) (fun r1 h1 => Ev 3 M_Dt_chance (53, [some (vO 0), some (vI x1), some (vI x2), some (vI x3)], mPush r1 [vI s0], h1) Q))) from ⟨(by decide), ⟨(by decide), k⟩⟩)
theorem sg_Dt_chance_53 {sc : Nat → Int} {ar : Nat → Nat → Int} {x1 x2 x3 s0 s1 : Int} {Q : Option mV → mH → Prop} (k : inR ((s1 - s0) + x3) ∧ 
  (((s1 - s0) + x3) ≤ 8 → (Ev 2 M_Table_put (0, [some (vO 2), some (vI x1), some (vI x2), some (vI x3), none, none], [], (sc, ar)) (fun r1 h1 => Ev 3 M_Dt_chance (74, [some (vO 0), some (vI x1), some (vI x2), some (vI x3)], mPush r1 [], h1) Q))) ∧ 
  (¬ (((s1 - s0) + x3) ≤ 8) → (Q (some (vI (-3))) (sc, ar)))) :
  Ev 3 M_Dt_chance (53, [some (vO 0), some (vI x1), some (vI x2), some (vI x3)], [vI s0, vI s1], (sc, ar)) Q :=
  wq_ok 200 _ _ [(5, 4), (13, 4), (44, 4), (53, 4), (74, 4)] _ _ _ _ _ (show (inR ((s1 - s0) + x3) ∧ inR 8) ∧ (((s1 - s0) + x3) ≤ 8 → ((cO 0 = 8) ∧ ((cO 2 = mK M_Table_put) ∧ (Ev 2 M_Table_put (0, [some (vO 2), some (vI x1), some (vI x2), some (vI x3), none, none], [], (sc, ar)) (fun r1 h1 => Ev 3 M_Dt_chance (74, [some (vO 0), some (vI x1), some (vI x2), some (vI x3)], mPush r1 [], h1) Q))))) ∧ (¬ (((s1 - s0) + x3) ≤ 8) → (Q (some (vI (-3))) (sc, ar))) from ⟨⟨k.1, (by decide)⟩, fun c1 => ⟨(by decide), ⟨(by decide), (k.2.1 c1)⟩⟩, fun c1 => (k.2.2 c1)⟩)
theorem sg_Dt_chance_74 {sc : Nat → Int} {ar : Nat → Nat → Int} {x1 x2 x3 s0 : Int} {Q : Option mV → mH → Prop} (k : Q (some (vI s0)) (sc, ar)) :
  Ev 3 M_Dt_chance (74, [some (vO 0), some (vI x1), some (vI x2), some (vI x3)], [vI s0], (sc, ar)) Q :=
  wq_ok 200 _ _ [(5, 4), (13, 4), (44, 4), (53, 4), (74, 4)] _ _ _ _ _ (show Q (some (vI s0)) (sc, ar) from k)
theorem sg_Dt_mean_0 {sc : Nat → Int} {ar : Nat → Nat → Int} {x1 : Int} {Q : Option mV → mH → Prop} (k : Ev 2 M_Returns_reckon (0, [some (vO 7), some (vO 3), some (vO 2), some (vA 0), none, none, none, none, none, none, none], [], (sc, ar)) (fun r1 h1 => Ev 3 M_Dt_mean (19, [some (vO 0), some (vI x1)], mPush r1 [], h1) Q)) :
  Ev 3 M_Dt_mean (0, [some (vO 0), some (vI x1)], [], (sc, ar)) Q :=
  wq_ok 200 _ _ [(19, 2), (26, 2), (33, 2), (37, 2)] _ _ _ _ _ (show (cO 0 = 8) ∧ ((cO 0 = 8) ∧ ((cO 0 = 8) ∧ ((cO 0 = 8) ∧ ((cO 7 = mK M_Returns_reckon) ∧ (Ev 2 M_Returns_reckon (0, [some (vO 7), some (vO 3), some (vO 2), some (vA 0), none, none, none, none, none, none, none], [], (sc, ar)) (fun r1 h1 => Ev 3 M_Dt_mean (19, [some (vO 0), some (vI x1)], mPush r1 [], h1) Q)))))) from ⟨(by decide), ⟨(by decide), ⟨(by decide), ⟨(by decide), ⟨(by decide), k⟩⟩⟩⟩⟩)
theorem sg_Dt_mean_19 {sc : Nat → Int} {ar : Nat → Nat → Int} {x1 : Int} {Q : Option mV → mH → Prop} (k : Ev 2 M_Returns_above (0, [some (vO 7), none, none, none, none, none, none, none], [], (sc, ar)) (fun r1 h1 => Ev 3 M_Dt_mean (26, [some (vO 0), some (vI x1)], mPush r1 [], h1) Q)) :
  Ev 3 M_Dt_mean (19, [some (vO 0), some (vI x1)], [], (sc, ar)) Q :=
  wq_ok 200 _ _ [(19, 2), (26, 2), (33, 2), (37, 2)] _ _ _ _ _ (show (cO 0 = 8) ∧ ((cO 7 = mK M_Returns_above) ∧ (Ev 2 M_Returns_above (0, [some (vO 7), none, none, none, none, none, none, none], [], (sc, ar)) (fun r1 h1 => Ev 3 M_Dt_mean (26, [some (vO 0), some (vI x1)], mPush r1 [], h1) Q))) from ⟨(by decide), ⟨(by decide), k⟩⟩)
theorem sg_Dt_mean_26 {sc : Nat → Int} {ar : Nat → Nat → Int} {x1 s0 : Int} {Q : Option mV → mH → Prop} (k : Ev 2 M_Returns_below (0, [some (vO 7)], [], (sc, ar)) (fun r1 h1 => Ev 3 M_Dt_mean (33, [some (vO 0), some (vI x1)], mPush r1 [vL s0], h1) Q)) :
  Ev 3 M_Dt_mean (26, [some (vO 0), some (vI x1)], [vL s0], (sc, ar)) Q :=
  wq_ok 200 _ _ [(19, 2), (26, 2), (33, 2), (37, 2)] _ _ _ _ _ (show (cO 0 = 8) ∧ ((cO 7 = mK M_Returns_below) ∧ (Ev 2 M_Returns_below (0, [some (vO 7)], [], (sc, ar)) (fun r1 h1 => Ev 3 M_Dt_mean (33, [some (vO 0), some (vI x1)], mPush r1 [vL s0], h1) Q))) from ⟨(by decide), ⟨(by decide), k⟩⟩)
theorem sg_Dt_mean_33 {sc : Nat → Int} {ar : Nat → Nat → Int} {x1 s0 s1 : Int} {Q : Option mV → mH → Prop} (k : Ev 2 M_Dt_inLeastTerms (0, [some (vL s1), none, some (vL s0), none, some (vI x1), none, none], [], (sc, ar)) (fun r1 h1 => Ev 3 M_Dt_mean (37, [some (vO 0), some (vI x1)], mPush r1 [], h1) Q)) :
  Ev 3 M_Dt_mean (33, [some (vO 0), some (vI x1)], [vL s0, vL s1], (sc, ar)) Q :=
  wq_ok 200 _ _ [(19, 2), (26, 2), (33, 2), (37, 2)] _ _ _ _ _ (show Ev 2 M_Dt_inLeastTerms (0, [some (vL s1), none, some (vL s0), none, some (vI x1), none, none], [], (sc, ar)) (fun r1 h1 => Ev 3 M_Dt_mean (37, [some (vO 0), some (vI x1)], mPush r1 [], h1) Q) from k)
theorem sg_Dt_mean_37 {sc : Nat → Int} {ar : Nat → Nat → Int} {x1 s0 : Int} {Q : Option mV → mH → Prop} (k : Q (some (vL s0)) (sc, ar)) :
  Ev 3 M_Dt_mean (37, [some (vO 0), some (vI x1)], [vL s0], (sc, ar)) Q :=
  wq_ok 200 _ _ [(19, 2), (26, 2), (33, 2), (37, 2)] _ _ _ _ _ (show Q (some (vL s0)) (sc, ar) from k)
theorem sg_Dt_often_0 {sc : Nat → Int} {ar : Nat → Nat → Int} {x1 x2 : Int} {Q : Option mV → mH → Prop} (k : Ev 3 M_Dt_isTask (0, [some (vO 0), some (vI x1)], [], (sc, ar)) (fun r1 h1 => Ev 4 M_Dt_often (5, [some (vO 0), some (vI x1), some (vI x2)], mPush r1 [], h1) Q)) :
  Ev 4 M_Dt_often (0, [some (vO 0), some (vI x1), some (vI x2)], [], (sc, ar)) Q :=
  wq_ok 200 _ _ [(5, 3), (28, 3), (35, 3), (42, 3), (46, 3)] _ _ _ _ _ (show (cO 0 = mK M_Dt_isTask) ∧ (Ev 3 M_Dt_isTask (0, [some (vO 0), some (vI x1)], [], (sc, ar)) (fun r1 h1 => Ev 4 M_Dt_often (5, [some (vO 0), some (vI x1), some (vI x2)], mPush r1 [], h1) Q)) from ⟨(by decide), k⟩)
theorem sg_Dt_often_5 {sc : Nat → Int} {ar : Nat → Nat → Int} {x1 x2 s0 : Int} {Q : Option mV → mH → Prop} (k : inR s0 ∧ 
  (s0 ≠ 0 → (Ev 3 M_Returns_reckonOne (0, [some (vO 7), some (vO 3), some (vO 2), some (vI x1), none], [], (sc, ar)) (fun r1 h1 => Ev 4 M_Dt_often (28, [some (vO 0), some (vI x1), some (vI x2)], mPush r1 [], h1) Q))) ∧ 
  (¬ (s0 ≠ 0) → (Q (some (vL (-1))) (sc, ar)))) :
  Ev 4 M_Dt_often (5, [some (vO 0), some (vI x1), some (vI x2)], [vI s0], (sc, ar)) Q :=
  wq_ok 200 _ _ [(5, 3), (28, 3), (35, 3), (42, 3), (46, 3)] _ _ _ _ _ (show (inR s0) ∧ (s0 ≠ 0 → ((cO 0 = 8) ∧ ((cO 0 = 8) ∧ ((cO 0 = 8) ∧ ((cO 7 = mK M_Returns_reckonOne) ∧ (Ev 3 M_Returns_reckonOne (0, [some (vO 7), some (vO 3), some (vO 2), some (vI x1), none], [], (sc, ar)) (fun r1 h1 => Ev 4 M_Dt_often (28, [some (vO 0), some (vI x1), some (vI x2)], mPush r1 [], h1) Q))))))) ∧ (¬ (s0 ≠ 0) → (Q (some (vL (-1))) (sc, ar))) from ⟨k.1, fun c1 => ⟨(by decide), ⟨(by decide), ⟨(by decide), ⟨(by decide), (k.2.1 c1)⟩⟩⟩⟩, fun c1 => (k.2.2 c1)⟩)
theorem sg_Dt_often_28 {sc : Nat → Int} {ar : Nat → Nat → Int} {x1 x2 : Int} {Q : Option mV → mH → Prop} (k : Ev 3 M_Returns_above (0, [some (vO 7), none, none, none, none, none, none, none], [], (sc, ar)) (fun r1 h1 => Ev 4 M_Dt_often (35, [some (vO 0), some (vI x1), some (vI x2)], mPush r1 [], h1) Q)) :
  Ev 4 M_Dt_often (28, [some (vO 0), some (vI x1), some (vI x2)], [], (sc, ar)) Q :=
  wq_ok 200 _ _ [(5, 3), (28, 3), (35, 3), (42, 3), (46, 3)] _ _ _ _ _ (show (cO 0 = 8) ∧ ((cO 7 = mK M_Returns_above) ∧ (Ev 3 M_Returns_above (0, [some (vO 7), none, none, none, none, none, none, none], [], (sc, ar)) (fun r1 h1 => Ev 4 M_Dt_often (35, [some (vO 0), some (vI x1), some (vI x2)], mPush r1 [], h1) Q))) from ⟨(by decide), ⟨(by decide), k⟩⟩)
theorem sg_Dt_often_35 {sc : Nat → Int} {ar : Nat → Nat → Int} {x1 x2 s0 : Int} {Q : Option mV → mH → Prop} (k : Ev 3 M_Returns_below (0, [some (vO 7)], [], (sc, ar)) (fun r1 h1 => Ev 4 M_Dt_often (42, [some (vO 0), some (vI x1), some (vI x2)], mPush r1 [vL s0], h1) Q)) :
  Ev 4 M_Dt_often (35, [some (vO 0), some (vI x1), some (vI x2)], [vL s0], (sc, ar)) Q :=
  wq_ok 200 _ _ [(5, 3), (28, 3), (35, 3), (42, 3), (46, 3)] _ _ _ _ _ (show (cO 0 = 8) ∧ ((cO 7 = mK M_Returns_below) ∧ (Ev 3 M_Returns_below (0, [some (vO 7)], [], (sc, ar)) (fun r1 h1 => Ev 4 M_Dt_often (42, [some (vO 0), some (vI x1), some (vI x2)], mPush r1 [vL s0], h1) Q))) from ⟨(by decide), ⟨(by decide), k⟩⟩)
theorem sg_Dt_often_42 {sc : Nat → Int} {ar : Nat → Nat → Int} {x1 x2 s0 s1 : Int} {Q : Option mV → mH → Prop} (k : Ev 3 M_Dt_inLeastTerms (0, [some (vL s1), none, some (vL s0), none, some (vI x2), none, none], [], (sc, ar)) (fun r1 h1 => Ev 4 M_Dt_often (46, [some (vO 0), some (vI x1), some (vI x2)], mPush r1 [], h1) Q)) :
  Ev 4 M_Dt_often (42, [some (vO 0), some (vI x1), some (vI x2)], [vL s0, vL s1], (sc, ar)) Q :=
  wq_ok 200 _ _ [(5, 3), (28, 3), (35, 3), (42, 3), (46, 3)] _ _ _ _ _ (show Ev 3 M_Dt_inLeastTerms (0, [some (vL s1), none, some (vL s0), none, some (vI x2), none, none], [], (sc, ar)) (fun r1 h1 => Ev 4 M_Dt_often (46, [some (vO 0), some (vI x1), some (vI x2)], mPush r1 [], h1) Q) from k)
theorem sg_Dt_often_46 {sc : Nat → Int} {ar : Nat → Nat → Int} {x1 x2 s0 : Int} {Q : Option mV → mH → Prop} (k : Q (some (vL s0)) (sc, ar)) :
  Ev 4 M_Dt_often (46, [some (vO 0), some (vI x1), some (vI x2)], [vL s0], (sc, ar)) Q :=
  wq_ok 200 _ _ [(5, 3), (28, 3), (35, 3), (42, 3), (46, 3)] _ _ _ _ _ (show Q (some (vL s0)) (sc, ar) from k)
theorem sg_Dt_ends_0 {sc : Nat → Int} {ar : Nat → Nat → Int} {x1 : Int} {Q : Option mV → mH → Prop} (k : Ev 2 M_Dt_isTask (0, [some (vO 0), some (vI x1)], [], (sc, ar)) (fun r1 h1 => Ev 3 M_Dt_ends (5, [some (vO 0), some (vI x1)], mPush r1 [], h1) Q)) :
  Ev 3 M_Dt_ends (0, [some (vO 0), some (vI x1)], [], (sc, ar)) Q :=
  wq_ok 200 _ _ [(5, 2), (29, 2), (41, 2), (44, 2)] _ _ _ _ _ (show (cO 0 = mK M_Dt_isTask) ∧ (Ev 2 M_Dt_isTask (0, [some (vO 0), some (vI x1)], [], (sc, ar)) (fun r1 h1 => Ev 3 M_Dt_ends (5, [some (vO 0), some (vI x1)], mPush r1 [], h1) Q)) from ⟨(by decide), k⟩)
theorem sg_Dt_ends_5 {sc : Nat → Int} {ar : Nat → Nat → Int} {x1 s0 : Int} {Q : Option mV → mH → Prop} (k : inR s0 ∧ 
  (s0 ≠ 0 → (Ev 2 M_Beside_reckon (0, [some (vO 8), some (vO 3), some (vO 1), some (vA 0), none, none, none, none], [], (sc, ar)) (fun r1 h1 => Ev 3 M_Dt_ends (29, [some (vO 0), some (vI x1)], mPush r1 [], h1) Q))) ∧ 
  (¬ (s0 ≠ 0) → (Q (some (vI (-1))) (sc, ar)))) :
  Ev 3 M_Dt_ends (5, [some (vO 0), some (vI x1)], [vI s0], (sc, ar)) Q :=
  wq_ok 200 _ _ [(5, 2), (29, 2), (41, 2), (44, 2)] _ _ _ _ _ (show (inR s0) ∧ (s0 ≠ 0 → ((cO 0 = 8) ∧ ((cO 0 = 8) ∧ ((cO 0 = 8) ∧ ((cO 0 = 8) ∧ ((cO 8 = mK M_Beside_reckon) ∧ (Ev 2 M_Beside_reckon (0, [some (vO 8), some (vO 3), some (vO 1), some (vA 0), none, none, none, none], [], (sc, ar)) (fun r1 h1 => Ev 3 M_Dt_ends (29, [some (vO 0), some (vI x1)], mPush r1 [], h1) Q)))))))) ∧ (¬ (s0 ≠ 0) → (Q (some (vI (-1))) (sc, ar))) from ⟨k.1, fun c1 => ⟨(by decide), ⟨(by decide), ⟨(by decide), ⟨(by decide), ⟨(by decide), (k.2.1 c1)⟩⟩⟩⟩⟩, fun c1 => (k.2.2 c1)⟩)
theorem sg_Dt_ends_29 {sc : Nat → Int} {ar : Nat → Nat → Int} {x1 : Int} {Q : Option mV → mH → Prop} (k : Ev 2 M_Order_placeOf (0, [some (vO 3), some (vI x1), none], [], (sc, ar)) (fun r1 h1 => Ev 3 M_Dt_ends (41, [some (vO 0), some (vI x1)], mPush r1 [vO 8], h1) Q)) :
  Ev 3 M_Dt_ends (29, [some (vO 0), some (vI x1)], [], (sc, ar)) Q :=
  wq_ok 200 _ _ [(5, 2), (29, 2), (41, 2), (44, 2)] _ _ _ _ _ (show (cO 0 = 8) ∧ ((cO 0 = 8) ∧ ((cO 3 = mK M_Order_placeOf) ∧ (Ev 2 M_Order_placeOf (0, [some (vO 3), some (vI x1), none], [], (sc, ar)) (fun r1 h1 => Ev 3 M_Dt_ends (41, [some (vO 0), some (vI x1)], mPush r1 [vO 8], h1) Q)))) from ⟨(by decide), ⟨(by decide), ⟨(by decide), k⟩⟩⟩)
theorem sg_Dt_ends_41 {sc : Nat → Int} {ar : Nat → Nat → Int} {x1 s0 : Int} {Q : Option mV → mH → Prop} (k : Ev 2 M_Beside_endAt (0, [some (vO 8), some (vI s0)], [], (sc, ar)) (fun r1 h1 => Ev 3 M_Dt_ends (44, [some (vO 0), some (vI x1)], mPush r1 [], h1) Q)) :
  Ev 3 M_Dt_ends (41, [some (vO 0), some (vI x1)], [vI s0, vO 8], (sc, ar)) Q :=
  wq_ok 200 _ _ [(5, 2), (29, 2), (41, 2), (44, 2)] _ _ _ _ _ (show (cO 8 = mK M_Beside_endAt) ∧ (Ev 2 M_Beside_endAt (0, [some (vO 8), some (vI s0)], [], (sc, ar)) (fun r1 h1 => Ev 3 M_Dt_ends (44, [some (vO 0), some (vI x1)], mPush r1 [], h1) Q)) from ⟨(by decide), k⟩)
theorem sg_Dt_ends_44 {sc : Nat → Int} {ar : Nat → Nat → Int} {x1 s0 : Int} {Q : Option mV → mH → Prop} (k : Q (some (vI s0)) (sc, ar)) :
  Ev 3 M_Dt_ends (44, [some (vO 0), some (vI x1)], [vI s0], (sc, ar)) Q :=
  wq_ok 200 _ _ [(5, 2), (29, 2), (41, 2), (44, 2)] _ _ _ _ _ (show Q (some (vI s0)) (sc, ar) from k)
theorem sg_Dt_span_0 {sc : Nat → Int} {ar : Nat → Nat → Int} {Q : Option mV → mH → Prop} (k : Ev 2 M_Beside_reckon (0, [some (vO 8), some (vO 3), some (vO 1), some (vA 0), none, none, none, none], [], (sc, ar)) (fun r1 h1 => Ev 3 M_Dt_span (19, [some (vO 0)], mPush r1 [], h1) Q)) :
  Ev 3 M_Dt_span (0, [some (vO 0)], [], (sc, ar)) Q :=
  wq_ok 200 _ _ [(19, 1), (26, 1)] _ _ _ _ _ (show (cO 0 = 8) ∧ ((cO 0 = 8) ∧ ((cO 0 = 8) ∧ ((cO 0 = 8) ∧ ((cO 8 = mK M_Beside_reckon) ∧ (Ev 2 M_Beside_reckon (0, [some (vO 8), some (vO 3), some (vO 1), some (vA 0), none, none, none, none], [], (sc, ar)) (fun r1 h1 => Ev 3 M_Dt_span (19, [some (vO 0)], mPush r1 [], h1) Q)))))) from ⟨(by decide), ⟨(by decide), ⟨(by decide), ⟨(by decide), ⟨(by decide), k⟩⟩⟩⟩⟩)
theorem sg_Dt_span_19 {sc : Nat → Int} {ar : Nat → Nat → Int} {Q : Option mV → mH → Prop} (k : Ev 2 M_Beside_latest (0, [some (vO 8), none, none, none, none, none], [], (sc, ar)) (fun r1 h1 => Ev 3 M_Dt_span (26, [some (vO 0)], mPush r1 [], h1) Q)) :
  Ev 3 M_Dt_span (19, [some (vO 0)], [], (sc, ar)) Q :=
  wq_ok 200 _ _ [(19, 1), (26, 1)] _ _ _ _ _ (show (cO 0 = 8) ∧ ((cO 8 = mK M_Beside_latest) ∧ (Ev 2 M_Beside_latest (0, [some (vO 8), none, none, none, none, none], [], (sc, ar)) (fun r1 h1 => Ev 3 M_Dt_span (26, [some (vO 0)], mPush r1 [], h1) Q))) from ⟨(by decide), ⟨(by decide), k⟩⟩)
theorem sg_Dt_span_26 {sc : Nat → Int} {ar : Nat → Nat → Int} {s0 : Int} {Q : Option mV → mH → Prop} (k : Q (some (vI s0)) (sc, ar)) :
  Ev 3 M_Dt_span (26, [some (vO 0)], [vI s0], (sc, ar)) Q :=
  wq_ok 200 _ _ [(19, 1), (26, 1)] _ _ _ _ _ (show Q (some (vI s0)) (sc, ar) from k)
theorem sg_Dt_between_0 {sc : Nat → Int} {ar : Nat → Nat → Int} {x1 : Int} {Q : Option mV → mH → Prop} (k : Ev 5 M_Dt_isTeamSize (0, [some (vI x1)], [], (sc, ar)) (fun r1 h1 => Ev 6 M_Dt_between (4, [some (vO 0), some (vI x1)], mPush r1 [], h1) Q)) :
  Ev 6 M_Dt_between (0, [some (vO 0), some (vI x1)], [], (sc, ar)) Q :=
  wq_ok 200 _ _ [(4, 2), (26, 2), (33, 2)] _ _ _ _ _ (show Ev 5 M_Dt_isTeamSize (0, [some (vI x1)], [], (sc, ar)) (fun r1 h1 => Ev 6 M_Dt_between (4, [some (vO 0), some (vI x1)], mPush r1 [], h1) Q) from k)
theorem sg_Dt_between_4 {sc : Nat → Int} {ar : Nat → Nat → Int} {x1 s0 : Int} {Q : Option mV → mH → Prop} (k : inR s0 ∧ 
  (s0 ≠ 0 → (Ev 5 M_Team_find (0, [some (vO 9), some (vI (sc 10)), some (vO 1), some (vI x1)], [], (sc, ar)) (fun r1 h1 => Ev 6 M_Dt_between (26, [some (vO 0), some (vI x1)], mPush r1 [], h1) Q))) ∧ 
  (¬ (s0 ≠ 0) → (Q (some (vI (-2))) (sc, ar)))) :
  Ev 6 M_Dt_between (4, [some (vO 0), some (vI x1)], [vI s0], (sc, ar)) Q :=
  wq_ok 200 _ _ [(4, 2), (26, 2), (33, 2)] _ _ _ _ _ (show (inR s0) ∧ (s0 ≠ 0 → ((cO 0 = 8) ∧ ((cO 0 = 8) ∧ ((cO 0 = 8) ∧ ((cO 9 = mK M_Team_find) ∧ (Ev 5 M_Team_find (0, [some (vO 9), some (vI (sc 10)), some (vO 1), some (vI x1)], [], (sc, ar)) (fun r1 h1 => Ev 6 M_Dt_between (26, [some (vO 0), some (vI x1)], mPush r1 [], h1) Q))))))) ∧ (¬ (s0 ≠ 0) → (Q (some (vI (-2))) (sc, ar))) from ⟨k.1, fun c1 => ⟨(by decide), ⟨(by decide), ⟨(by decide), ⟨(by decide), (k.2.1 c1)⟩⟩⟩⟩, fun c1 => (k.2.2 c1)⟩)
theorem sg_Dt_between_26 {sc : Nat → Int} {ar : Nat → Nat → Int} {x1 : Int} {Q : Option mV → mH → Prop} (k : Ev 5 M_Team_leastBetween (0, [some (vO 9)], [], (sc, ar)) (fun r1 h1 => Ev 6 M_Dt_between (33, [some (vO 0), some (vI x1)], mPush r1 [], h1) Q)) :
  Ev 6 M_Dt_between (26, [some (vO 0), some (vI x1)], [], (sc, ar)) Q :=
  wq_ok 200 _ _ [(4, 2), (26, 2), (33, 2)] _ _ _ _ _ (show (cO 0 = 8) ∧ ((cO 9 = mK M_Team_leastBetween) ∧ (Ev 5 M_Team_leastBetween (0, [some (vO 9)], [], (sc, ar)) (fun r1 h1 => Ev 6 M_Dt_between (33, [some (vO 0), some (vI x1)], mPush r1 [], h1) Q))) from ⟨(by decide), ⟨(by decide), k⟩⟩)
theorem sg_Dt_between_33 {sc : Nat → Int} {ar : Nat → Nat → Int} {x1 s0 : Int} {Q : Option mV → mH → Prop} (k : Q (some (vI s0)) (sc, ar)) :
  Ev 6 M_Dt_between (33, [some (vO 0), some (vI x1)], [vI s0], (sc, ar)) Q :=
  wq_ok 200 _ _ [(4, 2), (26, 2), (33, 2)] _ _ _ _ _ (show Q (some (vI s0)) (sc, ar) from k)
theorem sg_Dt_team_0 {sc : Nat → Int} {ar : Nat → Nat → Int} {x1 x2 : Int} {Q : Option mV → mH → Prop} (k : Ev 5 M_Dt_isTask (0, [some (vO 0), some (vI x2)], [], (sc, ar)) (fun r1 h1 => Ev 6 M_Dt_team (5, [some (vO 0), some (vI x1), some (vI x2)], mPush r1 [], h1) Q)) :
  Ev 6 M_Dt_team (0, [some (vO 0), some (vI x1), some (vI x2)], [], (sc, ar)) Q :=
  wq_ok 200 _ _ [(5, 3), (14, 3), (36, 3), (44, 3)] _ _ _ _ _ (show (cO 0 = mK M_Dt_isTask) ∧ (Ev 5 M_Dt_isTask (0, [some (vO 0), some (vI x2)], [], (sc, ar)) (fun r1 h1 => Ev 6 M_Dt_team (5, [some (vO 0), some (vI x1), some (vI x2)], mPush r1 [], h1) Q)) from ⟨(by decide), k⟩)
theorem sg_Dt_team_5 {sc : Nat → Int} {ar : Nat → Nat → Int} {x1 x2 s0 : Int} {Q : Option mV → mH → Prop} (k : inR s0 ∧ 
  (s0 ≠ 0 → (Ev 5 M_Dt_isTeamSize (0, [some (vI x1)], [], (sc, ar)) (fun r1 h1 => Ev 6 M_Dt_team (14, [some (vO 0), some (vI x1), some (vI x2)], mPush r1 [], h1) Q))) ∧ 
  (¬ (s0 ≠ 0) → (Q (some (vI (-1))) (sc, ar)))) :
  Ev 6 M_Dt_team (5, [some (vO 0), some (vI x1), some (vI x2)], [vI s0], (sc, ar)) Q :=
  wq_ok 200 _ _ [(5, 3), (14, 3), (36, 3), (44, 3)] _ _ _ _ _ (show (inR s0) ∧ (s0 ≠ 0 → (Ev 5 M_Dt_isTeamSize (0, [some (vI x1)], [], (sc, ar)) (fun r1 h1 => Ev 6 M_Dt_team (14, [some (vO 0), some (vI x1), some (vI x2)], mPush r1 [], h1) Q))) ∧ (¬ (s0 ≠ 0) → (Q (some (vI (-1))) (sc, ar))) from ⟨k.1, fun c1 => (k.2.1 c1), fun c1 => (k.2.2 c1)⟩)
theorem sg_Dt_team_14 {sc : Nat → Int} {ar : Nat → Nat → Int} {x1 x2 s0 : Int} {Q : Option mV → mH → Prop} (k : inR s0 ∧ 
  (s0 ≠ 0 → (Ev 5 M_Team_find (0, [some (vO 9), some (vI (sc 10)), some (vO 1), some (vI x1)], [], (sc, ar)) (fun r1 h1 => Ev 6 M_Dt_team (36, [some (vO 0), some (vI x1), some (vI x2)], mPush r1 [], h1) Q))) ∧ 
  (¬ (s0 ≠ 0) → (Q (some (vI (-2))) (sc, ar)))) :
  Ev 6 M_Dt_team (14, [some (vO 0), some (vI x1), some (vI x2)], [vI s0], (sc, ar)) Q :=
  wq_ok 200 _ _ [(5, 3), (14, 3), (36, 3), (44, 3)] _ _ _ _ _ (show (inR s0) ∧ (s0 ≠ 0 → ((cO 0 = 8) ∧ ((cO 0 = 8) ∧ ((cO 0 = 8) ∧ ((cO 9 = mK M_Team_find) ∧ (Ev 5 M_Team_find (0, [some (vO 9), some (vI (sc 10)), some (vO 1), some (vI x1)], [], (sc, ar)) (fun r1 h1 => Ev 6 M_Dt_team (36, [some (vO 0), some (vI x1), some (vI x2)], mPush r1 [], h1) Q))))))) ∧ (¬ (s0 ≠ 0) → (Q (some (vI (-2))) (sc, ar))) from ⟨k.1, fun c1 => ⟨(by decide), ⟨(by decide), ⟨(by decide), ⟨(by decide), (k.2.1 c1)⟩⟩⟩⟩, fun c1 => (k.2.2 c1)⟩)
theorem sg_Dt_team_36 {sc : Nat → Int} {ar : Nat → Nat → Int} {x1 x2 : Int} {Q : Option mV → mH → Prop} (k : Ev 5 M_Team_teamOf (0, [some (vO 9), some (vI x2)], [], (sc, ar)) (fun r1 h1 => Ev 6 M_Dt_team (44, [some (vO 0), some (vI x1), some (vI x2)], mPush r1 [], h1) Q)) :
  Ev 6 M_Dt_team (36, [some (vO 0), some (vI x1), some (vI x2)], [], (sc, ar)) Q :=
  wq_ok 200 _ _ [(5, 3), (14, 3), (36, 3), (44, 3)] _ _ _ _ _ (show (cO 0 = 8) ∧ ((cO 9 = mK M_Team_teamOf) ∧ (Ev 5 M_Team_teamOf (0, [some (vO 9), some (vI x2)], [], (sc, ar)) (fun r1 h1 => Ev 6 M_Dt_team (44, [some (vO 0), some (vI x1), some (vI x2)], mPush r1 [], h1) Q))) from ⟨(by decide), ⟨(by decide), k⟩⟩)
theorem sg_Dt_team_44 {sc : Nat → Int} {ar : Nat → Nat → Int} {x1 x2 s0 : Int} {Q : Option mV → mH → Prop} (k : Q (some (vI s0)) (sc, ar)) :
  Ev 6 M_Dt_team (44, [some (vO 0), some (vI x1), some (vI x2)], [vI s0], (sc, ar)) Q :=
  wq_ok 200 _ _ [(5, 3), (14, 3), (36, 3), (44, 3)] _ _ _ _ _ (show Q (some (vI s0)) (sc, ar) from k)
theorem sg_Dt_force_0 {sc : Nat → Int} {ar : Nat → Nat → Int} {x1 x2 x3 : Int} {Q : Option mV → mH → Prop} (k : Ev 3 M_Dt_isTask (0, [some (vO 0), some (vI x1)], [], (sc, ar)) (fun r1 h1 => Ev 4 M_Dt_force (5, [some (vO 0), some (vI x1), some (vI x2), some (vI x3)], mPush r1 [], h1) Q)) :
  Ev 4 M_Dt_force (0, [some (vO 0), some (vI x1), some (vI x2), some (vI x3)], [], (sc, ar)) Q :=
  wq_ok 200 _ _ [(5, 4), (13, 4), (36, 4), (44, 4), (52, 4)] _ _ _ _ _ (show (cO 0 = mK M_Dt_isTask) ∧ (Ev 3 M_Dt_isTask (0, [some (vO 0), some (vI x1)], [], (sc, ar)) (fun r1 h1 => Ev 4 M_Dt_force (5, [some (vO 0), some (vI x1), some (vI x2), some (vI x3)], mPush r1 [], h1) Q)) from ⟨(by decide), k⟩)
theorem sg_Dt_force_5 {sc : Nat → Int} {ar : Nat → Nat → Int} {x1 x2 x3 s0 : Int} {Q : Option mV → mH → Prop} (k : inR s0 ∧ 
  (s0 = 0 → (Q (some (vL (-1))) (sc, ar))) ∧ 
  (¬ (s0 = 0) → (Ev 3 M_Dt_isTask (0, [some (vO 0), some (vI x2)], [], (sc, ar)) (fun r1 h1 => Ev 4 M_Dt_force (13, [some (vO 0), some (vI x1), some (vI x2), some (vI x3)], mPush r1 [], h1) Q)))) :
  Ev 4 M_Dt_force (5, [some (vO 0), some (vI x1), some (vI x2), some (vI x3)], [vI s0], (sc, ar)) Q :=
  wq_ok 200 _ _ [(5, 4), (13, 4), (36, 4), (44, 4), (52, 4)] _ _ _ _ _ (show (inR s0) ∧ (s0 = 0 → (Q (some (vL (-1))) (sc, ar))) ∧ (¬ (s0 = 0) → ((cO 0 = mK M_Dt_isTask) ∧ (Ev 3 M_Dt_isTask (0, [some (vO 0), some (vI x2)], [], (sc, ar)) (fun r1 h1 => Ev 4 M_Dt_force (13, [some (vO 0), some (vI x1), some (vI x2), some (vI x3)], mPush r1 [], h1) Q)))) from ⟨k.1, fun c1 => (k.2.1 c1), fun c1 => ⟨(by decide), (k.2.2 c1)⟩⟩)
theorem sg_Dt_force_13 {sc : Nat → Int} {ar : Nat → Nat → Int} {x1 x2 x3 s0 : Int} {Q : Option mV → mH → Prop} (k : inR s0 ∧ 
  (s0 ≠ 0 → (Ev 3 M_Spread_from (0, [some (vO 10), some (vI x1), some (vI (sc 10)), some (vO 1), none, none], [], (sc, ar)) (fun r1 h1 => Ev 4 M_Dt_force (36, [some (vO 0), some (vI x1), some (vI x2), some (vI x3)], mPush r1 [], h1) Q))) ∧ 
  (¬ (s0 ≠ 0) → (Q (some (vL (-1))) (sc, ar)))) :
  Ev 4 M_Dt_force (13, [some (vO 0), some (vI x1), some (vI x2), some (vI x3)], [vI s0], (sc, ar)) Q :=
  wq_ok 200 _ _ [(5, 4), (13, 4), (36, 4), (44, 4), (52, 4)] _ _ _ _ _ (show (inR s0) ∧ (s0 ≠ 0 → ((cO 0 = 8) ∧ ((cO 0 = 8) ∧ ((cO 0 = 8) ∧ ((cO 10 = mK M_Spread_from) ∧ (Ev 3 M_Spread_from (0, [some (vO 10), some (vI x1), some (vI (sc 10)), some (vO 1), none, none], [], (sc, ar)) (fun r1 h1 => Ev 4 M_Dt_force (36, [some (vO 0), some (vI x1), some (vI x2), some (vI x3)], mPush r1 [], h1) Q))))))) ∧ (¬ (s0 ≠ 0) → (Q (some (vL (-1))) (sc, ar))) from ⟨k.1, fun c1 => ⟨(by decide), ⟨(by decide), ⟨(by decide), ⟨(by decide), (k.2.1 c1)⟩⟩⟩⟩, fun c1 => (k.2.2 c1)⟩)
theorem sg_Dt_force_36 {sc : Nat → Int} {ar : Nat → Nat → Int} {x1 x2 x3 : Int} {Q : Option mV → mH → Prop} (k : Ev 3 M_Spread_forceAt (0, [some (vO 10), some (vI x2)], [], (sc, ar)) (fun r1 h1 => Ev 4 M_Dt_force (44, [some (vO 0), some (vI x1), some (vI x2), some (vI x3)], mPush r1 [], h1) Q)) :
  Ev 4 M_Dt_force (36, [some (vO 0), some (vI x1), some (vI x2), some (vI x3)], [], (sc, ar)) Q :=
  wq_ok 200 _ _ [(5, 4), (13, 4), (36, 4), (44, 4), (52, 4)] _ _ _ _ _ (show (cO 0 = 8) ∧ ((cO 10 = mK M_Spread_forceAt) ∧ (Ev 3 M_Spread_forceAt (0, [some (vO 10), some (vI x2)], [], (sc, ar)) (fun r1 h1 => Ev 4 M_Dt_force (44, [some (vO 0), some (vI x1), some (vI x2), some (vI x3)], mPush r1 [], h1) Q))) from ⟨(by decide), ⟨(by decide), k⟩⟩)
theorem sg_Dt_force_44 {sc : Nat → Int} {ar : Nat → Nat → Int} {x1 x2 x3 s0 : Int} {Q : Option mV → mH → Prop} (k : inR s0 ∧ 
  (Ev 3 M_Dt_inLeastTerms (0, [some (vL s0), none, some (vL 10000000), none, some (vI x3), none, none], [], (sc, ar)) (fun r1 h1 => Ev 4 M_Dt_force (52, [some (vO 0), some (vI x1), some (vI x2), some (vI x3)], mPush r1 [], h1) Q))) :
  Ev 4 M_Dt_force (44, [some (vO 0), some (vI x1), some (vI x2), some (vI x3)], [vI s0], (sc, ar)) Q :=
  wq_ok 200 _ _ [(5, 4), (13, 4), (36, 4), (44, 4), (52, 4)] _ _ _ _ _ (show (inR s0) ∧ (Ev 3 M_Dt_inLeastTerms (0, [some (vL s0), none, some (vL 10000000), none, some (vI x3), none, none], [], (sc, ar)) (fun r1 h1 => Ev 4 M_Dt_force (52, [some (vO 0), some (vI x1), some (vI x2), some (vI x3)], mPush r1 [], h1) Q)) from ⟨k.1, k.2⟩)
theorem sg_Dt_force_52 {sc : Nat → Int} {ar : Nat → Nat → Int} {x1 x2 x3 s0 : Int} {Q : Option mV → mH → Prop} (k : Q (some (vL s0)) (sc, ar)) :
  Ev 4 M_Dt_force (52, [some (vO 0), some (vI x1), some (vI x2), some (vI x3)], [vL s0], (sc, ar)) Q :=
  wq_ok 200 _ _ [(5, 4), (13, 4), (36, 4), (44, 4), (52, 4)] _ _ _ _ _ (show Q (some (vL s0)) (sc, ar) from k)
theorem sg_Dt_reach_0 {sc : Nat → Int} {ar : Nat → Nat → Int} {x1 x2 : Int} {Q : Option mV → mH → Prop} (k : Ev 3 M_Dt_isTask (0, [some (vO 0), some (vI x1)], [], (sc, ar)) (fun r1 h1 => Ev 4 M_Dt_reach (5, [some (vO 0), some (vI x1), some (vI x2), none], mPush r1 [], h1) Q)) :
  Ev 4 M_Dt_reach (0, [some (vO 0), some (vI x1), some (vI x2), none], [], (sc, ar)) Q :=
  wq_ok 200 _ _ [(5, 3), (41, 3), (55, 4)] _ _ _ _ _ (show (cO 0 = mK M_Dt_isTask) ∧ (Ev 3 M_Dt_isTask (0, [some (vO 0), some (vI x1)], [], (sc, ar)) (fun r1 h1 => Ev 4 M_Dt_reach (5, [some (vO 0), some (vI x1), some (vI x2), none], mPush r1 [], h1) Q)) from ⟨(by decide), k⟩)
theorem sg_Dt_reach_5 {sc : Nat → Int} {ar : Nat → Nat → Int} {x1 x2 s0 : Int} {Q : Option mV → mH → Prop} (k : inR s0 ∧ 
  (s0 ≠ 0 → (inR x2 ∧ 
    (x2 < 1 → (Q (some (vI (-2))) (sc, ar))) ∧ 
    (¬ (x2 < 1) → (inR x2 ∧ 
      (x2 ≤ 1000 → (Ev 3 M_Spread_from (0, [some (vO 10), some (vI x1), some (vI (sc 10)), some (vO 1), none, none], [], (sc, ar)) (fun r1 h1 => Ev 4 M_Dt_reach (41, [some (vO 0), some (vI x1), some (vI x2), none], mPush r1 [], h1) Q))) ∧ 
      (¬ (x2 ≤ 1000) → (Q (some (vI (-2))) (sc, ar))))))) ∧ 
  (¬ (s0 ≠ 0) → (Q (some (vI (-1))) (sc, ar)))) :
  Ev 4 M_Dt_reach (5, [some (vO 0), some (vI x1), some (vI x2), none], [vI s0], (sc, ar)) Q :=
  wq_ok 200 _ _ [(5, 3), (41, 3), (55, 4)] _ _ _ _ _ (show (inR s0) ∧ (s0 ≠ 0 → ((inR x2 ∧ inR 1) ∧ (x2 < 1 → (Q (some (vI (-2))) (sc, ar))) ∧ (¬ (x2 < 1) → ((inR x2 ∧ inR 1000) ∧ (x2 ≤ 1000 → ((cO 0 = 8) ∧ ((cO 0 = 8) ∧ ((cO 0 = 8) ∧ ((cO 10 = mK M_Spread_from) ∧ (Ev 3 M_Spread_from (0, [some (vO 10), some (vI x1), some (vI (sc 10)), some (vO 1), none, none], [], (sc, ar)) (fun r1 h1 => Ev 4 M_Dt_reach (41, [some (vO 0), some (vI x1), some (vI x2), none], mPush r1 [], h1) Q))))))) ∧ (¬ (x2 ≤ 1000) → (Q (some (vI (-2))) (sc, ar))))))) ∧ (¬ (s0 ≠ 0) → (Q (some (vI (-1))) (sc, ar))) from ⟨k.1, fun c1 => ⟨⟨(k.2.1 c1).1, (by decide)⟩, fun c2 => ((k.2.1 c1).2.1 c2), fun c2 => ⟨⟨((k.2.1 c1).2.2 c2).1, (by decide)⟩, fun c3 => ⟨(by decide), ⟨(by decide), ⟨(by decide), ⟨(by decide), (((k.2.1 c1).2.2 c2).2.1 c3)⟩⟩⟩⟩, fun c3 => (((k.2.1 c1).2.2 c2).2.2 c3)⟩⟩, fun c1 => (k.2.2 c1)⟩)
theorem sg_Dt_reach_41 {sc : Nat → Int} {ar : Nat → Nat → Int} {x1 x2 : Int} {Q : Option mV → mH → Prop} (k : Ev 3 M_Spread_howMany (0, [some (vO 10), some (vI (10000 * x2)), none, none, none, none, none], [], (sc, ar)) (fun r1 h1 => Ev 4 M_Dt_reach (55, [some (vO 0), some (vI x1), some (vI x2), some (vI 1)], mPush r1 [], h1) Q)) :
  Ev 4 M_Dt_reach (41, [some (vO 0), some (vI x1), some (vI x2), none], [], (sc, ar)) Q :=
  wq_ok 200 _ _ [(5, 3), (41, 3), (55, 4)] _ _ _ _ _ (show (cO 0 = 8) ∧ ((cO 10 = mK M_Spread_howMany) ∧ (Ev 3 M_Spread_howMany (0, [some (vO 10), some (vI (10000 * x2)), none, none, none, none, none], [], (sc, ar)) (fun r1 h1 => Ev 4 M_Dt_reach (55, [some (vO 0), some (vI x1), some (vI x2), some (vI 1)], mPush r1 [], h1) Q))) from ⟨(by decide), ⟨(by decide), k⟩⟩)
theorem sg_Dt_reach_55 {sc : Nat → Int} {ar : Nat → Nat → Int} {x1 x2 x3 s0 : Int} {Q : Option mV → mH → Prop} (k : Q (some (vI (s0 - x3))) (sc, ar)) :
  Ev 4 M_Dt_reach (55, [some (vO 0), some (vI x1), some (vI x2), some (vI x3)], [vI s0], (sc, ar)) Q :=
  wq_ok 200 _ _ [(5, 3), (41, 3), (55, 4)] _ _ _ _ _ (show Q (some (vI (s0 - x3))) (sc, ar) from k)
theorem sg_Dt_total_0 {sc : Nat → Int} {ar : Nat → Nat → Int} {x1 : Int} {Q : Option mV → mH → Prop} (k : Ev 1 M_Dt_total (1, [some (vO 0), some (vI x1)], [vI x1], (sc, ar)) Q) :
  Ev 1 M_Dt_total (0, [some (vO 0), some (vI x1)], [], (sc, ar)) Q :=
  wq_ok 200 _ _ [(1, 2), (36, 2), (41, 2), (48, 2), (49, 2), (56, 2), (57, 2), (64, 2), (65, 2), (69, 2), (70, 2)] _ _ _ _ _ (show Ev 1 M_Dt_total (1, [some (vO 0), some (vI x1)], [vI x1], (sc, ar)) Q from k)
theorem sg_Dt_total_1 {sc : Nat → Int} {ar : Nat → Nat → Int} {x1 s0 : Int} {Q : Option mV → mH → Prop} (k : inR s0 ∧ (s0 < 0 ∨ 4 < s0 → Ev 1 M_Dt_total (70, [some (vO 0), some (vI x1)], [], (sc, ar)) Q) ∧
  (s0 = 0 → Ev 1 M_Dt_total (36, [some (vO 0), some (vI x1)], [], (sc, ar)) Q) ∧
  (s0 = 1 → Ev 1 M_Dt_total (41, [some (vO 0), some (vI x1)], [], (sc, ar)) Q) ∧
  (s0 = 2 → Ev 1 M_Dt_total (49, [some (vO 0), some (vI x1)], [], (sc, ar)) Q) ∧
  (s0 = 3 → Ev 1 M_Dt_total (57, [some (vO 0), some (vI x1)], [], (sc, ar)) Q) ∧
  (s0 = 4 → Ev 1 M_Dt_total (65, [some (vO 0), some (vI x1)], [], (sc, ar)) Q)) :
  Ev 1 M_Dt_total (1, [some (vO 0), some (vI x1)], [vI s0], (sc, ar)) Q := by
  refine wq_ok 200 _ _ [(1, 2), (36, 2), (41, 2), (48, 2), (49, 2), (56, 2), (57, 2), (64, 2), (65, 2), (69, 2), (70, 2)] _ _ _ _ _ ?_
  refine And.intro ⟨k.1, by decide, by decide⟩ (And.intro (fun c => k.2.1 c) (fun c => ?_))
  have h : s0 = 0 ∨ s0 = 1 ∨ s0 = 2 ∨ s0 = 3 ∨ s0 = 4 := by omega
  rcases h with h | h | h | h | h
  · subst h
    exact k.2.2.1 rfl
  · subst h
    exact k.2.2.2.1 rfl
  · subst h
    exact k.2.2.2.2.1 rfl
  · subst h
    exact k.2.2.2.2.2.1 rfl
  · subst h
    exact k.2.2.2.2.2.2 rfl
theorem sg_Dt_total_36 {sc : Nat → Int} {ar : Nat → Nat → Int} {x1 : Int} {Q : Option mV → mH → Prop} (k : Q (some (vI (sc 10))) (sc, ar)) :
  Ev 1 M_Dt_total (36, [some (vO 0), some (vI x1)], [], (sc, ar)) Q :=
  wq_ok 200 _ _ [(1, 2), (36, 2), (41, 2), (48, 2), (49, 2), (56, 2), (57, 2), (64, 2), (65, 2), (69, 2), (70, 2)] _ _ _ _ _ (show (cO 0 = 8) ∧ (Q (some (vI (sc 10))) (sc, ar)) from ⟨(by decide), k⟩)
theorem sg_Dt_total_41 {sc : Nat → Int} {ar : Nat → Nat → Int} {x1 : Int} {Q : Option mV → mH → Prop} (k : Ev 0 M_Table_howMany (0, [some (vO 1), none, none, none, none, none], [], (sc, ar)) (fun r1 h1 => Ev 1 M_Dt_total (48, [some (vO 0), some (vI x1)], mPush r1 [], h1) Q)) :
  Ev 1 M_Dt_total (41, [some (vO 0), some (vI x1)], [], (sc, ar)) Q :=
  wq_ok 200 _ _ [(1, 2), (36, 2), (41, 2), (48, 2), (49, 2), (56, 2), (57, 2), (64, 2), (65, 2), (69, 2), (70, 2)] _ _ _ _ _ (show (cO 0 = 8) ∧ ((cO 1 = mK M_Table_howMany) ∧ (Ev 0 M_Table_howMany (0, [some (vO 1), none, none, none, none, none], [], (sc, ar)) (fun r1 h1 => Ev 1 M_Dt_total (48, [some (vO 0), some (vI x1)], mPush r1 [], h1) Q))) from ⟨(by decide), ⟨(by decide), k⟩⟩)
theorem sg_Dt_total_48 {sc : Nat → Int} {ar : Nat → Nat → Int} {x1 s0 : Int} {Q : Option mV → mH → Prop} (k : Q (some (vI s0)) (sc, ar)) :
  Ev 1 M_Dt_total (48, [some (vO 0), some (vI x1)], [vI s0], (sc, ar)) Q :=
  wq_ok 200 _ _ [(1, 2), (36, 2), (41, 2), (48, 2), (49, 2), (56, 2), (57, 2), (64, 2), (65, 2), (69, 2), (70, 2)] _ _ _ _ _ (show Q (some (vI s0)) (sc, ar) from k)
theorem sg_Dt_total_49 {sc : Nat → Int} {ar : Nat → Nat → Int} {x1 : Int} {Q : Option mV → mH → Prop} (k : Ev 0 M_Table_sum (0, [some (vO 1), none, none, none, none, none], [], (sc, ar)) (fun r1 h1 => Ev 1 M_Dt_total (56, [some (vO 0), some (vI x1)], mPush r1 [], h1) Q)) :
  Ev 1 M_Dt_total (49, [some (vO 0), some (vI x1)], [], (sc, ar)) Q :=
  wq_ok 200 _ _ [(1, 2), (36, 2), (41, 2), (48, 2), (49, 2), (56, 2), (57, 2), (64, 2), (65, 2), (69, 2), (70, 2)] _ _ _ _ _ (show (cO 0 = 8) ∧ ((cO 1 = mK M_Table_sum) ∧ (Ev 0 M_Table_sum (0, [some (vO 1), none, none, none, none, none], [], (sc, ar)) (fun r1 h1 => Ev 1 M_Dt_total (56, [some (vO 0), some (vI x1)], mPush r1 [], h1) Q))) from ⟨(by decide), ⟨(by decide), k⟩⟩)
theorem sg_Dt_total_56 {sc : Nat → Int} {ar : Nat → Nat → Int} {x1 s0 : Int} {Q : Option mV → mH → Prop} (k : Q (some (vI s0)) (sc, ar)) :
  Ev 1 M_Dt_total (56, [some (vO 0), some (vI x1)], [vI s0], (sc, ar)) Q :=
  wq_ok 200 _ _ [(1, 2), (36, 2), (41, 2), (48, 2), (49, 2), (56, 2), (57, 2), (64, 2), (65, 2), (69, 2), (70, 2)] _ _ _ _ _ (show Q (some (vI s0)) (sc, ar) from k)
theorem sg_Dt_total_57 {sc : Nat → Int} {ar : Nat → Nat → Int} {x1 : Int} {Q : Option mV → mH → Prop} (k : Ev 0 M_Table_howMany (0, [some (vO 2), none, none, none, none, none], [], (sc, ar)) (fun r1 h1 => Ev 1 M_Dt_total (64, [some (vO 0), some (vI x1)], mPush r1 [], h1) Q)) :
  Ev 1 M_Dt_total (57, [some (vO 0), some (vI x1)], [], (sc, ar)) Q :=
  wq_ok 200 _ _ [(1, 2), (36, 2), (41, 2), (48, 2), (49, 2), (56, 2), (57, 2), (64, 2), (65, 2), (69, 2), (70, 2)] _ _ _ _ _ (show (cO 0 = 8) ∧ ((cO 2 = mK M_Table_howMany) ∧ (Ev 0 M_Table_howMany (0, [some (vO 2), none, none, none, none, none], [], (sc, ar)) (fun r1 h1 => Ev 1 M_Dt_total (64, [some (vO 0), some (vI x1)], mPush r1 [], h1) Q))) from ⟨(by decide), ⟨(by decide), k⟩⟩)
theorem sg_Dt_total_64 {sc : Nat → Int} {ar : Nat → Nat → Int} {x1 s0 : Int} {Q : Option mV → mH → Prop} (k : Q (some (vI s0)) (sc, ar)) :
  Ev 1 M_Dt_total (64, [some (vO 0), some (vI x1)], [vI s0], (sc, ar)) Q :=
  wq_ok 200 _ _ [(1, 2), (36, 2), (41, 2), (48, 2), (49, 2), (56, 2), (57, 2), (64, 2), (65, 2), (69, 2), (70, 2)] _ _ _ _ _ (show Q (some (vI s0)) (sc, ar) from k)
theorem sg_Dt_total_65 {sc : Nat → Int} {ar : Nat → Nat → Int} {x1 : Int} {Q : Option mV → mH → Prop} (k : Ev 0 M_Dt_sumOfTimes (0, [some (vO 0), none, none, none, none, none], [], (sc, ar)) (fun r1 h1 => Ev 1 M_Dt_total (69, [some (vO 0), some (vI x1)], mPush r1 [], h1) Q)) :
  Ev 1 M_Dt_total (65, [some (vO 0), some (vI x1)], [], (sc, ar)) Q :=
  wq_ok 200 _ _ [(1, 2), (36, 2), (41, 2), (48, 2), (49, 2), (56, 2), (57, 2), (64, 2), (65, 2), (69, 2), (70, 2)] _ _ _ _ _ (show (cO 0 = mK M_Dt_sumOfTimes) ∧ (Ev 0 M_Dt_sumOfTimes (0, [some (vO 0), none, none, none, none, none], [], (sc, ar)) (fun r1 h1 => Ev 1 M_Dt_total (69, [some (vO 0), some (vI x1)], mPush r1 [], h1) Q)) from ⟨(by decide), k⟩)
theorem sg_Dt_total_69 {sc : Nat → Int} {ar : Nat → Nat → Int} {x1 s0 : Int} {Q : Option mV → mH → Prop} (k : Q (some (vI s0)) (sc, ar)) :
  Ev 1 M_Dt_total (69, [some (vO 0), some (vI x1)], [vI s0], (sc, ar)) Q :=
  wq_ok 200 _ _ [(1, 2), (36, 2), (41, 2), (48, 2), (49, 2), (56, 2), (57, 2), (64, 2), (65, 2), (69, 2), (70, 2)] _ _ _ _ _ (show Q (some (vI s0)) (sc, ar) from k)
theorem sg_Dt_total_70 {sc : Nat → Int} {ar : Nat → Nat → Int} {x1 : Int} {Q : Option mV → mH → Prop} (k : Q (some (vI (-2))) (sc, ar)) :
  Ev 1 M_Dt_total (70, [some (vO 0), some (vI x1)], [], (sc, ar)) Q :=
  wq_ok 200 _ _ [(1, 2), (36, 2), (41, 2), (48, 2), (49, 2), (56, 2), (57, 2), (64, 2), (65, 2), (69, 2), (70, 2)] _ _ _ _ _ (show Q (some (vI (-2))) (sc, ar) from k)
theorem sg_Dt_isTask_0 {sc : Nat → Int} {ar : Nat → Nat → Int} {x1 : Int} {Q : Option mV → mH → Prop} (k : inR x1 ∧ 
  (x1 < 0 → (Q (some (vI 0)) (sc, ar))) ∧ 
  (¬ (x1 < 0) → (inR x1 ∧ inR (sc 10) ∧ 
    ((sc 10) ≤ x1 → (Q (some (vI 0)) (sc, ar))) ∧ 
    (¬ ((sc 10) ≤ x1) → (inR x1 ∧ 
      (8 ≤ x1 → (Q (some (vI 0)) (sc, ar))) ∧ 
      (¬ (8 ≤ x1) → (Q (some (vI 1)) (sc, ar)))))))) :
  Ev 0 M_Dt_isTask (0, [some (vO 0), some (vI x1)], [], (sc, ar)) Q :=
  wq_ok 200 _ _ [] _ _ _ _ _ (show (inR x1) ∧ (x1 < 0 → (((0 : Int) ≤ 0 ∧ (0 : Int) ≤ 1) ∧ (Q (some (vI 0)) (sc, ar)))) ∧ (¬ (x1 < 0) → ((cO 0 = 8) ∧ ((inR x1 ∧ inR (sc 10)) ∧ ((sc 10) ≤ x1 → (((0 : Int) ≤ 0 ∧ (0 : Int) ≤ 1) ∧ (Q (some (vI 0)) (sc, ar)))) ∧ (¬ ((sc 10) ≤ x1) → ((inR x1 ∧ inR 8) ∧ (8 ≤ x1 → (((0 : Int) ≤ 0 ∧ (0 : Int) ≤ 1) ∧ (Q (some (vI 0)) (sc, ar)))) ∧ (¬ (8 ≤ x1) → (((0 : Int) ≤ 1 ∧ (1 : Int) ≤ 1) ∧ (Q (some (vI 1)) (sc, ar))))))))) from ⟨k.1, fun c1 => ⟨⟨(by decide), (by decide)⟩, (k.2.1 c1)⟩, fun c1 => ⟨(by decide), ⟨⟨(k.2.2 c1).1, (k.2.2 c1).2.1⟩, fun c2 => ⟨⟨(by decide), (by decide)⟩, ((k.2.2 c1).2.2.1 c2)⟩, fun c2 => ⟨⟨((k.2.2 c1).2.2.2 c2).1, (by decide)⟩, fun c3 => ⟨⟨(by decide), (by decide)⟩, (((k.2.2 c1).2.2.2 c2).2.1 c3)⟩, fun c3 => ⟨⟨(by decide), (by decide)⟩, (((k.2.2 c1).2.2.2 c2).2.2 c3)⟩⟩⟩⟩⟩)
theorem sg_Dt_isTime_0 {sc : Nat → Int} {ar : Nat → Nat → Int} {x0 : Int} {Q : Option mV → mH → Prop} (k : inR x0 ∧ 
  (x0 < 1 → (Q (some (vI 0)) (sc, ar))) ∧ 
  (¬ (x0 < 1) → (inR x0 ∧ 
    (20 < x0 → (Q (some (vI 0)) (sc, ar))) ∧ 
    (¬ (20 < x0) → (Q (some (vI 1)) (sc, ar)))))) :
  Ev 0 M_Dt_isTime (0, [some (vI x0)], [], (sc, ar)) Q :=
  wq_ok 200 _ _ [] _ _ _ _ _ (show (inR x0 ∧ inR 1) ∧ (x0 < 1 → (((0 : Int) ≤ 0 ∧ (0 : Int) ≤ 1) ∧ (Q (some (vI 0)) (sc, ar)))) ∧ (¬ (x0 < 1) → ((inR x0 ∧ inR 20) ∧ (20 < x0 → (((0 : Int) ≤ 0 ∧ (0 : Int) ≤ 1) ∧ (Q (some (vI 0)) (sc, ar)))) ∧ (¬ (20 < x0) → (((0 : Int) ≤ 1 ∧ (1 : Int) ≤ 1) ∧ (Q (some (vI 1)) (sc, ar)))))) from ⟨⟨k.1, (by decide)⟩, fun c1 => ⟨⟨(by decide), (by decide)⟩, (k.2.1 c1)⟩, fun c1 => ⟨⟨(k.2.2 c1).1, (by decide)⟩, fun c2 => ⟨⟨(by decide), (by decide)⟩, ((k.2.2 c1).2.1 c2)⟩, fun c2 => ⟨⟨(by decide), (by decide)⟩, ((k.2.2 c1).2.2 c2)⟩⟩⟩)
theorem sg_Dt_isTeamSize_0 {sc : Nat → Int} {ar : Nat → Nat → Int} {x0 : Int} {Q : Option mV → mH → Prop} (k : inR x0 ∧ 
  (x0 < 1 → (Q (some (vI 0)) (sc, ar))) ∧ 
  (¬ (x0 < 1) → (inR x0 ∧ 
    (8 < x0 → (Q (some (vI 0)) (sc, ar))) ∧ 
    (¬ (8 < x0) → (Q (some (vI 1)) (sc, ar)))))) :
  Ev 0 M_Dt_isTeamSize (0, [some (vI x0)], [], (sc, ar)) Q :=
  wq_ok 200 _ _ [] _ _ _ _ _ (show (inR x0 ∧ inR 1) ∧ (x0 < 1 → (((0 : Int) ≤ 0 ∧ (0 : Int) ≤ 1) ∧ (Q (some (vI 0)) (sc, ar)))) ∧ (¬ (x0 < 1) → ((inR x0 ∧ inR 8) ∧ (8 < x0 → (((0 : Int) ≤ 0 ∧ (0 : Int) ≤ 1) ∧ (Q (some (vI 0)) (sc, ar)))) ∧ (¬ (8 < x0) → (((0 : Int) ≤ 1 ∧ (1 : Int) ≤ 1) ∧ (Q (some (vI 1)) (sc, ar)))))) from ⟨⟨k.1, (by decide)⟩, fun c1 => ⟨⟨(by decide), (by decide)⟩, (k.2.1 c1)⟩, fun c1 => ⟨⟨(k.2.2 c1).1, (by decide)⟩, fun c2 => ⟨⟨(by decide), (by decide)⟩, ((k.2.2 c1).2.1 c2)⟩, fun c2 => ⟨⟨(by decide), (by decide)⟩, ((k.2.2 c1).2.2 c2)⟩⟩⟩)
theorem sg_Dt_sumOfTimes_0 {sc : Nat → Int} {ar : Nat → Nat → Int} {Q : Option mV → mH → Prop} (k : Ev 0 M_Dt_sumOfTimes (13, [some (vO 0), some (vI 0), some (vA 0), some (vI 8), some (vI 0), none], [], (sc, ar)) Q) :
  Ev 0 M_Dt_sumOfTimes (0, [some (vO 0), none, none, none, none, none], [], (sc, ar)) Q :=
  wq_ok 200 _ _ [(13, 5)] _ _ _ _ _ (show (cO 0 = 8) ∧ ((aK 0 ≤ 2) ∧ (Ev 0 M_Dt_sumOfTimes (13, [some (vO 0), some (vI 0), some (vA 0), some (vI 8), some (vI 0), none], [], (sc, ar)) Q)) from ⟨(by decide), ⟨(by decide), k⟩⟩)
theorem sg_Dt_sumOfTimes_13 {sc : Nat → Int} {ar : Nat → Nat → Int} {x1 x3 x4 : Int} {Q : Option mV → mH → Prop} (k : inR x4 ∧ inR x3 ∧ 
  (x3 ≤ x4 → (Q (some (vI x1)) (sc, ar))) ∧ 
  (¬ (x3 ≤ x4) → ((0 : Int) ≤ x4 ∧ x4 < (8 : Int) ∧ 
    (Ev 0 M_Dt_sumOfTimes (13, [some (vO 0), some (vI (x1 + (ar 0 x4.toNat))), some (vA 0), some (vI x3), some (vI (x4 + 1)), none], [], (sc, ar)) Q)))) :
  Ev 0 M_Dt_sumOfTimes (13, [some (vO 0), some (vI x1), some (vA 0), some (vI x3), some (vI x4), none], [], (sc, ar)) Q :=
  wq_ok 200 _ _ [(13, 5)] _ _ _ _ _ (show (inR x4 ∧ inR x3) ∧ (x3 ≤ x4 → (Q (some (vI x1)) (sc, ar))) ∧ (¬ (x3 ≤ x4) → ((aK 0 = 0 ∧ (0 : Int) ≤ x4 ∧ x4 < (8 : Int)) ∧ (Ev 0 M_Dt_sumOfTimes (13, [some (vO 0), some (vI (x1 + (ar 0 x4.toNat))), some (vA 0), some (vI x3), some (vI (x4 + 1)), none], [], (sc, ar)) Q))) from ⟨⟨k.1, k.2.1⟩, fun c1 => (k.2.2.1 c1), fun c1 => ⟨⟨(by decide), (k.2.2.2 c1).1, (k.2.2.2 c1).2.1⟩, (k.2.2.2 c1).2.2⟩⟩)
theorem sg_Dt_inLeastTerms_0 {sc : Nat → Int} {ar : Nat → Nat → Int} {x0 x2 x4 : Int} {Q : Option mV → mH → Prop} (k : Ev 0 M_Dt_commonDivisor (0, [some (vL x0), none, some (vL x2), none, none, none, none, none, none, none, none], [], (sc, ar)) (fun r1 h1 => Ev 1 M_Dt_inLeastTerms (5, [some (vL x0), none, some (vL x2), none, some (vI x4), none, none], mPush r1 [], h1) Q)) :
  Ev 1 M_Dt_inLeastTerms (0, [some (vL x0), none, some (vL x2), none, some (vI x4), none, none], [], (sc, ar)) Q :=
  wq_ok 200 _ _ [(5, 5)] _ _ _ _ _ (show Ev 0 M_Dt_commonDivisor (0, [some (vL x0), none, some (vL x2), none, none, none, none, none, none, none, none], [], (sc, ar)) (fun r1 h1 => Ev 1 M_Dt_inLeastTerms (5, [some (vL x0), none, some (vL x2), none, some (vI x4), none, none], mPush r1 [], h1) Q) from k)
theorem sg_Dt_inLeastTerms_5 {sc : Nat → Int} {ar : Nat → Nat → Int} {x0 x2 x4 s0 : Int} {Q : Option mV → mH → Prop} (k : inL s0 ∧ 
  (
  (0 < s0 → (inR x4 ∧ 
    (x4 = 0 → (inL x2 ∧ inL s0 ∧ (0 : Int) < s0 ∧ 
      (Q (some (vL (Int.tdiv x2 s0))) (sc, ar)))) ∧ 
    (¬ (x4 = 0) → (inL x0 ∧ inL s0 ∧ (0 : Int) < s0 ∧ 
      (Q (some (vL (Int.tdiv x0 s0))) (sc, ar)))))) ∧ 
  (¬ (0 < s0) → (Q (some (vL 0)) (sc, ar))))) :
  Ev 1 M_Dt_inLeastTerms (5, [some (vL x0), none, some (vL x2), none, some (vI x4), none, none], [vL s0], (sc, ar)) Q :=
  wq_ok 200 _ _ [(5, 5)] _ _ _ _ _ (show (inL s0 ∧ inL 0) ∧ ((inR (sgn s0 0)) ∧ (0 < (sgn s0 0) → ((inR x4) ∧ (x4 = 0 → ((inL x2 ∧ inL s0 ∧ (0 : Int) < s0) ∧ (Q (some (vL (Int.tdiv x2 s0))) (sc, ar)))) ∧ (¬ (x4 = 0) → ((inL x0 ∧ inL s0 ∧ (0 : Int) < s0) ∧ (Q (some (vL (Int.tdiv x0 s0))) (sc, ar)))))) ∧ (¬ (0 < (sgn s0 0)) → (Q (some (vL 0)) (sc, ar)))) from ⟨⟨k.1, (by decide)⟩, ⟨(sgn_in _ _), fun c1 => ⟨(k.2.1 (sgn_gt.mp c1)).1, fun c2 => ⟨⟨((k.2.1 (sgn_gt.mp c1)).2.1 c2).1, ((k.2.1 (sgn_gt.mp c1)).2.1 c2).2.1, ((k.2.1 (sgn_gt.mp c1)).2.1 c2).2.2.1⟩, ((k.2.1 (sgn_gt.mp c1)).2.1 c2).2.2.2⟩, fun c2 => ⟨⟨((k.2.1 (sgn_gt.mp c1)).2.2 c2).1, ((k.2.1 (sgn_gt.mp c1)).2.2 c2).2.1, ((k.2.1 (sgn_gt.mp c1)).2.2 c2).2.2.1⟩, ((k.2.1 (sgn_gt.mp c1)).2.2 c2).2.2.2⟩⟩, fun c1 => (k.2.2 (fun w => c1 (sgn_gt.mpr w)))⟩⟩)
theorem sg_Dt_commonDivisor_0 {sc : Nat → Int} {ar : Nat → Nat → Int} {x0 x2 : Int} {Q : Option mV → mH → Prop} (k : Ev 0 M_Dt_commonDivisor (9, [some (vL x0), none, some (vL x2), none, some (vL x0), none, some (vL x2), none, some (vI 0), none, none], [], (sc, ar)) Q) :
  Ev 0 M_Dt_commonDivisor (0, [some (vL x0), none, some (vL x2), none, none, none, none, none, none, none, none], [], (sc, ar)) Q :=
  wq_ok 200 _ _ [(9, 9)] _ _ _ _ _ (show Ev 0 M_Dt_commonDivisor (9, [some (vL x0), none, some (vL x2), none, some (vL x0), none, some (vL x2), none, some (vI 0), none, none], [], (sc, ar)) Q from k)
theorem sg_Dt_commonDivisor_9 {sc : Nat → Int} {ar : Nat → Nat → Int} {x0 x2 x4 x6 x8 : Int} {Q : Option mV → mH → Prop} (k : inR x8 ∧ 
  (100 ≤ x8 → (Q (some (vL x4)) (sc, ar))) ∧ 
  (¬ (100 ≤ x8) → (inL x6 ∧ 
    (
    (x6 = 0 → (Q (some (vL x4)) (sc, ar))) ∧ 
    (¬ (x6 = 0) → (inL x4 ∧ inL x6 ∧ (0 : Int) < x6 ∧ 
      (Ev 0 M_Dt_commonDivisor (9, [some (vL x0), none, some (vL x2), none, some (vL x6), none, some (vL (Int.tmod x4 x6)), none, some (vI (x8 + 1)), none, none], [], (sc, ar)) Q))))))) :
  Ev 0 M_Dt_commonDivisor (9, [some (vL x0), none, some (vL x2), none, some (vL x4), none, some (vL x6), none, some (vI x8), none, none], [], (sc, ar)) Q :=
  wq_ok 200 _ _ [(9, 9)] _ _ _ _ _ (show (inR x8 ∧ inR 100) ∧ (100 ≤ x8 → (Q (some (vL x4)) (sc, ar))) ∧ (¬ (100 ≤ x8) → ((inL x6 ∧ inL 0) ∧ ((inR (sgn x6 0)) ∧ ((sgn x6 0) = 0 → (Q (some (vL x4)) (sc, ar))) ∧ (¬ ((sgn x6 0) = 0) → ((inL x4 ∧ inL x6 ∧ (0 : Int) < x6) ∧ (Ev 0 M_Dt_commonDivisor (9, [some (vL x0), none, some (vL x2), none, some (vL x6), none, some (vL (Int.tmod x4 x6)), none, some (vI (x8 + 1)), none, none], [], (sc, ar)) Q)))))) from ⟨⟨k.1, (by decide)⟩, fun c1 => (k.2.1 c1), fun c1 => ⟨⟨(k.2.2 c1).1, (by decide)⟩, ⟨(sgn_in _ _), fun c2 => ((k.2.2 c1).2.1 (sgn_eq.mp c2)), fun c2 => ⟨⟨((k.2.2 c1).2.2 (fun w => c2 (sgn_eq.mpr w))).1, ((k.2.2 c1).2.2 (fun w => c2 (sgn_eq.mpr w))).2.1, ((k.2.2 c1).2.2 (fun w => c2 (sgn_eq.mpr w))).2.2.1⟩, ((k.2.2 c1).2.2 (fun w => c2 (sgn_eq.mpr w))).2.2.2⟩⟩⟩⟩)
end
section
/-! segments of the methods, printed by tools/seg.py: what must hold at a place for the walk to the next ones -/
theorem sg_Md_in_0 {sc : Nat → Int} {ar : Nat → Nat → Int} {x0 x2 x4 : Int} {Q : Option mV → mH → Prop} (k : inL x0 ∧ inL x2 ∧ 
  (
  (x0 < x2 → (Q (some (vI 0)) (sc, ar))) ∧ 
  (¬ (x0 < x2) → (inL x0 ∧ inL x4 ∧ 
    (
    (x4 < x0 → (Q (some (vI 0)) (sc, ar))) ∧ 
    (¬ (x4 < x0) → (Q (some (vI 1)) (sc, ar)))))))) :
  Ev 0 M_Md_in (0, [some (vL x0), none, some (vL x2), none, some (vL x4), none], [], (sc, ar)) Q :=
  wq_ok 200 _ _ [] _ _ _ _ _ (show (inL x0 ∧ inL x2) ∧ ((inR (sgn x0 x2)) ∧ ((sgn x0 x2) < 0 → (((0 : Int) ≤ 0 ∧ (0 : Int) ≤ 1) ∧ (Q (some (vI 0)) (sc, ar)))) ∧ (¬ ((sgn x0 x2) < 0) → ((inL x0 ∧ inL x4) ∧ ((inR (sgn x0 x4)) ∧ (0 < (sgn x0 x4) → (((0 : Int) ≤ 0 ∧ (0 : Int) ≤ 1) ∧ (Q (some (vI 0)) (sc, ar)))) ∧ (¬ (0 < (sgn x0 x4)) → (((0 : Int) ≤ 1 ∧ (1 : Int) ≤ 1) ∧ (Q (some (vI 1)) (sc, ar)))))))) from ⟨⟨k.1, k.2.1⟩, ⟨(sgn_in _ _), fun c1 => ⟨⟨(by decide), (by decide)⟩, (k.2.2.1 (sgn_lt.mp c1))⟩, fun c1 => ⟨⟨(k.2.2.2 (fun w => c1 (sgn_lt.mpr w))).1, (k.2.2.2 (fun w => c1 (sgn_lt.mpr w))).2.1⟩, ⟨(sgn_in _ _), fun c2 => ⟨⟨(by decide), (by decide)⟩, ((k.2.2.2 (fun w => c1 (sgn_lt.mpr w))).2.2.1 (sgn_gt.mp c2))⟩, fun c2 => ⟨⟨(by decide), (by decide)⟩, ((k.2.2.2 (fun w => c1 (sgn_lt.mpr w))).2.2.2 (fun w => c2 (sgn_gt.mpr w)))⟩⟩⟩⟩⟩)
theorem sg_Md_no_0 {sc : Nat → Int} {ar : Nat → Nat → Int} {x1 : Int} {Q : Option mV → mH → Prop} (k : inR x1 ∧ 
  (inR ((sc 177) - 1) ∧ 
  (Ev 0 M_Md_in (0, [some (vL x1), none, some (vL 0), none, some (vL ((sc 177) - 1)), none], [], (sc, ar)) (fun r1 h1 => Ev 1 M_Md_no (13, [some (vO 11), some (vI x1)], mPush r1 [], h1) Q)))) :
  Ev 1 M_Md_no (0, [some (vO 11), some (vI x1)], [], (sc, ar)) Q :=
  wq_ok 200 _ _ [(13, 2)] _ _ _ _ _ (show (inR x1) ∧ ((cO 11 = 9) ∧ ((inR ((sc 177) - 1)) ∧ (Ev 0 M_Md_in (0, [some (vL x1), none, some (vL 0), none, some (vL ((sc 177) - 1)), none], [], (sc, ar)) (fun r1 h1 => Ev 1 M_Md_no (13, [some (vO 11), some (vI x1)], mPush r1 [], h1) Q)))) from ⟨k.1, ⟨(by decide), ⟨k.2.1, k.2.2⟩⟩⟩)
theorem sg_Md_no_13 {sc : Nat → Int} {ar : Nat → Nat → Int} {x1 s0 : Int} {Q : Option mV → mH → Prop} (k : inR s0 ∧ 
  (s0 ≠ 0 → (Q (some (vI 0)) (sc, ar))) ∧ 
  (¬ (s0 ≠ 0) → (Q (some (vI 1)) (sc, ar)))) :
  Ev 1 M_Md_no (13, [some (vO 11), some (vI x1)], [vI s0], (sc, ar)) Q :=
  wq_ok 200 _ _ [(13, 2)] _ _ _ _ _ (show (inR s0) ∧ (s0 ≠ 0 → (((0 : Int) ≤ 0 ∧ (0 : Int) ≤ 1) ∧ (Q (some (vI 0)) (sc, ar)))) ∧ (¬ (s0 ≠ 0) → (((0 : Int) ≤ 1 ∧ (1 : Int) ≤ 1) ∧ (Q (some (vI 1)) (sc, ar)))) from ⟨k.1, fun c1 => ⟨⟨(by decide), (by decide)⟩, (k.2.1 c1)⟩, fun c1 => ⟨⟨(by decide), (by decide)⟩, (k.2.2 c1)⟩⟩)
theorem sg_Md_told_0 {sc : Nat → Int} {ar : Nat → Nat → Int} {x0 x2 x4 : Int} {Q : Option mV → mH → Prop} (k : Ev 0 M_Md_told (6, [some (vL x0), none, some (vL x2), none, some (vI x4), some (vL x0), none, some (vL x2), none, none, none], [], (sc, ar)) Q) :
  Ev 0 M_Md_told (0, [some (vL x0), none, some (vL x2), none, some (vI x4), none, none, none, none, none, none], [], (sc, ar)) Q :=
  wq_ok 200 _ _ [(6, 9)] _ _ _ _ _ (show Ev 0 M_Md_told (6, [some (vL x0), none, some (vL x2), none, some (vI x4), some (vL x0), none, some (vL x2), none, none, none], [], (sc, ar)) Q from k)
theorem sg_Md_told_6 {sc : Nat → Int} {ar : Nat → Nat → Int} {x0 x2 x4 x5 x7 : Int} {Q : Option mV → mH → Prop} (k : inL x7 ∧ 
  (
  (x7 = 0 → (inR x4 ∧ 
    (x4 = 0 → (inL x2 ∧ inL x5 ∧ (0 : Int) < x5 ∧ 
      (Q (some (vL (Int.tdiv x2 x5))) (sc, ar)))) ∧ 
    (¬ (x4 = 0) → (inL x0 ∧ inL x5 ∧ (0 : Int) < x5 ∧ 
      (Q (some (vL (Int.tdiv x0 x5))) (sc, ar)))))) ∧ 
  (¬ (x7 = 0) → (inL x5 ∧ inL x7 ∧ (0 : Int) < x7 ∧ 
    (Ev 0 M_Md_told (6, [some (vL x0), none, some (vL x2), none, some (vI x4), some (vL x7), none, some (vL (Int.tmod x5 x7)), none, none, none], [], (sc, ar)) Q))))) :
  Ev 0 M_Md_told (6, [some (vL x0), none, some (vL x2), none, some (vI x4), some (vL x5), none, some (vL x7), none, none, none], [], (sc, ar)) Q :=
  wq_ok 200 _ _ [(6, 9)] _ _ _ _ _ (show (inL x7 ∧ inL 0) ∧ ((inR (sgn x7 0)) ∧ ((sgn x7 0) = 0 → ((inR x4) ∧ (x4 = 0 → ((inL x2 ∧ inL x5 ∧ (0 : Int) < x5) ∧ (Q (some (vL (Int.tdiv x2 x5))) (sc, ar)))) ∧ (¬ (x4 = 0) → ((inL x0 ∧ inL x5 ∧ (0 : Int) < x5) ∧ (Q (some (vL (Int.tdiv x0 x5))) (sc, ar)))))) ∧ (¬ ((sgn x7 0) = 0) → ((inL x5 ∧ inL x7 ∧ (0 : Int) < x7) ∧ (Ev 0 M_Md_told (6, [some (vL x0), none, some (vL x2), none, some (vI x4), some (vL x7), none, some (vL (Int.tmod x5 x7)), none, none, none], [], (sc, ar)) Q)))) from ⟨⟨k.1, (by decide)⟩, ⟨(sgn_in _ _), fun c1 => ⟨(k.2.1 (sgn_eq.mp c1)).1, fun c2 => ⟨⟨((k.2.1 (sgn_eq.mp c1)).2.1 c2).1, ((k.2.1 (sgn_eq.mp c1)).2.1 c2).2.1, ((k.2.1 (sgn_eq.mp c1)).2.1 c2).2.2.1⟩, ((k.2.1 (sgn_eq.mp c1)).2.1 c2).2.2.2⟩, fun c2 => ⟨⟨((k.2.1 (sgn_eq.mp c1)).2.2 c2).1, ((k.2.1 (sgn_eq.mp c1)).2.2 c2).2.1, ((k.2.1 (sgn_eq.mp c1)).2.2 c2).2.2.1⟩, ((k.2.1 (sgn_eq.mp c1)).2.2 c2).2.2.2⟩⟩, fun c1 => ⟨⟨(k.2.2 (fun w => c1 (sgn_eq.mpr w))).1, (k.2.2 (fun w => c1 (sgn_eq.mpr w))).2.1, (k.2.2 (fun w => c1 (sgn_eq.mpr w))).2.2.1⟩, (k.2.2 (fun w => c1 (sgn_eq.mpr w))).2.2.2⟩⟩⟩)
theorem sg_Md_task_0 {sc : Nat → Int} {ar : Nat → Nat → Int} {x1 : Int} {Q : Option mV → mH → Prop} (k : inR x1 ∧ 
  (Ev 0 M_Md_in (0, [some (vL x1), none, some (vL 1), none, some (vL 20), none], [], ((up sc 176 0), ar)) (fun r1 h1 => Ev 1 M_Md_task (14, [some (vO 11), some (vI x1), none], mPush r1 [], h1) Q))) :
  Ev 1 M_Md_task (0, [some (vO 11), some (vI x1), none], [], (sc, ar)) Q :=
  wq_ok 200 _ _ [(14, 2), (54, 3)] _ _ _ _ _ (show (cO 11 = 9) ∧ ((inR x1) ∧ (Ev 0 M_Md_in (0, [some (vL x1), none, some (vL 1), none, some (vL 20), none], [], ((up sc 176 0), ar)) (fun r1 h1 => Ev 1 M_Md_task (14, [some (vO 11), some (vI x1), none], mPush r1 [], h1) Q))) from ⟨(by decide), ⟨k.1, k.2⟩⟩)
theorem sg_Md_task_14 {sc : Nat → Int} {ar : Nat → Nat → Int} {x1 s0 : Int} {Q : Option mV → mH → Prop} (k : inR s0 ∧ 
  (s0 ≠ 0 → (inR (sc 177) ∧ 
    ((sc 177) ≠ 8 → ((0 : Int) ≤ (sc 177) ∧ (sc 177) < (8 : Int) ∧ 
      (Ev 1 M_Md_task (54, [some (vO 11), some (vI x1), some (vI 0)], [], ((up sc 177 ((sc 177) + 1)), (up ar 178 (up (ar 178) (sc 177).toNat x1)))) Q))) ∧ 
    (¬ ((sc 177) ≠ 8) → (Q (some (vI (-4))) (sc, ar))))) ∧ 
  (¬ (s0 ≠ 0) → (Q (some (vI (-2))) (sc, ar)))) :
  Ev 1 M_Md_task (14, [some (vO 11), some (vI x1), none], [vI s0], (sc, ar)) Q :=
  wq_ok 200 _ _ [(14, 2), (54, 3)] _ _ _ _ _ (show (inR s0) ∧ (s0 ≠ 0 → ((cO 11 = 9) ∧ ((inR (sc 177) ∧ inR 8) ∧ ((sc 177) ≠ 8 → ((cO 11 = 9) ∧ ((cO 11 = 9) ∧ ((aK 178 = 0 ∧ 178 ≠ 999 ∧ (0 : Int) ≤ (sc 177) ∧ (sc 177) < (8 : Int)) ∧ ((cO 11 = 9) ∧ ((cO 11 = 9) ∧ (Ev 1 M_Md_task (54, [some (vO 11), some (vI x1), some (vI 0)], [], ((up sc 177 ((sc 177) + 1)), (up ar 178 (up (ar 178) (sc 177).toNat x1)))) Q))))))) ∧ (¬ ((sc 177) ≠ 8) → (Q (some (vI (-4))) (sc, ar)))))) ∧ (¬ (s0 ≠ 0) → (Q (some (vI (-2))) (sc, ar))) from ⟨k.1, fun c1 => ⟨(by decide), ⟨⟨(k.2.1 c1).1, (by decide)⟩, fun c2 => ⟨(by decide), ⟨(by decide), ⟨⟨(by decide), (by decide), ((k.2.1 c1).2.1 c2).1, ((k.2.1 c1).2.1 c2).2.1⟩, ⟨(by decide), ⟨(by decide), ((k.2.1 c1).2.1 c2).2.2⟩⟩⟩⟩⟩, fun c2 => ((k.2.1 c1).2.2 c2)⟩⟩, fun c1 => (k.2.2 c1)⟩)
theorem sg_Md_task_54 {sc : Nat → Int} {ar : Nat → Nat → Int} {x1 x2 : Int} {Q : Option mV → mH → Prop} (k : inR x2 ∧ inR (sc 177) ∧ 
  ((sc 177) ≤ x2 → (Q (some (vI ((sc 177) - 1))) (sc, ar))) ∧ 
  (¬ ((sc 177) ≤ x2) → ((0 : Int) ≤ x2 ∧ x2 < (8 : Int) ∧ 
    (Ev 1 M_Md_task (54, [some (vO 11), some (vI x1), some (vI (x2 + 1))], [], (sc, (up ar 181 (up (ar 181) x2.toNat x2)))) Q)))) :
  Ev 1 M_Md_task (54, [some (vO 11), some (vI x1), some (vI x2)], [], (sc, ar)) Q :=
  wq_ok 200 _ _ [(14, 2), (54, 3)] _ _ _ _ _ (show (cO 11 = 9) ∧ ((inR x2 ∧ inR (sc 177)) ∧ ((sc 177) ≤ x2 → ((cO 11 = 9) ∧ (Q (some (vI ((sc 177) - 1))) (sc, ar)))) ∧ (¬ ((sc 177) ≤ x2) → ((cO 11 = 9) ∧ ((aK 181 = 0 ∧ 181 ≠ 999 ∧ (0 : Int) ≤ x2 ∧ x2 < (8 : Int)) ∧ (Ev 1 M_Md_task (54, [some (vO 11), some (vI x1), some (vI (x2 + 1))], [], (sc, (up ar 181 (up (ar 181) x2.toNat x2)))) Q))))) from ⟨(by decide), ⟨⟨k.1, k.2.1⟩, fun c1 => ⟨(by decide), (k.2.2.1 c1)⟩, fun c1 => ⟨(by decide), ⟨⟨(by decide), (by decide), (k.2.2.2 c1).1, (k.2.2.2 c1).2.1⟩, (k.2.2.2 c1).2.2⟩⟩⟩⟩)
theorem sg_Md_time_0 {sc : Nat → Int} {ar : Nat → Nat → Int} {x1 x2 : Int} {Q : Option mV → mH → Prop} (k : Ev 1 M_Md_no (0, [some (vO 11), some (vI x1)], [], ((up sc 176 0), ar)) (fun r1 h1 => Ev 2 M_Md_time (10, [some (vO 11), some (vI x1), some (vI x2), none], mPush r1 [], h1) Q)) :
  Ev 2 M_Md_time (0, [some (vO 11), some (vI x1), some (vI x2), none], [], (sc, ar)) Q :=
  wq_ok 200 _ _ [(10, 3), (24, 3)] _ _ _ _ _ (show (cO 11 = 9) ∧ ((cO 11 = mK M_Md_no) ∧ (Ev 1 M_Md_no (0, [some (vO 11), some (vI x1)], [], ((up sc 176 0), ar)) (fun r1 h1 => Ev 2 M_Md_time (10, [some (vO 11), some (vI x1), some (vI x2), none], mPush r1 [], h1) Q))) from ⟨(by decide), ⟨(by decide), k⟩⟩)
theorem sg_Md_time_10 {sc : Nat → Int} {ar : Nat → Nat → Int} {x1 x2 s0 : Int} {Q : Option mV → mH → Prop} (k : inR s0 ∧ 
  (s0 = 0 → (inR x2 ∧ 
    (Ev 1 M_Md_in (0, [some (vL x2), none, some (vL 1), none, some (vL 20), none], [], (sc, ar)) (fun r1 h1 => Ev 2 M_Md_time (24, [some (vO 11), some (vI x1), some (vI x2), none], mPush r1 [], h1) Q)))) ∧ 
  (¬ (s0 = 0) → (Q (some (vI (-1))) (sc, ar)))) :
  Ev 2 M_Md_time (10, [some (vO 11), some (vI x1), some (vI x2), none], [vI s0], (sc, ar)) Q :=
  wq_ok 200 _ _ [(10, 3), (24, 3)] _ _ _ _ _ (show (inR s0) ∧ (s0 = 0 → ((inR x2) ∧ (Ev 1 M_Md_in (0, [some (vL x2), none, some (vL 1), none, some (vL 20), none], [], (sc, ar)) (fun r1 h1 => Ev 2 M_Md_time (24, [some (vO 11), some (vI x1), some (vI x2), none], mPush r1 [], h1) Q)))) ∧ (¬ (s0 = 0) → (Q (some (vI (-1))) (sc, ar))) from ⟨k.1, fun c1 => ⟨(k.2.1 c1).1, (k.2.1 c1).2⟩, fun c1 => (k.2.2 c1)⟩)
theorem sg_Md_time_24 {sc : Nat → Int} {ar : Nat → Nat → Int} {x1 x2 s0 : Int} {Q : Option mV → mH → Prop} (k : inR s0 ∧ 
  (s0 ≠ 0 → ((0 : Int) ≤ x1 ∧ x1 < (8 : Int) ∧ 
    ((0 : Int) ≤ x1 ∧ x1 < (8 : Int) ∧ 
    (Q (some (vI (ar 178 x1.toNat))) (sc, (up ar 178 (up (ar 178) x1.toNat x2))))))) ∧ 
  (¬ (s0 ≠ 0) → (Q (some (vI (-2))) (sc, ar)))) :
  Ev 2 M_Md_time (24, [some (vO 11), some (vI x1), some (vI x2), none], [vI s0], (sc, ar)) Q :=
  wq_ok 200 _ _ [(10, 3), (24, 3)] _ _ _ _ _ (show (inR s0) ∧ (s0 ≠ 0 → ((cO 11 = 9) ∧ ((aK 178 = 0 ∧ (0 : Int) ≤ x1 ∧ x1 < (8 : Int)) ∧ ((cO 11 = 9) ∧ ((aK 178 = 0 ∧ 178 ≠ 999 ∧ (0 : Int) ≤ x1 ∧ x1 < (8 : Int)) ∧ (Q (some (vI (ar 178 x1.toNat))) (sc, (up ar 178 (up (ar 178) x1.toNat x2))))))))) ∧ (¬ (s0 ≠ 0) → (Q (some (vI (-2))) (sc, ar))) from ⟨k.1, fun c1 => ⟨(by decide), ⟨⟨(by decide), (k.2.1 c1).1, (k.2.1 c1).2.1⟩, ⟨(by decide), ⟨⟨(by decide), (by decide), (k.2.1 c1).2.2.1, (k.2.1 c1).2.2.2.1⟩, (k.2.1 c1).2.2.2.2⟩⟩⟩⟩, fun c1 => (k.2.2 c1)⟩)
theorem sg_Md_need_0 {sc : Nat → Int} {ar : Nat → Nat → Int} {x1 x2 x3 : Int} {Q : Option mV → mH → Prop} (k : Ev 1 M_Md_no (0, [some (vO 11), some (vI x1)], [], ((up sc 176 0), ar)) (fun r1 h1 => Ev 2 M_Md_need (10, [some (vO 11), some (vI x1), some (vI x2), some (vI x3), none], mPush r1 [], h1) Q)) :
  Ev 2 M_Md_need (0, [some (vO 11), some (vI x1), some (vI x2), some (vI x3), none], [], (sc, ar)) Q :=
  wq_ok 200 _ _ [(10, 4), (18, 4), (32, 4)] _ _ _ _ _ (show (cO 11 = 9) ∧ ((cO 11 = mK M_Md_no) ∧ (Ev 1 M_Md_no (0, [some (vO 11), some (vI x1)], [], ((up sc 176 0), ar)) (fun r1 h1 => Ev 2 M_Md_need (10, [some (vO 11), some (vI x1), some (vI x2), some (vI x3), none], mPush r1 [], h1) Q))) from ⟨(by decide), ⟨(by decide), k⟩⟩)
theorem sg_Md_need_10 {sc : Nat → Int} {ar : Nat → Nat → Int} {x1 x2 x3 s0 : Int} {Q : Option mV → mH → Prop} (k : inR s0 ∧ 
  (s0 ≠ 0 → (Q (some (vI (-1))) (sc, ar))) ∧ 
  (¬ (s0 ≠ 0) → (Ev 1 M_Md_no (0, [some (vO 11), some (vI x2)], [], (sc, ar)) (fun r1 h1 => Ev 2 M_Md_need (18, [some (vO 11), some (vI x1), some (vI x2), some (vI x3), none], mPush r1 [], h1) Q)))) :
  Ev 2 M_Md_need (10, [some (vO 11), some (vI x1), some (vI x2), some (vI x3), none], [vI s0], (sc, ar)) Q :=
  wq_ok 200 _ _ [(10, 4), (18, 4), (32, 4)] _ _ _ _ _ (show (inR s0) ∧ (s0 ≠ 0 → (Q (some (vI (-1))) (sc, ar))) ∧ (¬ (s0 ≠ 0) → ((cO 11 = mK M_Md_no) ∧ (Ev 1 M_Md_no (0, [some (vO 11), some (vI x2)], [], (sc, ar)) (fun r1 h1 => Ev 2 M_Md_need (18, [some (vO 11), some (vI x1), some (vI x2), some (vI x3), none], mPush r1 [], h1) Q)))) from ⟨k.1, fun c1 => (k.2.1 c1), fun c1 => ⟨(by decide), (k.2.2 c1)⟩⟩)
theorem sg_Md_need_18 {sc : Nat → Int} {ar : Nat → Nat → Int} {x1 x2 x3 s0 : Int} {Q : Option mV → mH → Prop} (k : inR s0 ∧ 
  (s0 = 0 → (inR x3 ∧ 
    (Ev 1 M_Md_in (0, [some (vL x3), none, some (vL 0), none, some (vL 9), none], [], (sc, ar)) (fun r1 h1 => Ev 2 M_Md_need (32, [some (vO 11), some (vI x1), some (vI x2), some (vI x3), none], mPush r1 [], h1) Q)))) ∧ 
  (¬ (s0 = 0) → (Q (some (vI (-1))) (sc, ar)))) :
  Ev 2 M_Md_need (18, [some (vO 11), some (vI x1), some (vI x2), some (vI x3), none], [vI s0], (sc, ar)) Q :=
  wq_ok 200 _ _ [(10, 4), (18, 4), (32, 4)] _ _ _ _ _ (show (inR s0) ∧ (s0 = 0 → ((inR x3) ∧ (Ev 1 M_Md_in (0, [some (vL x3), none, some (vL 0), none, some (vL 9), none], [], (sc, ar)) (fun r1 h1 => Ev 2 M_Md_need (32, [some (vO 11), some (vI x1), some (vI x2), some (vI x3), none], mPush r1 [], h1) Q)))) ∧ (¬ (s0 = 0) → (Q (some (vI (-1))) (sc, ar))) from ⟨k.1, fun c1 => ⟨(k.2.1 c1).1, (k.2.1 c1).2⟩, fun c1 => (k.2.2 c1)⟩)
theorem sg_Md_need_32 {sc : Nat → Int} {ar : Nat → Nat → Int} {x1 x2 x3 s0 : Int} {Q : Option mV → mH → Prop} (k : inR s0 ∧ 
  (s0 ≠ 0 → (inR x1 ∧ inR x2 ∧ 
    (x1 ≠ x2 → ((0 : Int) ≤ ((8 * x1) + x2) ∧ ((8 * x1) + x2) < (64 : Int) ∧ 
      ((0 : Int) ≤ ((8 * x1) + x2) ∧ ((8 * x1) + x2) < (64 : Int) ∧ 
      (Q (some (vI (ar 179 ((8 * x1) + x2).toNat))) (sc, (up ar 179 (up (ar 179) ((8 * x1) + x2).toNat x3))))))) ∧ 
    (¬ (x1 ≠ x2) → (Q (some (vI (-3))) (sc, ar))))) ∧ 
  (¬ (s0 ≠ 0) → (Q (some (vI (-2))) (sc, ar)))) :
  Ev 2 M_Md_need (32, [some (vO 11), some (vI x1), some (vI x2), some (vI x3), none], [vI s0], (sc, ar)) Q :=
  wq_ok 200 _ _ [(10, 4), (18, 4), (32, 4)] _ _ _ _ _ (show (inR s0) ∧ (s0 ≠ 0 → ((inR x1 ∧ inR x2) ∧ (x1 ≠ x2 → ((cO 11 = 9) ∧ ((aK 179 = 0 ∧ (0 : Int) ≤ ((8 * x1) + x2) ∧ ((8 * x1) + x2) < (64 : Int)) ∧ ((cO 11 = 9) ∧ ((aK 179 = 0 ∧ 179 ≠ 999 ∧ (0 : Int) ≤ ((8 * x1) + x2) ∧ ((8 * x1) + x2) < (64 : Int)) ∧ (Q (some (vI (ar 179 ((8 * x1) + x2).toNat))) (sc, (up ar 179 (up (ar 179) ((8 * x1) + x2).toNat x3))))))))) ∧ (¬ (x1 ≠ x2) → (Q (some (vI (-3))) (sc, ar))))) ∧ (¬ (s0 ≠ 0) → (Q (some (vI (-2))) (sc, ar))) from ⟨k.1, fun c1 => ⟨⟨(k.2.1 c1).1, (k.2.1 c1).2.1⟩, fun c2 => ⟨(by decide), ⟨⟨(by decide), ((k.2.1 c1).2.2.1 c2).1, ((k.2.1 c1).2.2.1 c2).2.1⟩, ⟨(by decide), ⟨⟨(by decide), (by decide), ((k.2.1 c1).2.2.1 c2).2.2.1, ((k.2.1 c1).2.2.1 c2).2.2.2.1⟩, ((k.2.1 c1).2.2.1 c2).2.2.2.2⟩⟩⟩⟩, fun c2 => ((k.2.1 c1).2.2.2 c2)⟩, fun c1 => (k.2.2 c1)⟩)
theorem sg_Md_strength_0 {sc : Nat → Int} {ar : Nat → Nat → Int} {x1 x2 : Int} {Q : Option mV → mH → Prop} (k : Ev 1 M_Md_no (0, [some (vO 11), some (vI x1)], [], ((up sc 176 0), ar)) (fun r1 h1 => Ev 2 M_Md_strength (10, [some (vO 11), some (vI x1), some (vI x2)], mPush r1 [], h1) Q)) :
  Ev 2 M_Md_strength (0, [some (vO 11), some (vI x1), some (vI x2)], [], (sc, ar)) Q :=
  wq_ok 200 _ _ [(10, 3), (18, 3)] _ _ _ _ _ (show (cO 11 = 9) ∧ ((cO 11 = mK M_Md_no) ∧ (Ev 1 M_Md_no (0, [some (vO 11), some (vI x1)], [], ((up sc 176 0), ar)) (fun r1 h1 => Ev 2 M_Md_strength (10, [some (vO 11), some (vI x1), some (vI x2)], mPush r1 [], h1) Q))) from ⟨(by decide), ⟨(by decide), k⟩⟩)
theorem sg_Md_strength_10 {sc : Nat → Int} {ar : Nat → Nat → Int} {x1 x2 s0 : Int} {Q : Option mV → mH → Prop} (k : inR s0 ∧ 
  (s0 ≠ 0 → (Q (some (vI (-1))) (sc, ar))) ∧ 
  (¬ (s0 ≠ 0) → (Ev 1 M_Md_no (0, [some (vO 11), some (vI x2)], [], (sc, ar)) (fun r1 h1 => Ev 2 M_Md_strength (18, [some (vO 11), some (vI x1), some (vI x2)], mPush r1 [], h1) Q)))) :
  Ev 2 M_Md_strength (10, [some (vO 11), some (vI x1), some (vI x2)], [vI s0], (sc, ar)) Q :=
  wq_ok 200 _ _ [(10, 3), (18, 3)] _ _ _ _ _ (show (inR s0) ∧ (s0 ≠ 0 → (Q (some (vI (-1))) (sc, ar))) ∧ (¬ (s0 ≠ 0) → ((cO 11 = mK M_Md_no) ∧ (Ev 1 M_Md_no (0, [some (vO 11), some (vI x2)], [], (sc, ar)) (fun r1 h1 => Ev 2 M_Md_strength (18, [some (vO 11), some (vI x1), some (vI x2)], mPush r1 [], h1) Q)))) from ⟨k.1, fun c1 => (k.2.1 c1), fun c1 => ⟨(by decide), (k.2.2 c1)⟩⟩)
theorem sg_Md_strength_18 {sc : Nat → Int} {ar : Nat → Nat → Int} {x1 x2 s0 : Int} {Q : Option mV → mH → Prop} (k : inR s0 ∧ 
  (s0 = 0 → ((0 : Int) ≤ ((8 * x1) + x2) ∧ ((8 * x1) + x2) < (64 : Int) ∧ 
    (Q (some (vI (ar 179 ((8 * x1) + x2).toNat))) (sc, ar)))) ∧ 
  (¬ (s0 = 0) → (Q (some (vI (-1))) (sc, ar)))) :
  Ev 2 M_Md_strength (18, [some (vO 11), some (vI x1), some (vI x2)], [vI s0], (sc, ar)) Q :=
  wq_ok 200 _ _ [(10, 3), (18, 3)] _ _ _ _ _ (show (inR s0) ∧ (s0 = 0 → ((cO 11 = 9) ∧ ((aK 179 = 0 ∧ (0 : Int) ≤ ((8 * x1) + x2) ∧ ((8 * x1) + x2) < (64 : Int)) ∧ (Q (some (vI (ar 179 ((8 * x1) + x2).toNat))) (sc, ar))))) ∧ (¬ (s0 = 0) → (Q (some (vI (-1))) (sc, ar))) from ⟨k.1, fun c1 => ⟨(by decide), ⟨⟨(by decide), (k.2.1 c1).1, (k.2.1 c1).2.1⟩, (k.2.1 c1).2.2⟩⟩, fun c1 => (k.2.2 c1)⟩)
theorem sg_Md_lean_0 {sc : Nat → Int} {ar : Nat → Nat → Int} {Q : Option mV → mH → Prop} (k : Ev 0 M_Md_lean (2, [some (vO 11), some (vI 0), none, none], [], (sc, ar)) Q) :
  Ev 0 M_Md_lean (0, [some (vO 11), none, none, none], [], (sc, ar)) Q :=
  wq_ok 200 _ _ [(2, 2), (36, 2), (44, 3), (52, 4)] _ _ _ _ _ (show Ev 0 M_Md_lean (2, [some (vO 11), some (vI 0), none, none], [], (sc, ar)) Q from k)
theorem sg_Md_lean_2 {sc : Nat → Int} {ar : Nat → Nat → Int} {x1 : Int} {Q : Option mV → mH → Prop} (k : inR x1 ∧ 
  (64 ≤ x1 → (Ev 0 M_Md_lean (36, [some (vO 11), some (vI 0), none, none], [], (sc, ar)) Q)) ∧ 
  (¬ (64 ≤ x1) → ((0 : Int) ≤ x1 ∧ x1 < (64 : Int) ∧ 
    (inR (ar 179 x1.toNat) ∧ 
    ((ar 179 x1.toNat) ≤ 0 → ((0 : Int) ≤ x1 ∧ x1 < (64 : Int) ∧ 
      (Ev 0 M_Md_lean (2, [some (vO 11), some (vI (x1 + 1)), none, none], [], (sc, (up ar 183 (up (ar 183) x1.toNat 0)))) Q))) ∧ 
    (¬ ((ar 179 x1.toNat) ≤ 0) → ((0 : Int) ≤ x1 ∧ x1 < (64 : Int) ∧ 
      (Ev 0 M_Md_lean (2, [some (vO 11), some (vI (x1 + 1)), none, none], [], (sc, (up ar 183 (up (ar 183) x1.toNat 1)))) Q))))))) :
  Ev 0 M_Md_lean (2, [some (vO 11), some (vI x1), none, none], [], (sc, ar)) Q :=
  wq_ok 200 _ _ [(2, 2), (36, 2), (44, 3), (52, 4)] _ _ _ _ _ (show (inR x1 ∧ inR 64) ∧ (64 ≤ x1 → (Ev 0 M_Md_lean (36, [some (vO 11), some (vI 0), none, none], [], (sc, ar)) Q)) ∧ (¬ (64 ≤ x1) → ((cO 11 = 9) ∧ ((cO 11 = 9) ∧ ((aK 179 = 0 ∧ (0 : Int) ≤ x1 ∧ x1 < (64 : Int)) ∧ ((inR (ar 179 x1.toNat)) ∧ ((ar 179 x1.toNat) ≤ 0 → ((aK 183 = 2 ∧ 183 ≠ 999 ∧ (0 : Int) ≤ x1 ∧ x1 < (64 : Int) ∧ (0 : Int) ≤ 0 ∧ (0 : Int) ≤ 1) ∧ (Ev 0 M_Md_lean (2, [some (vO 11), some (vI (x1 + 1)), none, none], [], (sc, (up ar 183 (up (ar 183) x1.toNat 0)))) Q))) ∧ (¬ ((ar 179 x1.toNat) ≤ 0) → ((aK 183 = 2 ∧ 183 ≠ 999 ∧ (0 : Int) ≤ x1 ∧ x1 < (64 : Int) ∧ (0 : Int) ≤ 1 ∧ (1 : Int) ≤ 1) ∧ (Ev 0 M_Md_lean (2, [some (vO 11), some (vI (x1 + 1)), none, none], [], (sc, (up ar 183 (up (ar 183) x1.toNat 1)))) Q)))))))) from ⟨⟨k.1, (by decide)⟩, fun c1 => (k.2.1 c1), fun c1 => ⟨(by decide), ⟨(by decide), ⟨⟨(by decide), (k.2.2 c1).1, (k.2.2 c1).2.1⟩, ⟨(k.2.2 c1).2.2.1, fun c2 => ⟨⟨(by decide), (by decide), ((k.2.2 c1).2.2.2.1 c2).1, ((k.2.2 c1).2.2.2.1 c2).2.1, (by decide), (by decide)⟩, ((k.2.2 c1).2.2.2.1 c2).2.2⟩, fun c2 => ⟨⟨(by decide), (by decide), ((k.2.2 c1).2.2.2.2 c2).1, ((k.2.2 c1).2.2.2.2 c2).2.1, (by decide), (by decide)⟩, ((k.2.2 c1).2.2.2.2 c2).2.2⟩⟩⟩⟩⟩⟩)
theorem sg_Md_lean_36 {sc : Nat → Int} {ar : Nat → Nat → Int} {x1 : Int} {Q : Option mV → mH → Prop} (k : inR x1 ∧ 
  (8 ≤ x1 → (Q none (sc, ar))) ∧ 
  (¬ (8 ≤ x1) → (Ev 0 M_Md_lean (44, [some (vO 11), some (vI x1), some (vI 0), none], [], (sc, ar)) Q))) :
  Ev 0 M_Md_lean (36, [some (vO 11), some (vI x1), none, none], [], (sc, ar)) Q :=
  wq_ok 200 _ _ [(2, 2), (36, 2), (44, 3), (52, 4)] _ _ _ _ _ (show (inR x1 ∧ inR 8) ∧ (8 ≤ x1 → (Q none (sc, ar))) ∧ (¬ (8 ≤ x1) → (Ev 0 M_Md_lean (44, [some (vO 11), some (vI x1), some (vI 0), none], [], (sc, ar)) Q)) from ⟨⟨k.1, (by decide)⟩, fun c1 => (k.2.1 c1), fun c1 => (k.2.2 c1)⟩)
theorem sg_Md_lean_44 {sc : Nat → Int} {ar : Nat → Nat → Int} {x1 x2 : Int} {Q : Option mV → mH → Prop} (k : inR x2 ∧ 
  (8 ≤ x2 → (Ev 0 M_Md_lean (36, [some (vO 11), some (vI (x1 + 1)), none, none], [], (sc, ar)) Q)) ∧ 
  (¬ (8 ≤ x2) → (Ev 0 M_Md_lean (52, [some (vO 11), some (vI x1), some (vI x2), some (vI 0)], [], (sc, ar)) Q))) :
  Ev 0 M_Md_lean (44, [some (vO 11), some (vI x1), some (vI x2), none], [], (sc, ar)) Q :=
  wq_ok 200 _ _ [(2, 2), (36, 2), (44, 3), (52, 4)] _ _ _ _ _ (show (inR x2 ∧ inR 8) ∧ (8 ≤ x2 → (Ev 0 M_Md_lean (36, [some (vO 11), some (vI (x1 + 1)), none, none], [], (sc, ar)) Q)) ∧ (¬ (8 ≤ x2) → (Ev 0 M_Md_lean (52, [some (vO 11), some (vI x1), some (vI x2), some (vI 0)], [], (sc, ar)) Q)) from ⟨⟨k.1, (by decide)⟩, fun c1 => (k.2.1 c1), fun c1 => (k.2.2 c1)⟩)
theorem sg_Md_lean_52 {sc : Nat → Int} {ar : Nat → Nat → Int} {x1 x2 x3 : Int} {Q : Option mV → mH → Prop} (k : inR x3 ∧ 
  (8 ≤ x3 → (Ev 0 M_Md_lean (44, [some (vO 11), some (vI x1), some (vI (x2 + 1)), none], [], (sc, ar)) Q)) ∧ 
  (¬ (8 ≤ x3) → ((0 : Int) ≤ ((8 * x2) + x3) ∧ ((8 * x2) + x3) < (64 : Int) ∧ 
    (inR (ar 183 ((8 * x2) + x3).toNat) ∧ 
    ((ar 183 ((8 * x2) + x3).toNat) ≠ 0 → ((0 : Int) ≤ ((8 * x2) + x3) ∧ ((8 * x2) + x3) < (64 : Int) ∧ 
      (Ev 0 M_Md_lean (52, [some (vO 11), some (vI x1), some (vI x2), some (vI (x3 + 1))], [], (sc, (up ar 183 (up (ar 183) ((8 * x2) + x3).toNat 1)))) Q))) ∧ 
    (¬ ((ar 183 ((8 * x2) + x3).toNat) ≠ 0) → ((0 : Int) ≤ ((8 * x2) + x1) ∧ ((8 * x2) + x1) < (64 : Int) ∧ 
      (inR (ar 183 ((8 * x2) + x1).toNat) ∧ 
      ((ar 183 ((8 * x2) + x1).toNat) = 0 → ((0 : Int) ≤ ((8 * x2) + x3) ∧ ((8 * x2) + x3) < (64 : Int) ∧ 
        (Ev 0 M_Md_lean (52, [some (vO 11), some (vI x1), some (vI x2), some (vI (x3 + 1))], [], (sc, (up ar 183 (up (ar 183) ((8 * x2) + x3).toNat 0)))) Q))) ∧ 
      (¬ ((ar 183 ((8 * x2) + x1).toNat) = 0) → ((0 : Int) ≤ ((8 * x1) + x3) ∧ ((8 * x1) + x3) < (64 : Int) ∧ 
        (inR (ar 183 ((8 * x1) + x3).toNat) ∧ 
        ((ar 183 ((8 * x1) + x3).toNat) = 0 → ((0 : Int) ≤ ((8 * x2) + x3) ∧ ((8 * x2) + x3) < (64 : Int) ∧ 
          (Ev 0 M_Md_lean (52, [some (vO 11), some (vI x1), some (vI x2), some (vI (x3 + 1))], [], (sc, (up ar 183 (up (ar 183) ((8 * x2) + x3).toNat 0)))) Q))) ∧ 
        (¬ ((ar 183 ((8 * x1) + x3).toNat) = 0) → ((0 : Int) ≤ ((8 * x2) + x3) ∧ ((8 * x2) + x3) < (64 : Int) ∧ 
          (Ev 0 M_Md_lean (52, [some (vO 11), some (vI x1), some (vI x2), some (vI (x3 + 1))], [], (sc, (up ar 183 (up (ar 183) ((8 * x2) + x3).toNat 1)))) Q))))))))))))) :
  Ev 0 M_Md_lean (52, [some (vO 11), some (vI x1), some (vI x2), some (vI x3)], [], (sc, ar)) Q :=
  wq_ok 200 _ _ [(2, 2), (36, 2), (44, 3), (52, 4)] _ _ _ _ _ (show (inR x3 ∧ inR 8) ∧ (8 ≤ x3 → (Ev 0 M_Md_lean (44, [some (vO 11), some (vI x1), some (vI (x2 + 1)), none], [], (sc, ar)) Q)) ∧ (¬ (8 ≤ x3) → ((cO 11 = 9) ∧ ((cO 11 = 9) ∧ ((aK 183 = 2 ∧ (0 : Int) ≤ ((8 * x2) + x3) ∧ ((8 * x2) + x3) < (64 : Int)) ∧ ((inR (ar 183 ((8 * x2) + x3).toNat)) ∧ ((ar 183 ((8 * x2) + x3).toNat) ≠ 0 → ((aK 183 = 2 ∧ 183 ≠ 999 ∧ (0 : Int) ≤ ((8 * x2) + x3) ∧ ((8 * x2) + x3) < (64 : Int) ∧ (0 : Int) ≤ 1 ∧ (1 : Int) ≤ 1) ∧ (Ev 0 M_Md_lean (52, [some (vO 11), some (vI x1), some (vI x2), some (vI (x3 + 1))], [], (sc, (up ar 183 (up (ar 183) ((8 * x2) + x3).toNat 1)))) Q))) ∧ (¬ ((ar 183 ((8 * x2) + x3).toNat) ≠ 0) → ((cO 11 = 9) ∧ ((aK 183 = 2 ∧ (0 : Int) ≤ ((8 * x2) + x1) ∧ ((8 * x2) + x1) < (64 : Int)) ∧ ((inR (ar 183 ((8 * x2) + x1).toNat)) ∧ ((ar 183 ((8 * x2) + x1).toNat) = 0 → ((aK 183 = 2 ∧ 183 ≠ 999 ∧ (0 : Int) ≤ ((8 * x2) + x3) ∧ ((8 * x2) + x3) < (64 : Int) ∧ (0 : Int) ≤ 0 ∧ (0 : Int) ≤ 1) ∧ (Ev 0 M_Md_lean (52, [some (vO 11), some (vI x1), some (vI x2), some (vI (x3 + 1))], [], (sc, (up ar 183 (up (ar 183) ((8 * x2) + x3).toNat 0)))) Q))) ∧ (¬ ((ar 183 ((8 * x2) + x1).toNat) = 0) → ((cO 11 = 9) ∧ ((aK 183 = 2 ∧ (0 : Int) ≤ ((8 * x1) + x3) ∧ ((8 * x1) + x3) < (64 : Int)) ∧ ((inR (ar 183 ((8 * x1) + x3).toNat)) ∧ ((ar 183 ((8 * x1) + x3).toNat) = 0 → ((aK 183 = 2 ∧ 183 ≠ 999 ∧ (0 : Int) ≤ ((8 * x2) + x3) ∧ ((8 * x2) + x3) < (64 : Int) ∧ (0 : Int) ≤ 0 ∧ (0 : Int) ≤ 1) ∧ (Ev 0 M_Md_lean (52, [some (vO 11), some (vI x1), some (vI x2), some (vI (x3 + 1))], [], (sc, (up ar 183 (up (ar 183) ((8 * x2) + x3).toNat 0)))) Q))) ∧ (¬ ((ar 183 ((8 * x1) + x3).toNat) = 0) → ((aK 183 = 2 ∧ 183 ≠ 999 ∧ (0 : Int) ≤ ((8 * x2) + x3) ∧ ((8 * x2) + x3) < (64 : Int) ∧ (0 : Int) ≤ 1 ∧ (1 : Int) ≤ 1) ∧ (Ev 0 M_Md_lean (52, [some (vO 11), some (vI x1), some (vI x2), some (vI (x3 + 1))], [], (sc, (up ar 183 (up (ar 183) ((8 * x2) + x3).toNat 1)))) Q)))))))))))))))) from ⟨⟨k.1, (by decide)⟩, fun c1 => (k.2.1 c1), fun c1 => ⟨(by decide), ⟨(by decide), ⟨⟨(by decide), (k.2.2 c1).1, (k.2.2 c1).2.1⟩, ⟨(k.2.2 c1).2.2.1, fun c2 => ⟨⟨(by decide), (by decide), ((k.2.2 c1).2.2.2.1 c2).1, ((k.2.2 c1).2.2.2.1 c2).2.1, (by decide), (by decide)⟩, ((k.2.2 c1).2.2.2.1 c2).2.2⟩, fun c2 => ⟨(by decide), ⟨⟨(by decide), ((k.2.2 c1).2.2.2.2 c2).1, ((k.2.2 c1).2.2.2.2 c2).2.1⟩, ⟨((k.2.2 c1).2.2.2.2 c2).2.2.1, fun c3 => ⟨⟨(by decide), (by decide), (((k.2.2 c1).2.2.2.2 c2).2.2.2.1 c3).1, (((k.2.2 c1).2.2.2.2 c2).2.2.2.1 c3).2.1, (by decide), (by decide)⟩, (((k.2.2 c1).2.2.2.2 c2).2.2.2.1 c3).2.2⟩, fun c3 => ⟨(by decide), ⟨⟨(by decide), (((k.2.2 c1).2.2.2.2 c2).2.2.2.2 c3).1, (((k.2.2 c1).2.2.2.2 c2).2.2.2.2 c3).2.1⟩, ⟨(((k.2.2 c1).2.2.2.2 c2).2.2.2.2 c3).2.2.1, fun c4 => ⟨⟨(by decide), (by decide), ((((k.2.2 c1).2.2.2.2 c2).2.2.2.2 c3).2.2.2.1 c4).1, ((((k.2.2 c1).2.2.2.2 c2).2.2.2.2 c3).2.2.2.1 c4).2.1, (by decide), (by decide)⟩, ((((k.2.2 c1).2.2.2.2 c2).2.2.2.2 c3).2.2.2.1 c4).2.2⟩, fun c4 => ⟨⟨(by decide), (by decide), ((((k.2.2 c1).2.2.2.2 c2).2.2.2.2 c3).2.2.2.2 c4).1, ((((k.2.2 c1).2.2.2.2 c2).2.2.2.2 c3).2.2.2.2 c4).2.1, (by decide), (by decide)⟩, ((((k.2.2 c1).2.2.2.2 c2).2.2.2.2 c3).2.2.2.2 c4).2.2⟩⟩⟩⟩⟩⟩⟩⟩⟩⟩⟩⟩)
theorem sg_Md_leans_0 {sc : Nat → Int} {ar : Nat → Nat → Int} {x1 x2 : Int} {Q : Option mV → mH → Prop} (k : Ev 1 M_Md_no (0, [some (vO 11), some (vI x1)], [], ((up sc 176 0), ar)) (fun r1 h1 => Ev 2 M_Md_leans (10, [some (vO 11), some (vI x1), some (vI x2)], mPush r1 [], h1) Q)) :
  Ev 2 M_Md_leans (0, [some (vO 11), some (vI x1), some (vI x2)], [], (sc, ar)) Q :=
  wq_ok 200 _ _ [(10, 3), (18, 3), (27, 3)] _ _ _ _ _ (show (cO 11 = 9) ∧ ((cO 11 = mK M_Md_no) ∧ (Ev 1 M_Md_no (0, [some (vO 11), some (vI x1)], [], ((up sc 176 0), ar)) (fun r1 h1 => Ev 2 M_Md_leans (10, [some (vO 11), some (vI x1), some (vI x2)], mPush r1 [], h1) Q))) from ⟨(by decide), ⟨(by decide), k⟩⟩)
theorem sg_Md_leans_10 {sc : Nat → Int} {ar : Nat → Nat → Int} {x1 x2 s0 : Int} {Q : Option mV → mH → Prop} (k : inR s0 ∧ 
  (s0 ≠ 0 → (Q (some (vI (-1))) (sc, ar))) ∧ 
  (¬ (s0 ≠ 0) → (Ev 1 M_Md_no (0, [some (vO 11), some (vI x2)], [], (sc, ar)) (fun r1 h1 => Ev 2 M_Md_leans (18, [some (vO 11), some (vI x1), some (vI x2)], mPush r1 [], h1) Q)))) :
  Ev 2 M_Md_leans (10, [some (vO 11), some (vI x1), some (vI x2)], [vI s0], (sc, ar)) Q :=
  wq_ok 200 _ _ [(10, 3), (18, 3), (27, 3)] _ _ _ _ _ (show (inR s0) ∧ (s0 ≠ 0 → (Q (some (vI (-1))) (sc, ar))) ∧ (¬ (s0 ≠ 0) → ((cO 11 = mK M_Md_no) ∧ (Ev 1 M_Md_no (0, [some (vO 11), some (vI x2)], [], (sc, ar)) (fun r1 h1 => Ev 2 M_Md_leans (18, [some (vO 11), some (vI x1), some (vI x2)], mPush r1 [], h1) Q)))) from ⟨k.1, fun c1 => (k.2.1 c1), fun c1 => ⟨(by decide), (k.2.2 c1)⟩⟩)
theorem sg_Md_leans_18 {sc : Nat → Int} {ar : Nat → Nat → Int} {x1 x2 s0 : Int} {Q : Option mV → mH → Prop} (k : inR s0 ∧ 
  (s0 = 0 → (Ev 1 M_Md_lean (0, [some (vO 11), none, none, none], [], (sc, ar)) (fun r1 h1 => Ev 2 M_Md_leans (27, [some (vO 11), some (vI x1), some (vI x2)], mPush r1 [], h1) Q))) ∧ 
  (¬ (s0 = 0) → (Q (some (vI (-1))) (sc, ar)))) :
  Ev 2 M_Md_leans (18, [some (vO 11), some (vI x1), some (vI x2)], [vI s0], (sc, ar)) Q :=
  wq_ok 200 _ _ [(10, 3), (18, 3), (27, 3)] _ _ _ _ _ (show (inR s0) ∧ (s0 = 0 → ((cO 11 = mK M_Md_lean) ∧ (Ev 1 M_Md_lean (0, [some (vO 11), none, none, none], [], (sc, ar)) (fun r1 h1 => Ev 2 M_Md_leans (27, [some (vO 11), some (vI x1), some (vI x2)], mPush r1 [], h1) Q)))) ∧ (¬ (s0 = 0) → (Q (some (vI (-1))) (sc, ar))) from ⟨k.1, fun c1 => ⟨(by decide), (k.2.1 c1)⟩, fun c1 => (k.2.2 c1)⟩)
theorem sg_Md_leans_27 {sc : Nat → Int} {ar : Nat → Nat → Int} {x1 x2 : Int} {Q : Option mV → mH → Prop} (k : (0 : Int) ≤ ((8 * x1) + x2) ∧ ((8 * x1) + x2) < (64 : Int) ∧ 
  (inR (ar 183 ((8 * x1) + x2).toNat) ∧ 
  ((ar 183 ((8 * x1) + x2).toNat) = 0 → (Q (some (vI 0)) (sc, ar))) ∧ 
  (¬ ((ar 183 ((8 * x1) + x2).toNat) = 0) → (Q (some (vI 1)) (sc, ar))))) :
  Ev 2 M_Md_leans (27, [some (vO 11), some (vI x1), some (vI x2)], [], (sc, ar)) Q :=
  wq_ok 200 _ _ [(10, 3), (18, 3), (27, 3)] _ _ _ _ _ (show (cO 11 = 9) ∧ ((aK 183 = 2 ∧ (0 : Int) ≤ ((8 * x1) + x2) ∧ ((8 * x1) + x2) < (64 : Int)) ∧ ((inR (ar 183 ((8 * x1) + x2).toNat)) ∧ ((ar 183 ((8 * x1) + x2).toNat) = 0 → (Q (some (vI 0)) (sc, ar))) ∧ (¬ ((ar 183 ((8 * x1) + x2).toNat) = 0) → (Q (some (vI 1)) (sc, ar))))) from ⟨(by decide), ⟨⟨(by decide), k.1, k.2.1⟩, ⟨k.2.2.1, fun c1 => (k.2.2.2.1 c1), fun c1 => (k.2.2.2.2 c1)⟩⟩⟩)
theorem sg_Md_isOne_0 {sc : Nat → Int} {ar : Nat → Nat → Int} {x1 x2 : Int} {Q : Option mV → mH → Prop} (k : inR x1 ∧ inR x2 ∧ 
  (x1 = x2 → (Q (some (vI 1)) (sc, ar))) ∧ 
  (¬ (x1 = x2) → ((0 : Int) ≤ ((8 * x1) + x2) ∧ ((8 * x1) + x2) < (64 : Int) ∧ 
    (inR (ar 183 ((8 * x1) + x2).toNat) ∧ 
    ((ar 183 ((8 * x1) + x2).toNat) = 0 → (Q (some (vI 0)) (sc, ar))) ∧ 
    (¬ ((ar 183 ((8 * x1) + x2).toNat) = 0) → ((0 : Int) ≤ ((8 * x2) + x1) ∧ ((8 * x2) + x1) < (64 : Int) ∧ 
      (inR (ar 183 ((8 * x2) + x1).toNat) ∧ 
      ((ar 183 ((8 * x2) + x1).toNat) = 0 → (Q (some (vI 0)) (sc, ar))) ∧ 
      (¬ ((ar 183 ((8 * x2) + x1).toNat) = 0) → (Q (some (vI 1)) (sc, ar)))))))))) :
  Ev 0 M_Md_isOne (0, [some (vO 11), some (vI x1), some (vI x2)], [], (sc, ar)) Q :=
  wq_ok 200 _ _ [] _ _ _ _ _ (show (inR x1 ∧ inR x2) ∧ (x1 = x2 → (((0 : Int) ≤ 1 ∧ (1 : Int) ≤ 1) ∧ (Q (some (vI 1)) (sc, ar)))) ∧ (¬ (x1 = x2) → ((cO 11 = 9) ∧ ((aK 183 = 2 ∧ (0 : Int) ≤ ((8 * x1) + x2) ∧ ((8 * x1) + x2) < (64 : Int)) ∧ ((inR (ar 183 ((8 * x1) + x2).toNat)) ∧ ((ar 183 ((8 * x1) + x2).toNat) = 0 → (((0 : Int) ≤ 0 ∧ (0 : Int) ≤ 1) ∧ (Q (some (vI 0)) (sc, ar)))) ∧ (¬ ((ar 183 ((8 * x1) + x2).toNat) = 0) → ((cO 11 = 9) ∧ ((aK 183 = 2 ∧ (0 : Int) ≤ ((8 * x2) + x1) ∧ ((8 * x2) + x1) < (64 : Int)) ∧ ((inR (ar 183 ((8 * x2) + x1).toNat)) ∧ ((ar 183 ((8 * x2) + x1).toNat) = 0 → (((0 : Int) ≤ 0 ∧ (0 : Int) ≤ 1) ∧ (Q (some (vI 0)) (sc, ar)))) ∧ (¬ ((ar 183 ((8 * x2) + x1).toNat) = 0) → (((0 : Int) ≤ 1 ∧ (1 : Int) ≤ 1) ∧ (Q (some (vI 1)) (sc, ar)))))))))))) from ⟨⟨k.1, k.2.1⟩, fun c1 => ⟨⟨(by decide), (by decide)⟩, (k.2.2.1 c1)⟩, fun c1 => ⟨(by decide), ⟨⟨(by decide), (k.2.2.2 c1).1, (k.2.2.2 c1).2.1⟩, ⟨(k.2.2.2 c1).2.2.1, fun c2 => ⟨⟨(by decide), (by decide)⟩, ((k.2.2.2 c1).2.2.2.1 c2)⟩, fun c2 => ⟨(by decide), ⟨⟨(by decide), ((k.2.2.2 c1).2.2.2.2 c2).1, ((k.2.2.2 c1).2.2.2.2 c2).2.1⟩, ⟨((k.2.2.2 c1).2.2.2.2 c2).2.2.1, fun c3 => ⟨⟨(by decide), (by decide)⟩, (((k.2.2.2 c1).2.2.2.2 c2).2.2.2.1 c3)⟩, fun c3 => ⟨⟨(by decide), (by decide)⟩, (((k.2.2.2 c1).2.2.2.2 c2).2.2.2.2 c3)⟩⟩⟩⟩⟩⟩⟩⟩)
theorem sg_Md_isNext_0 {sc : Nat → Int} {ar : Nat → Nat → Int} {x1 : Int} {Q : Option mV → mH → Prop} (k : Ev 1 M_Md_isNext (4, [some (vO 11), some (vI x1), some (vI 1), some (vI 0), none], [], (sc, ar)) Q) :
  Ev 1 M_Md_isNext (0, [some (vO 11), some (vI x1), none, none, none], [], (sc, ar)) Q :=
  wq_ok 200 _ _ [(4, 4), (15, 5), (34, 5), (44, 5)] _ _ _ _ _ (show Ev 1 M_Md_isNext (4, [some (vO 11), some (vI x1), some (vI 1), some (vI 0), none], [], (sc, ar)) Q from k)
theorem sg_Md_isNext_4 {sc : Nat → Int} {ar : Nat → Nat → Int} {x1 x2 x3 : Int} {Q : Option mV → mH → Prop} (k : inR x3 ∧ inR (sc 177) ∧ 
  ((sc 177) ≤ x3 → ((0 : Int) ≤ x2 ∧ (x2 : Int) ≤ 1 ∧ 
    (Q (some (vI x2)) (sc, ar)))) ∧ 
  (¬ ((sc 177) ≤ x3) → (Ev 1 M_Md_isNext (15, [some (vO 11), some (vI x1), some (vI x2), some (vI x3), some (vI 0)], [], (sc, ar)) Q))) :
  Ev 1 M_Md_isNext (4, [some (vO 11), some (vI x1), some (vI x2), some (vI x3), none], [], (sc, ar)) Q :=
  wq_ok 200 _ _ [(4, 4), (15, 5), (34, 5), (44, 5)] _ _ _ _ _ (show (cO 11 = 9) ∧ ((inR x3 ∧ inR (sc 177)) ∧ ((sc 177) ≤ x3 → (((0 : Int) ≤ x2 ∧ (x2 : Int) ≤ 1) ∧ (Q (some (vI x2)) (sc, ar)))) ∧ (¬ ((sc 177) ≤ x3) → (Ev 1 M_Md_isNext (15, [some (vO 11), some (vI x1), some (vI x2), some (vI x3), some (vI 0)], [], (sc, ar)) Q))) from ⟨(by decide), ⟨⟨k.1, k.2.1⟩, fun c1 => ⟨⟨(k.2.2.1 c1).1, (k.2.2.1 c1).2.1⟩, (k.2.2.1 c1).2.2⟩, fun c1 => (k.2.2.2 c1)⟩⟩)
theorem sg_Md_isNext_15 {sc : Nat → Int} {ar : Nat → Nat → Int} {x1 x2 x3 x4 : Int} {Q : Option mV → mH → Prop} (k : inR x4 ∧ inR (sc 177) ∧ 
  ((sc 177) ≤ x4 → (Ev 1 M_Md_isNext (4, [some (vO 11), some (vI x1), some (vI x2), some (vI (x3 + 1)), none], [], (sc, ar)) Q)) ∧ 
  (¬ ((sc 177) ≤ x4) → (inR x2 ∧ 
    (x2 = 0 → (Ev 1 M_Md_isNext (15, [some (vO 11), some (vI x1), some (vI 0), some (vI x3), some (vI (x4 + 1))], [], (sc, ar)) Q)) ∧ 
    (¬ (x2 = 0) → (Ev 0 M_Md_isOne (0, [some (vO 11), some (vI x1), some (vI x3)], [], (sc, ar)) (fun r1 h1 => Ev 1 M_Md_isNext (34, [some (vO 11), some (vI x1), some (vI x2), some (vI x3), some (vI x4)], mPush r1 [], h1) Q)))))) :
  Ev 1 M_Md_isNext (15, [some (vO 11), some (vI x1), some (vI x2), some (vI x3), some (vI x4)], [], (sc, ar)) Q :=
  wq_ok 200 _ _ [(4, 4), (15, 5), (34, 5), (44, 5)] _ _ _ _ _ (show (cO 11 = 9) ∧ ((inR x4 ∧ inR (sc 177)) ∧ ((sc 177) ≤ x4 → (Ev 1 M_Md_isNext (4, [some (vO 11), some (vI x1), some (vI x2), some (vI (x3 + 1)), none], [], (sc, ar)) Q)) ∧ (¬ ((sc 177) ≤ x4) → ((inR x2) ∧ (x2 = 0 → (Ev 1 M_Md_isNext (15, [some (vO 11), some (vI x1), some (vI 0), some (vI x3), some (vI (x4 + 1))], [], (sc, ar)) Q)) ∧ (¬ (x2 = 0) → ((cO 11 = mK M_Md_isOne) ∧ (Ev 0 M_Md_isOne (0, [some (vO 11), some (vI x1), some (vI x3)], [], (sc, ar)) (fun r1 h1 => Ev 1 M_Md_isNext (34, [some (vO 11), some (vI x1), some (vI x2), some (vI x3), some (vI x4)], mPush r1 [], h1) Q))))))) from ⟨(by decide), ⟨⟨k.1, k.2.1⟩, fun c1 => (k.2.2.1 c1), fun c1 => ⟨(k.2.2.2 c1).1, fun c2 => ((k.2.2.2 c1).2.1 c2), fun c2 => ⟨(by decide), ((k.2.2.2 c1).2.2 c2)⟩⟩⟩⟩)
theorem sg_Md_isNext_34 {sc : Nat → Int} {ar : Nat → Nat → Int} {x1 x2 x3 x4 s0 : Int} {Q : Option mV → mH → Prop} (k : inR s0 ∧ 
  (s0 = 0 → (Ev 1 M_Md_isNext (15, [some (vO 11), some (vI x1), some (vI 1), some (vI x3), some (vI (x4 + 1))], [], (sc, ar)) Q)) ∧ 
  (¬ (s0 = 0) → (Ev 0 M_Md_isOne (0, [some (vO 11), some (vI x1), some (vI x4)], [], (sc, ar)) (fun r1 h1 => Ev 1 M_Md_isNext (44, [some (vO 11), some (vI x1), some (vI x2), some (vI x3), some (vI x4)], mPush r1 [], h1) Q)))) :
  Ev 1 M_Md_isNext (34, [some (vO 11), some (vI x1), some (vI x2), some (vI x3), some (vI x4)], [vI s0], (sc, ar)) Q :=
  wq_ok 200 _ _ [(4, 4), (15, 5), (34, 5), (44, 5)] _ _ _ _ _ (show (inR s0) ∧ (s0 = 0 → (Ev 1 M_Md_isNext (15, [some (vO 11), some (vI x1), some (vI 1), some (vI x3), some (vI (x4 + 1))], [], (sc, ar)) Q)) ∧ (¬ (s0 = 0) → ((cO 11 = mK M_Md_isOne) ∧ (Ev 0 M_Md_isOne (0, [some (vO 11), some (vI x1), some (vI x4)], [], (sc, ar)) (fun r1 h1 => Ev 1 M_Md_isNext (44, [some (vO 11), some (vI x1), some (vI x2), some (vI x3), some (vI x4)], mPush r1 [], h1) Q)))) from ⟨k.1, fun c1 => (k.2.1 c1), fun c1 => ⟨(by decide), (k.2.2 c1)⟩⟩)
theorem sg_Md_isNext_44 {sc : Nat → Int} {ar : Nat → Nat → Int} {x1 x2 x3 x4 s0 : Int} {Q : Option mV → mH → Prop} (k : inR s0 ∧ 
  (s0 ≠ 0 → (Ev 1 M_Md_isNext (15, [some (vO 11), some (vI x1), some (vI 1), some (vI x3), some (vI (x4 + 1))], [], (sc, ar)) Q)) ∧ 
  (¬ (s0 ≠ 0) → ((0 : Int) ≤ x4 ∧ x4 < (8 : Int) ∧ 
    (inR (ar 184 x4.toNat) ∧ 
    ((ar 184 x4.toNat) ≠ (-9) → (Ev 1 M_Md_isNext (15, [some (vO 11), some (vI x1), some (vI 1), some (vI x3), some (vI (x4 + 1))], [], (sc, ar)) Q)) ∧ 
    (¬ ((ar 184 x4.toNat) ≠ (-9)) → ((0 : Int) ≤ ((8 * x3) + x4) ∧ ((8 * x3) + x4) < (64 : Int) ∧ 
      (inR (ar 179 ((8 * x3) + x4).toNat) ∧ 
      (0 < (ar 179 ((8 * x3) + x4).toNat) → (Ev 1 M_Md_isNext (15, [some (vO 11), some (vI x1), some (vI 0), some (vI x3), some (vI (x4 + 1))], [], (sc, ar)) Q)) ∧ 
      (¬ (0 < (ar 179 ((8 * x3) + x4).toNat)) → (Ev 1 M_Md_isNext (15, [some (vO 11), some (vI x1), some (vI 1), some (vI x3), some (vI (x4 + 1))], [], (sc, ar)) Q))))))))) :
  Ev 1 M_Md_isNext (44, [some (vO 11), some (vI x1), some (vI x2), some (vI x3), some (vI x4)], [vI s0], (sc, ar)) Q :=
  wq_ok 200 _ _ [(4, 4), (15, 5), (34, 5), (44, 5)] _ _ _ _ _ (show (inR s0) ∧ (s0 ≠ 0 → (Ev 1 M_Md_isNext (15, [some (vO 11), some (vI x1), some (vI 1), some (vI x3), some (vI (x4 + 1))], [], (sc, ar)) Q)) ∧ (¬ (s0 ≠ 0) → ((cO 11 = 9) ∧ ((aK 184 = 0 ∧ (0 : Int) ≤ x4 ∧ x4 < (8 : Int)) ∧ ((inR (ar 184 x4.toNat) ∧ inR (-9)) ∧ ((ar 184 x4.toNat) ≠ (-9) → (Ev 1 M_Md_isNext (15, [some (vO 11), some (vI x1), some (vI 1), some (vI x3), some (vI (x4 + 1))], [], (sc, ar)) Q)) ∧ (¬ ((ar 184 x4.toNat) ≠ (-9)) → ((cO 11 = 9) ∧ ((aK 179 = 0 ∧ (0 : Int) ≤ ((8 * x3) + x4) ∧ ((8 * x3) + x4) < (64 : Int)) ∧ ((inR (ar 179 ((8 * x3) + x4).toNat)) ∧ (0 < (ar 179 ((8 * x3) + x4).toNat) → (Ev 1 M_Md_isNext (15, [some (vO 11), some (vI x1), some (vI 0), some (vI x3), some (vI (x4 + 1))], [], (sc, ar)) Q)) ∧ (¬ (0 < (ar 179 ((8 * x3) + x4).toNat)) → (Ev 1 M_Md_isNext (15, [some (vO 11), some (vI x1), some (vI 1), some (vI x3), some (vI (x4 + 1))], [], (sc, ar)) Q)))))))))) from ⟨k.1, fun c1 => (k.2.1 c1), fun c1 => ⟨(by decide), ⟨⟨(by decide), (k.2.2 c1).1, (k.2.2 c1).2.1⟩, ⟨⟨(k.2.2 c1).2.2.1, (by decide)⟩, fun c2 => ((k.2.2 c1).2.2.2.1 c2), fun c2 => ⟨(by decide), ⟨⟨(by decide), ((k.2.2 c1).2.2.2.2 c2).1, ((k.2.2 c1).2.2.2.2 c2).2.1⟩, ⟨((k.2.2 c1).2.2.2.2 c2).2.2.1, fun c3 => (((k.2.2 c1).2.2.2.2 c2).2.2.2.1 c3), fun c3 => (((k.2.2 c1).2.2.2.2 c2).2.2.2.2 c3)⟩⟩⟩⟩⟩⟩⟩)
theorem sg_Md_numbered_0 {sc : Nat → Int} {ar : Nat → Nat → Int} {Q : Option mV → mH → Prop} (k : Ev 1 M_Md_lean (0, [some (vO 11), none, none, none], [], (sc, ar)) (fun r1 h1 => Ev 2 M_Md_numbered (4, [some (vO 11), none, none, none, none], mPush r1 [], h1) Q)) :
  Ev 2 M_Md_numbered (0, [some (vO 11), none, none, none, none], [], (sc, ar)) Q :=
  wq_ok 200 _ _ [(4, 1), (6, 2), (30, 3), (49, 5), (72, 5), (97, 5), (119, 5)] _ _ _ _ _ (show (cO 11 = mK M_Md_lean) ∧ (Ev 1 M_Md_lean (0, [some (vO 11), none, none, none], [], (sc, ar)) (fun r1 h1 => Ev 2 M_Md_numbered (4, [some (vO 11), none, none, none, none], mPush r1 [], h1) Q)) from ⟨(by decide), k⟩)
theorem sg_Md_numbered_4 {sc : Nat → Int} {ar : Nat → Nat → Int} {Q : Option mV → mH → Prop} (k : Ev 2 M_Md_numbered (6, [some (vO 11), some (vI 0), none, none, none], [], (sc, ar)) Q) :
  Ev 2 M_Md_numbered (4, [some (vO 11), none, none, none, none], [], (sc, ar)) Q :=
  wq_ok 200 _ _ [(4, 1), (6, 2), (30, 3), (49, 5), (72, 5), (97, 5), (119, 5)] _ _ _ _ _ (show Ev 2 M_Md_numbered (6, [some (vO 11), some (vI 0), none, none, none], [], (sc, ar)) Q from k)
theorem sg_Md_numbered_6 {sc : Nat → Int} {ar : Nat → Nat → Int} {x1 : Int} {Q : Option mV → mH → Prop} (k : inR x1 ∧ 
  (8 ≤ x1 → (Ev 2 M_Md_numbered (30, [some (vO 11), some (vI 0), some (vI 0), none, none], [], (sc, ar)) Q)) ∧ 
  (¬ (8 ≤ x1) → ((0 : Int) ≤ x1 ∧ x1 < (8 : Int) ∧ 
    (Ev 2 M_Md_numbered (6, [some (vO 11), some (vI (x1 + 1)), none, none, none], [], (sc, (up ar 184 (up (ar 184) x1.toNat (-9))))) Q)))) :
  Ev 2 M_Md_numbered (6, [some (vO 11), some (vI x1), none, none, none], [], (sc, ar)) Q :=
  wq_ok 200 _ _ [(4, 1), (6, 2), (30, 3), (49, 5), (72, 5), (97, 5), (119, 5)] _ _ _ _ _ (show (inR x1 ∧ inR 8) ∧ (8 ≤ x1 → (Ev 2 M_Md_numbered (30, [some (vO 11), some (vI 0), some (vI 0), none, none], [], (sc, ar)) Q)) ∧ (¬ (8 ≤ x1) → ((cO 11 = 9) ∧ ((aK 184 = 0 ∧ 184 ≠ 999 ∧ (0 : Int) ≤ x1 ∧ x1 < (8 : Int)) ∧ (Ev 2 M_Md_numbered (6, [some (vO 11), some (vI (x1 + 1)), none, none, none], [], (sc, (up ar 184 (up (ar 184) x1.toNat (-9))))) Q)))) from ⟨⟨k.1, (by decide)⟩, fun c1 => (k.2.1 c1), fun c1 => ⟨(by decide), ⟨⟨(by decide), (by decide), (k.2.2 c1).1, (k.2.2 c1).2.1⟩, (k.2.2 c1).2.2⟩⟩⟩)
theorem sg_Md_numbered_30 {sc : Nat → Int} {ar : Nat → Nat → Int} {x1 x2 : Int} {Q : Option mV → mH → Prop} (k : inR x2 ∧ inR (sc 177) ∧ 
  ((sc 177) ≤ x2 → (Q (some (vI x1)) (sc, ar))) ∧ 
  (¬ ((sc 177) ≤ x2) → (Ev 2 M_Md_numbered (49, [some (vO 11), some (vI x1), some (vI x2), some (vI (-9)), some (vI ((sc 177) - 1))], [], (sc, ar)) Q))) :
  Ev 2 M_Md_numbered (30, [some (vO 11), some (vI x1), some (vI x2), none, none], [], (sc, ar)) Q :=
  wq_ok 200 _ _ [(4, 1), (6, 2), (30, 3), (49, 5), (72, 5), (97, 5), (119, 5)] _ _ _ _ _ (show (cO 11 = 9) ∧ ((inR x2 ∧ inR (sc 177)) ∧ ((sc 177) ≤ x2 → (Q (some (vI x1)) (sc, ar))) ∧ (¬ ((sc 177) ≤ x2) → ((cO 11 = 9) ∧ (Ev 2 M_Md_numbered (49, [some (vO 11), some (vI x1), some (vI x2), some (vI (-9)), some (vI ((sc 177) - 1))], [], (sc, ar)) Q)))) from ⟨(by decide), ⟨⟨k.1, k.2.1⟩, fun c1 => (k.2.2.1 c1), fun c1 => ⟨(by decide), (k.2.2.2 c1)⟩⟩⟩)
theorem sg_Md_numbered_49 {sc : Nat → Int} {ar : Nat → Nat → Int} {x1 x2 x3 x4 : Int} {Q : Option mV → mH → Prop} (k : inR x4 ∧ 
  (x4 < 0 → (inR x3 ∧ 
    (x3 = (-9) → (Ev 2 M_Md_numbered (30, [some (vO 11), some (vI x1), some (vI (x2 + 1)), none, none], [], (sc, ar)) Q)) ∧ 
    (¬ (x3 = (-9)) → (Ev 2 M_Md_numbered (97, [some (vO 11), some (vI x1), some (vI x2), some (vI x3), some (vI 0)], [], (sc, ar)) Q)))) ∧ 
  (¬ (x4 < 0) → ((0 : Int) ≤ x4 ∧ x4 < (8 : Int) ∧ 
    (inR (ar 184 x4.toNat) ∧ 
    ((ar 184 x4.toNat) ≠ (-9) → (Ev 2 M_Md_numbered (49, [some (vO 11), some (vI x1), some (vI x2), some (vI x3), some (vI (x4 + (-1)))], [], (sc, ar)) Q)) ∧ 
    (¬ ((ar 184 x4.toNat) ≠ (-9)) → (Ev 1 M_Md_isNext (0, [some (vO 11), some (vI x4), none, none, none], [], (sc, ar)) (fun r1 h1 => Ev 2 M_Md_numbered (72, [some (vO 11), some (vI x1), some (vI x2), some (vI x3), some (vI x4)], mPush r1 [], h1) Q))))))) :
  Ev 2 M_Md_numbered (49, [some (vO 11), some (vI x1), some (vI x2), some (vI x3), some (vI x4)], [], (sc, ar)) Q :=
  wq_ok 200 _ _ [(4, 1), (6, 2), (30, 3), (49, 5), (72, 5), (97, 5), (119, 5)] _ _ _ _ _ (show (inR x4) ∧ (x4 < 0 → ((inR x3 ∧ inR (-9)) ∧ (x3 = (-9) → (Ev 2 M_Md_numbered (30, [some (vO 11), some (vI x1), some (vI (x2 + 1)), none, none], [], (sc, ar)) Q)) ∧ (¬ (x3 = (-9)) → (Ev 2 M_Md_numbered (97, [some (vO 11), some (vI x1), some (vI x2), some (vI x3), some (vI 0)], [], (sc, ar)) Q)))) ∧ (¬ (x4 < 0) → ((cO 11 = 9) ∧ ((aK 184 = 0 ∧ (0 : Int) ≤ x4 ∧ x4 < (8 : Int)) ∧ ((inR (ar 184 x4.toNat) ∧ inR (-9)) ∧ ((ar 184 x4.toNat) ≠ (-9) → (Ev 2 M_Md_numbered (49, [some (vO 11), some (vI x1), some (vI x2), some (vI x3), some (vI (x4 + (-1)))], [], (sc, ar)) Q)) ∧ (¬ ((ar 184 x4.toNat) ≠ (-9)) → ((cO 11 = mK M_Md_isNext) ∧ (Ev 1 M_Md_isNext (0, [some (vO 11), some (vI x4), none, none, none], [], (sc, ar)) (fun r1 h1 => Ev 2 M_Md_numbered (72, [some (vO 11), some (vI x1), some (vI x2), some (vI x3), some (vI x4)], mPush r1 [], h1) Q)))))))) from ⟨k.1, fun c1 => ⟨⟨(k.2.1 c1).1, (by decide)⟩, fun c2 => ((k.2.1 c1).2.1 c2), fun c2 => ((k.2.1 c1).2.2 c2)⟩, fun c1 => ⟨(by decide), ⟨⟨(by decide), (k.2.2 c1).1, (k.2.2 c1).2.1⟩, ⟨⟨(k.2.2 c1).2.2.1, (by decide)⟩, fun c3 => ((k.2.2 c1).2.2.2.1 c3), fun c3 => ⟨(by decide), ((k.2.2 c1).2.2.2.2 c3)⟩⟩⟩⟩⟩)
theorem sg_Md_numbered_72 {sc : Nat → Int} {ar : Nat → Nat → Int} {x1 x2 x3 x4 s0 : Int} {Q : Option mV → mH → Prop} (k : inR s0 ∧ 
  (s0 = 0 → (Ev 2 M_Md_numbered (49, [some (vO 11), some (vI x1), some (vI x2), some (vI x3), some (vI (x4 + (-1)))], [], (sc, ar)) Q)) ∧ 
  (¬ (s0 = 0) → (Ev 2 M_Md_numbered (49, [some (vO 11), some (vI x1), some (vI x2), some (vI x4), some (vI (x4 + (-1)))], [], (sc, ar)) Q))) :
  Ev 2 M_Md_numbered (72, [some (vO 11), some (vI x1), some (vI x2), some (vI x3), some (vI x4)], [vI s0], (sc, ar)) Q :=
  wq_ok 200 _ _ [(4, 1), (6, 2), (30, 3), (49, 5), (72, 5), (97, 5), (119, 5)] _ _ _ _ _ (show (inR s0) ∧ (s0 = 0 → (Ev 2 M_Md_numbered (49, [some (vO 11), some (vI x1), some (vI x2), some (vI x3), some (vI (x4 + (-1)))], [], (sc, ar)) Q)) ∧ (¬ (s0 = 0) → (Ev 2 M_Md_numbered (49, [some (vO 11), some (vI x1), some (vI x2), some (vI x4), some (vI (x4 + (-1)))], [], (sc, ar)) Q)) from ⟨k.1, fun c1 => (k.2.1 c1), fun c1 => (k.2.2 c1)⟩)
theorem sg_Md_numbered_97 {sc : Nat → Int} {ar : Nat → Nat → Int} {x1 x2 x3 x4 : Int} {Q : Option mV → mH → Prop} (k : inR x4 ∧ inR (sc 177) ∧ 
  ((sc 177) ≤ x4 → (Ev 2 M_Md_numbered (30, [some (vO 11), some (vI (x1 + 1)), some (vI (x2 + 1)), none, none], [], (sc, ar)) Q)) ∧ 
  (¬ ((sc 177) ≤ x4) → (Ev 1 M_Md_isOne (0, [some (vO 11), some (vI x3), some (vI x4)], [], (sc, ar)) (fun r1 h1 => Ev 2 M_Md_numbered (119, [some (vO 11), some (vI x1), some (vI x2), some (vI x3), some (vI x4)], mPush r1 [vI x4, vA 184], h1) Q)))) :
  Ev 2 M_Md_numbered (97, [some (vO 11), some (vI x1), some (vI x2), some (vI x3), some (vI x4)], [], (sc, ar)) Q :=
  wq_ok 200 _ _ [(4, 1), (6, 2), (30, 3), (49, 5), (72, 5), (97, 5), (119, 5)] _ _ _ _ _ (show (cO 11 = 9) ∧ ((inR x4 ∧ inR (sc 177)) ∧ ((sc 177) ≤ x4 → (Ev 2 M_Md_numbered (30, [some (vO 11), some (vI (x1 + 1)), some (vI (x2 + 1)), none, none], [], (sc, ar)) Q)) ∧ (¬ ((sc 177) ≤ x4) → ((cO 11 = 9) ∧ ((cO 11 = mK M_Md_isOne) ∧ (Ev 1 M_Md_isOne (0, [some (vO 11), some (vI x3), some (vI x4)], [], (sc, ar)) (fun r1 h1 => Ev 2 M_Md_numbered (119, [some (vO 11), some (vI x1), some (vI x2), some (vI x3), some (vI x4)], mPush r1 [vI x4, vA 184], h1) Q)))))) from ⟨(by decide), ⟨⟨k.1, k.2.1⟩, fun c1 => (k.2.2.1 c1), fun c1 => ⟨(by decide), ⟨(by decide), (k.2.2.2 c1)⟩⟩⟩⟩)
theorem sg_Md_numbered_119 {sc : Nat → Int} {ar : Nat → Nat → Int} {x1 x2 x3 x4 s0 s1 : Int} {Q : Option mV → mH → Prop} (k : inR s0 ∧ 
  (s0 = 0 → ((0 : Int) ≤ x4 ∧ x4 < (8 : Int) ∧ 
    ((0 : Int) ≤ s1 ∧ s1 < (8 : Int) ∧ 
    (Ev 2 M_Md_numbered (97, [some (vO 11), some (vI x1), some (vI x2), some (vI x3), some (vI (x4 + 1))], [], (sc, (up ar 184 (up (ar 184) s1.toNat (ar 184 x4.toNat))))) Q)))) ∧ 
  (¬ (s0 = 0) → ((0 : Int) ≤ s1 ∧ s1 < (8 : Int) ∧ 
    (Ev 2 M_Md_numbered (97, [some (vO 11), some (vI x1), some (vI x2), some (vI x3), some (vI (x4 + 1))], [], (sc, (up ar 184 (up (ar 184) s1.toNat x1)))) Q)))) :
  Ev 2 M_Md_numbered (119, [some (vO 11), some (vI x1), some (vI x2), some (vI x3), some (vI x4)], [vI s0, vI s1, vA 184], (sc, ar)) Q :=
  wq_ok 200 _ _ [(4, 1), (6, 2), (30, 3), (49, 5), (72, 5), (97, 5), (119, 5)] _ _ _ _ _ (show (inR s0) ∧ (s0 = 0 → ((cO 11 = 9) ∧ ((aK 184 = 0 ∧ (0 : Int) ≤ x4 ∧ x4 < (8 : Int)) ∧ ((aK 184 = 0 ∧ 184 ≠ 999 ∧ (0 : Int) ≤ s1 ∧ s1 < (8 : Int)) ∧ (Ev 2 M_Md_numbered (97, [some (vO 11), some (vI x1), some (vI x2), some (vI x3), some (vI (x4 + 1))], [], (sc, (up ar 184 (up (ar 184) s1.toNat (ar 184 x4.toNat))))) Q))))) ∧ (¬ (s0 = 0) → ((aK 184 = 0 ∧ 184 ≠ 999 ∧ (0 : Int) ≤ s1 ∧ s1 < (8 : Int)) ∧ (Ev 2 M_Md_numbered (97, [some (vO 11), some (vI x1), some (vI x2), some (vI x3), some (vI (x4 + 1))], [], (sc, (up ar 184 (up (ar 184) s1.toNat x1)))) Q))) from ⟨k.1, fun c1 => ⟨(by decide), ⟨⟨(by decide), (k.2.1 c1).1, (k.2.1 c1).2.1⟩, ⟨⟨(by decide), (by decide), (k.2.1 c1).2.2.1, (k.2.1 c1).2.2.2.1⟩, (k.2.1 c1).2.2.2.2⟩⟩⟩, fun c1 => ⟨⟨(by decide), (by decide), (k.2.2 c1).1, (k.2.2 c1).2.1⟩, (k.2.2 c1).2.2⟩⟩)
theorem sg_Md_blocks_0 {sc : Nat → Int} {ar : Nat → Nat → Int} {Q : Option mV → mH → Prop} (k : Ev 2 M_Md_numbered (0, [some (vO 11), none, none, none, none], [], ((up sc 176 0), ar)) (fun r1 h1 => Ev 3 M_Md_blocks (9, [some (vO 11)], mPush r1 [], h1) Q)) :
  Ev 3 M_Md_blocks (0, [some (vO 11)], [], (sc, ar)) Q :=
  wq_ok 200 _ _ [(9, 1)] _ _ _ _ _ (show (cO 11 = 9) ∧ ((cO 11 = mK M_Md_numbered) ∧ (Ev 2 M_Md_numbered (0, [some (vO 11), none, none, none, none], [], ((up sc 176 0), ar)) (fun r1 h1 => Ev 3 M_Md_blocks (9, [some (vO 11)], mPush r1 [], h1) Q))) from ⟨(by decide), ⟨(by decide), k⟩⟩)
theorem sg_Md_blocks_9 {sc : Nat → Int} {ar : Nat → Nat → Int} {s0 : Int} {Q : Option mV → mH → Prop} (k : Q (some (vI s0)) (sc, ar)) :
  Ev 3 M_Md_blocks (9, [some (vO 11)], [vI s0], (sc, ar)) Q :=
  wq_ok 200 _ _ [(9, 1)] _ _ _ _ _ (show Q (some (vI s0)) (sc, ar) from k)
theorem sg_Md_block_0 {sc : Nat → Int} {ar : Nat → Nat → Int} {x1 : Int} {Q : Option mV → mH → Prop} (k : Ev 2 M_Md_no (0, [some (vO 11), some (vI x1)], [], ((up sc 176 0), ar)) (fun r1 h1 => Ev 3 M_Md_block (10, [some (vO 11), some (vI x1)], mPush r1 [], h1) Q)) :
  Ev 3 M_Md_block (0, [some (vO 11), some (vI x1)], [], (sc, ar)) Q :=
  wq_ok 200 _ _ [(10, 2), (19, 2)] _ _ _ _ _ (show (cO 11 = 9) ∧ ((cO 11 = mK M_Md_no) ∧ (Ev 2 M_Md_no (0, [some (vO 11), some (vI x1)], [], ((up sc 176 0), ar)) (fun r1 h1 => Ev 3 M_Md_block (10, [some (vO 11), some (vI x1)], mPush r1 [], h1) Q))) from ⟨(by decide), ⟨(by decide), k⟩⟩)
theorem sg_Md_block_10 {sc : Nat → Int} {ar : Nat → Nat → Int} {x1 s0 : Int} {Q : Option mV → mH → Prop} (k : inR s0 ∧ 
  (s0 = 0 → (Ev 2 M_Md_numbered (0, [some (vO 11), none, none, none, none], [], (sc, ar)) (fun r1 h1 => Ev 3 M_Md_block (19, [some (vO 11), some (vI x1)], mPush r1 [], h1) Q))) ∧ 
  (¬ (s0 = 0) → (Q (some (vI (-1))) (sc, ar)))) :
  Ev 3 M_Md_block (10, [some (vO 11), some (vI x1)], [vI s0], (sc, ar)) Q :=
  wq_ok 200 _ _ [(10, 2), (19, 2)] _ _ _ _ _ (show (inR s0) ∧ (s0 = 0 → ((cO 11 = mK M_Md_numbered) ∧ (Ev 2 M_Md_numbered (0, [some (vO 11), none, none, none, none], [], (sc, ar)) (fun r1 h1 => Ev 3 M_Md_block (19, [some (vO 11), some (vI x1)], mPush r1 [], h1) Q)))) ∧ (¬ (s0 = 0) → (Q (some (vI (-1))) (sc, ar))) from ⟨k.1, fun c1 => ⟨(by decide), (k.2.1 c1)⟩, fun c1 => (k.2.2 c1)⟩)
theorem sg_Md_block_19 {sc : Nat → Int} {ar : Nat → Nat → Int} {x1 s0 : Int} {Q : Option mV → mH → Prop} (k : (0 : Int) ≤ x1 ∧ x1 < (8 : Int) ∧ 
  (Q (some (vI (ar 184 x1.toNat))) (sc, ar))) :
  Ev 3 M_Md_block (19, [some (vO 11), some (vI x1)], [vI s0], (sc, ar)) Q :=
  wq_ok 200 _ _ [(10, 2), (19, 2)] _ _ _ _ _ (show (cO 11 = 9) ∧ ((aK 184 = 0 ∧ (0 : Int) ≤ x1 ∧ x1 < (8 : Int)) ∧ (Q (some (vI (ar 184 x1.toNat))) (sc, ar))) from ⟨(by decide), ⟨⟨(by decide), k.1, k.2.1⟩, k.2.2⟩⟩)
theorem sg_Md_guessed_0 {sc : Nat → Int} {ar : Nat → Nat → Int} {x1 x2 : Int} {Q : Option mV → mH → Prop} (k : Ev 0 M_Md_guessed (5, [some (vO 11), some (vI x1), some (vI x2), some (vI 0), some (vI 0)], [], (sc, ar)) Q) :
  Ev 0 M_Md_guessed (0, [some (vO 11), some (vI x1), some (vI x2), none, none], [], (sc, ar)) Q :=
  wq_ok 200 _ _ [(5, 5)] _ _ _ _ _ (show Ev 0 M_Md_guessed (5, [some (vO 11), some (vI x1), some (vI x2), some (vI 0), some (vI 0)], [], (sc, ar)) Q from k)
theorem sg_Md_guessed_5 {sc : Nat → Int} {ar : Nat → Nat → Int} {x1 x2 x3 x4 : Int} {Q : Option mV → mH → Prop} (k : inR x4 ∧ inR (sc 177) ∧ 
  ((sc 177) ≤ x4 → (Q (some (vI x3)) (sc, ar))) ∧ 
  (¬ ((sc 177) ≤ x4) → (inR (bAnd (bShr x2 x4) 1) ∧ 
    ((bAnd (bShr x2 x4) 1) ≠ 0 → (Ev 0 M_Md_guessed (5, [some (vO 11), some (vI x1), some (vI x2), some (vI (x3 + 0)), some (vI (x4 + 1))], [], (sc, ar)) Q)) ∧ 
    (¬ ((bAnd (bShr x2 x4) 1) ≠ 0) → (inR x4 ∧ inR x1 ∧ 
      (x4 = x1 → (Ev 0 M_Md_guessed (5, [some (vO 11), some (vI x1), some (vI x2), some (vI (x3 + 0)), some (vI (x4 + 1))], [], (sc, ar)) Q)) ∧ 
      (¬ (x4 = x1) → ((0 : Int) ≤ ((8 * x1) + x4) ∧ ((8 * x1) + x4) < (64 : Int) ∧ 
        (Ev 0 M_Md_guessed (5, [some (vO 11), some (vI x1), some (vI x2), some (vI (x3 + (ar 179 ((8 * x1) + x4).toNat))), some (vI (x4 + 1))], [], (sc, ar)) Q)))))))) :
  Ev 0 M_Md_guessed (5, [some (vO 11), some (vI x1), some (vI x2), some (vI x3), some (vI x4)], [], (sc, ar)) Q :=
  wq_ok 200 _ _ [(5, 5)] _ _ _ _ _ (show (cO 11 = 9) ∧ ((inR x4 ∧ inR (sc 177)) ∧ ((sc 177) ≤ x4 → (Q (some (vI x3)) (sc, ar))) ∧ (¬ ((sc 177) ≤ x4) → ((inR (bAnd (bShr x2 x4) 1)) ∧ ((bAnd (bShr x2 x4) 1) ≠ 0 → (Ev 0 M_Md_guessed (5, [some (vO 11), some (vI x1), some (vI x2), some (vI (x3 + 0)), some (vI (x4 + 1))], [], (sc, ar)) Q)) ∧ (¬ ((bAnd (bShr x2 x4) 1) ≠ 0) → ((inR x4 ∧ inR x1) ∧ (x4 = x1 → (Ev 0 M_Md_guessed (5, [some (vO 11), some (vI x1), some (vI x2), some (vI (x3 + 0)), some (vI (x4 + 1))], [], (sc, ar)) Q)) ∧ (¬ (x4 = x1) → ((cO 11 = 9) ∧ ((aK 179 = 0 ∧ (0 : Int) ≤ ((8 * x1) + x4) ∧ ((8 * x1) + x4) < (64 : Int)) ∧ (Ev 0 M_Md_guessed (5, [some (vO 11), some (vI x1), some (vI x2), some (vI (x3 + (ar 179 ((8 * x1) + x4).toNat))), some (vI (x4 + 1))], [], (sc, ar)) Q))))))))) from ⟨(by decide), ⟨⟨k.1, k.2.1⟩, fun c1 => (k.2.2.1 c1), fun c1 => ⟨(k.2.2.2 c1).1, fun c2 => ((k.2.2.2 c1).2.1 c2), fun c2 => ⟨⟨((k.2.2.2 c1).2.2 c2).1, ((k.2.2.2 c1).2.2 c2).2.1⟩, fun c3 => (((k.2.2.2 c1).2.2 c2).2.2.1 c3), fun c3 => ⟨(by decide), ⟨⟨(by decide), (((k.2.2.2 c1).2.2 c2).2.2.2 c3).1, (((k.2.2.2 c1).2.2 c2).2.2.2 c3).2.1⟩, (((k.2.2.2 c1).2.2 c2).2.2.2 c3).2.2⟩⟩⟩⟩⟩⟩)
theorem sg_Md_leastOf_0 {sc : Nat → Int} {ar : Nat → Nat → Int} {Q : Option mV → mH → Prop} (k : Ev 1 M_Md_leastOf (11, [some (vO 11), some (vI ((bShl 1 (sc 177)) - 1)), some (vI ((bShl 1 (sc 177)) - 1)), none, none], [], (sc, ar)) Q) :
  Ev 1 M_Md_leastOf (0, [some (vO 11), none, none, none, none], [], (sc, ar)) Q :=
  wq_ok 200 _ _ [(11, 3), (34, 4), (56, 4)] _ _ _ _ _ (show (cO 11 = 9) ∧ (Ev 1 M_Md_leastOf (11, [some (vO 11), some (vI ((bShl 1 (sc 177)) - 1)), some (vI ((bShl 1 (sc 177)) - 1)), none, none], [], (sc, ar)) Q) from ⟨(by decide), k⟩)
theorem sg_Md_leastOf_11 {sc : Nat → Int} {ar : Nat → Nat → Int} {x1 x2 : Int} {Q : Option mV → mH → Prop} (k : inR x2 ∧ 
  (x2 < 0 → (Q (some (vI (ar 182 (0 : Int).toNat))) (sc, ar))) ∧ 
  (¬ (x2 < 0) → (inR x2 ∧ inR x1 ∧ 
    (x2 ≠ x1 → ((0 : Int) ≤ x2 ∧ x2 < (256 : Int) ∧ 
      (Ev 1 M_Md_leastOf (34, [some (vO 11), some (vI x1), some (vI x2), some (vI 0), none], [], (sc, (up ar 182 (up (ar 182) x2.toNat (-9))))) Q))) ∧ 
    (¬ (x2 ≠ x1) → ((0 : Int) ≤ x2 ∧ x2 < (256 : Int) ∧ 
      (Ev 1 M_Md_leastOf (34, [some (vO 11), some (vI x1), some (vI x2), some (vI 0), none], [], (sc, (up ar 182 (up (ar 182) x2.toNat 0)))) Q)))))) :
  Ev 1 M_Md_leastOf (11, [some (vO 11), some (vI x1), some (vI x2), none, none], [], (sc, ar)) Q :=
  wq_ok 200 _ _ [(11, 3), (34, 4), (56, 4)] _ _ _ _ _ (show (inR x2) ∧ (x2 < 0 → ((cO 11 = 9) ∧ ((aK 182 = 0 ∧ (0 : Int) ≤ 0 ∧ 0 < (256 : Int)) ∧ (Q (some (vI (ar 182 (0 : Int).toNat))) (sc, ar))))) ∧ (¬ (x2 < 0) → ((cO 11 = 9) ∧ ((inR x2 ∧ inR x1) ∧ (x2 ≠ x1 → ((aK 182 = 0 ∧ 182 ≠ 999 ∧ (0 : Int) ≤ x2 ∧ x2 < (256 : Int)) ∧ (Ev 1 M_Md_leastOf (34, [some (vO 11), some (vI x1), some (vI x2), some (vI 0), none], [], (sc, (up ar 182 (up (ar 182) x2.toNat (-9))))) Q))) ∧ (¬ (x2 ≠ x1) → ((aK 182 = 0 ∧ 182 ≠ 999 ∧ (0 : Int) ≤ x2 ∧ x2 < (256 : Int)) ∧ (Ev 1 M_Md_leastOf (34, [some (vO 11), some (vI x1), some (vI x2), some (vI 0), none], [], (sc, (up ar 182 (up (ar 182) x2.toNat 0)))) Q)))))) from ⟨k.1, fun c1 => ⟨(by decide), ⟨⟨(by decide), (by decide), (by decide)⟩, (k.2.1 c1)⟩⟩, fun c1 => ⟨(by decide), ⟨⟨(k.2.2 c1).1, (k.2.2 c1).2.1⟩, fun c2 => ⟨⟨(by decide), (by decide), ((k.2.2 c1).2.2.1 c2).1, ((k.2.2 c1).2.2.1 c2).2.1⟩, ((k.2.2 c1).2.2.1 c2).2.2⟩, fun c2 => ⟨⟨(by decide), (by decide), ((k.2.2 c1).2.2.2 c2).1, ((k.2.2 c1).2.2.2 c2).2.1⟩, ((k.2.2 c1).2.2.2 c2).2.2⟩⟩⟩⟩)
theorem sg_Md_leastOf_34 {sc : Nat → Int} {ar : Nat → Nat → Int} {x1 x2 x3 : Int} {Q : Option mV → mH → Prop} (k : inR x3 ∧ inR (sc 177) ∧ 
  ((sc 177) ≤ x3 → (Ev 1 M_Md_leastOf (11, [some (vO 11), some (vI x1), some (vI (x2 + (-1))), none, none], [], (sc, ar)) Q)) ∧ 
  (¬ ((sc 177) ≤ x3) → (inR (bAnd (bShr x2 x3) 1) ∧ 
    ((bAnd (bShr x2 x3) 1) ≠ 0 → (Ev 1 M_Md_leastOf (34, [some (vO 11), some (vI x1), some (vI x2), some (vI (x3 + 1)), none], [], (sc, ar)) Q)) ∧ 
    (¬ ((bAnd (bShr x2 x3) 1) ≠ 0) → (Ev 0 M_Md_guessed (0, [some (vO 11), some (vI x3), some (vI x2), none, none], [], (sc, ar)) (fun r1 h1 => Ev 1 M_Md_leastOf (56, [some (vO 11), some (vI x1), some (vI x2), some (vI x3), none], mPush r1 [], h1) Q)))))) :
  Ev 1 M_Md_leastOf (34, [some (vO 11), some (vI x1), some (vI x2), some (vI x3), none], [], (sc, ar)) Q :=
  wq_ok 200 _ _ [(11, 3), (34, 4), (56, 4)] _ _ _ _ _ (show (cO 11 = 9) ∧ ((inR x3 ∧ inR (sc 177)) ∧ ((sc 177) ≤ x3 → (Ev 1 M_Md_leastOf (11, [some (vO 11), some (vI x1), some (vI (x2 + (-1))), none, none], [], (sc, ar)) Q)) ∧ (¬ ((sc 177) ≤ x3) → ((inR (bAnd (bShr x2 x3) 1)) ∧ ((bAnd (bShr x2 x3) 1) ≠ 0 → (Ev 1 M_Md_leastOf (34, [some (vO 11), some (vI x1), some (vI x2), some (vI (x3 + 1)), none], [], (sc, ar)) Q)) ∧ (¬ ((bAnd (bShr x2 x3) 1) ≠ 0) → ((cO 11 = mK M_Md_guessed) ∧ (Ev 0 M_Md_guessed (0, [some (vO 11), some (vI x3), some (vI x2), none, none], [], (sc, ar)) (fun r1 h1 => Ev 1 M_Md_leastOf (56, [some (vO 11), some (vI x1), some (vI x2), some (vI x3), none], mPush r1 [], h1) Q))))))) from ⟨(by decide), ⟨⟨k.1, k.2.1⟩, fun c1 => (k.2.2.1 c1), fun c1 => ⟨(k.2.2.2 c1).1, fun c2 => ((k.2.2.2 c1).2.1 c2), fun c2 => ⟨(by decide), ((k.2.2.2 c1).2.2 c2)⟩⟩⟩⟩)
theorem sg_Md_leastOf_56 {sc : Nat → Int} {ar : Nat → Nat → Int} {x1 x2 x3 s0 : Int} {Q : Option mV → mH → Prop} (k : (0 : Int) ≤ (bOr x2 (bShl 1 x3)) ∧ (bOr x2 (bShl 1 x3)) < (256 : Int) ∧ 
  ((0 : Int) ≤ x2 ∧ x2 < (256 : Int) ∧ 
  (inR (ar 182 x2.toNat) ∧ 
  ((ar 182 x2.toNat) = (-9) → ((0 : Int) ≤ x2 ∧ x2 < (256 : Int) ∧ 
    (Ev 1 M_Md_leastOf (34, [some (vO 11), some (vI x1), some (vI x2), some (vI (x3 + 1)), none], [], (sc, (up ar 182 (up (ar 182) x2.toNat (s0 + (ar 182 (bOr x2 (bShl 1 x3)).toNat)))))) Q))) ∧ 
  (¬ ((ar 182 x2.toNat) = (-9)) → ((0 : Int) ≤ x2 ∧ x2 < (256 : Int) ∧ 
    (inR (s0 + (ar 182 (bOr x2 (bShl 1 x3)).toNat)) ∧ inR (ar 182 x2.toNat) ∧ 
    ((ar 182 x2.toNat) ≤ (s0 + (ar 182 (bOr x2 (bShl 1 x3)).toNat)) → ((0 : Int) ≤ x2 ∧ x2 < (256 : Int) ∧ 
      ((0 : Int) ≤ x2 ∧ x2 < (256 : Int) ∧ 
      (Ev 1 M_Md_leastOf (34, [some (vO 11), some (vI x1), some (vI x2), some (vI (x3 + 1)), none], [], (sc, (up ar 182 (up (ar 182) x2.toNat (ar 182 x2.toNat))))) Q)))) ∧ 
    (¬ ((ar 182 x2.toNat) ≤ (s0 + (ar 182 (bOr x2 (bShl 1 x3)).toNat))) → ((0 : Int) ≤ x2 ∧ x2 < (256 : Int) ∧ 
      (Ev 1 M_Md_leastOf (34, [some (vO 11), some (vI x1), some (vI x2), some (vI (x3 + 1)), none], [], (sc, (up ar 182 (up (ar 182) x2.toNat (s0 + (ar 182 (bOr x2 (bShl 1 x3)).toNat)))))) Q))))))))) :
  Ev 1 M_Md_leastOf (56, [some (vO 11), some (vI x1), some (vI x2), some (vI x3), none], [vI s0], (sc, ar)) Q :=
  wq_ok 200 _ _ [(11, 3), (34, 4), (56, 4)] _ _ _ _ _ (show (cO 11 = 9) ∧ ((aK 182 = 0 ∧ (0 : Int) ≤ (bOr x2 (bShl 1 x3)) ∧ (bOr x2 (bShl 1 x3)) < (256 : Int)) ∧ ((cO 11 = 9) ∧ ((cO 11 = 9) ∧ ((aK 182 = 0 ∧ (0 : Int) ≤ x2 ∧ x2 < (256 : Int)) ∧ ((inR (ar 182 x2.toNat) ∧ inR (-9)) ∧ ((ar 182 x2.toNat) = (-9) → ((aK 182 = 0 ∧ 182 ≠ 999 ∧ (0 : Int) ≤ x2 ∧ x2 < (256 : Int)) ∧ (Ev 1 M_Md_leastOf (34, [some (vO 11), some (vI x1), some (vI x2), some (vI (x3 + 1)), none], [], (sc, (up ar 182 (up (ar 182) x2.toNat (s0 + (ar 182 (bOr x2 (bShl 1 x3)).toNat)))))) Q))) ∧ (¬ ((ar 182 x2.toNat) = (-9)) → ((cO 11 = 9) ∧ ((aK 182 = 0 ∧ (0 : Int) ≤ x2 ∧ x2 < (256 : Int)) ∧ ((inR (s0 + (ar 182 (bOr x2 (bShl 1 x3)).toNat)) ∧ inR (ar 182 x2.toNat)) ∧ ((ar 182 x2.toNat) ≤ (s0 + (ar 182 (bOr x2 (bShl 1 x3)).toNat)) → ((cO 11 = 9) ∧ ((aK 182 = 0 ∧ (0 : Int) ≤ x2 ∧ x2 < (256 : Int)) ∧ ((aK 182 = 0 ∧ 182 ≠ 999 ∧ (0 : Int) ≤ x2 ∧ x2 < (256 : Int)) ∧ (Ev 1 M_Md_leastOf (34, [some (vO 11), some (vI x1), some (vI x2), some (vI (x3 + 1)), none], [], (sc, (up ar 182 (up (ar 182) x2.toNat (ar 182 x2.toNat))))) Q))))) ∧ (¬ ((ar 182 x2.toNat) ≤ (s0 + (ar 182 (bOr x2 (bShl 1 x3)).toNat))) → ((aK 182 = 0 ∧ 182 ≠ 999 ∧ (0 : Int) ≤ x2 ∧ x2 < (256 : Int)) ∧ (Ev 1 M_Md_leastOf (34, [some (vO 11), some (vI x1), some (vI x2), some (vI (x3 + 1)), none], [], (sc, (up ar 182 (up (ar 182) x2.toNat (s0 + (ar 182 (bOr x2 (bShl 1 x3)).toNat)))))) Q)))))))))))) from ⟨(by decide), ⟨⟨(by decide), k.1, k.2.1⟩, ⟨(by decide), ⟨(by decide), ⟨⟨(by decide), k.2.2.1, k.2.2.2.1⟩, ⟨⟨k.2.2.2.2.1, (by decide)⟩, fun c1 => ⟨⟨(by decide), (by decide), (k.2.2.2.2.2.1 c1).1, (k.2.2.2.2.2.1 c1).2.1⟩, (k.2.2.2.2.2.1 c1).2.2⟩, fun c1 => ⟨(by decide), ⟨⟨(by decide), (k.2.2.2.2.2.2 c1).1, (k.2.2.2.2.2.2 c1).2.1⟩, ⟨⟨(k.2.2.2.2.2.2 c1).2.2.1, (k.2.2.2.2.2.2 c1).2.2.2.1⟩, fun c2 => ⟨(by decide), ⟨⟨(by decide), ((k.2.2.2.2.2.2 c1).2.2.2.2.1 c2).1, ((k.2.2.2.2.2.2 c1).2.2.2.2.1 c2).2.1⟩, ⟨⟨(by decide), (by decide), ((k.2.2.2.2.2.2 c1).2.2.2.2.1 c2).2.2.1, ((k.2.2.2.2.2.2 c1).2.2.2.2.1 c2).2.2.2.1⟩, ((k.2.2.2.2.2.2 c1).2.2.2.2.1 c2).2.2.2.2⟩⟩⟩, fun c2 => ⟨⟨(by decide), (by decide), ((k.2.2.2.2.2.2 c1).2.2.2.2.2 c2).1, ((k.2.2.2.2.2.2 c1).2.2.2.2.2 c2).2.1⟩, ((k.2.2.2.2.2.2 c1).2.2.2.2.2 c2).2.2⟩⟩⟩⟩⟩⟩⟩⟩⟩⟩)
theorem sg_Md_leastRow_0 {sc : Nat → Int} {ar : Nat → Nat → Int} {Q : Option mV → mH → Prop} (k : Ev 1 M_Md_leastOf (0, [some (vO 11), none, none, none, none], [], (sc, ar)) (fun r1 h1 => Ev 2 M_Md_leastRow (4, [some (vO 11), none, none, none, none], mPush r1 [], h1) Q)) :
  Ev 2 M_Md_leastRow (0, [some (vO 11), none, none, none, none], [], (sc, ar)) Q :=
  wq_ok 200 _ _ [(4, 1), (9, 3), (28, 5), (49, 5)] _ _ _ _ _ (show (cO 11 = mK M_Md_leastOf) ∧ (Ev 1 M_Md_leastOf (0, [some (vO 11), none, none, none, none], [], (sc, ar)) (fun r1 h1 => Ev 2 M_Md_leastRow (4, [some (vO 11), none, none, none, none], mPush r1 [], h1) Q)) from ⟨(by decide), k⟩)
theorem sg_Md_leastRow_4 {sc : Nat → Int} {ar : Nat → Nat → Int} {s0 : Int} {Q : Option mV → mH → Prop} (k : Ev 2 M_Md_leastRow (9, [some (vO 11), some (vI 0), some (vI 0), none, none], [], (sc, ar)) Q) :
  Ev 2 M_Md_leastRow (4, [some (vO 11), none, none, none, none], [vI s0], (sc, ar)) Q :=
  wq_ok 200 _ _ [(4, 1), (9, 3), (28, 5), (49, 5)] _ _ _ _ _ (show Ev 2 M_Md_leastRow (9, [some (vO 11), some (vI 0), some (vI 0), none, none], [], (sc, ar)) Q from k)
theorem sg_Md_leastRow_9 {sc : Nat → Int} {ar : Nat → Nat → Int} {x1 x2 : Int} {Q : Option mV → mH → Prop} (k : inR x2 ∧ inR (sc 177) ∧ 
  ((sc 177) ≤ x2 → (Q none (sc, ar))) ∧ 
  (¬ ((sc 177) ≤ x2) → (Ev 2 M_Md_leastRow (28, [some (vO 11), some (vI x1), some (vI x2), some (vI (-9)), some (vI ((sc 177) - 1))], [], (sc, ar)) Q))) :
  Ev 2 M_Md_leastRow (9, [some (vO 11), some (vI x1), some (vI x2), none, none], [], (sc, ar)) Q :=
  wq_ok 200 _ _ [(4, 1), (9, 3), (28, 5), (49, 5)] _ _ _ _ _ (show (cO 11 = 9) ∧ ((inR x2 ∧ inR (sc 177)) ∧ ((sc 177) ≤ x2 → (Q none (sc, ar))) ∧ (¬ ((sc 177) ≤ x2) → ((cO 11 = 9) ∧ (Ev 2 M_Md_leastRow (28, [some (vO 11), some (vI x1), some (vI x2), some (vI (-9)), some (vI ((sc 177) - 1))], [], (sc, ar)) Q)))) from ⟨(by decide), ⟨⟨k.1, k.2.1⟩, fun c1 => (k.2.2.1 c1), fun c1 => ⟨(by decide), (k.2.2.2 c1)⟩⟩⟩)
theorem sg_Md_leastRow_28 {sc : Nat → Int} {ar : Nat → Nat → Int} {x1 x2 x3 x4 : Int} {Q : Option mV → mH → Prop} (k : inR x4 ∧ 
  (x4 < 0 → ((0 : Int) ≤ x2 ∧ x2 < (8 : Int) ∧ 
    (Ev 2 M_Md_leastRow (9, [some (vO 11), some (vI (bOr x1 (bShl 1 x3))), some (vI (x2 + 1)), none, none], [], (sc, (up ar 188 (up (ar 188) x2.toNat x3)))) Q))) ∧ 
  (¬ (x4 < 0) → (inR (bAnd (bShr x1 x4) 1) ∧ 
    ((bAnd (bShr x1 x4) 1) ≠ 0 → (Ev 2 M_Md_leastRow (28, [some (vO 11), some (vI x1), some (vI x2), some (vI x3), some (vI (x4 + (-1)))], [], (sc, ar)) Q)) ∧ 
    (¬ ((bAnd (bShr x1 x4) 1) ≠ 0) → (Ev 1 M_Md_guessed (0, [some (vO 11), some (vI x4), some (vI x1), none, none], [], (sc, ar)) (fun r1 h1 => Ev 2 M_Md_leastRow (49, [some (vO 11), some (vI x1), some (vI x2), some (vI x3), some (vI x4)], mPush r1 [], h1) Q)))))) :
  Ev 2 M_Md_leastRow (28, [some (vO 11), some (vI x1), some (vI x2), some (vI x3), some (vI x4)], [], (sc, ar)) Q :=
  wq_ok 200 _ _ [(4, 1), (9, 3), (28, 5), (49, 5)] _ _ _ _ _ (show (inR x4) ∧ (x4 < 0 → ((cO 11 = 9) ∧ ((aK 188 = 0 ∧ 188 ≠ 999 ∧ (0 : Int) ≤ x2 ∧ x2 < (8 : Int)) ∧ (Ev 2 M_Md_leastRow (9, [some (vO 11), some (vI (bOr x1 (bShl 1 x3))), some (vI (x2 + 1)), none, none], [], (sc, (up ar 188 (up (ar 188) x2.toNat x3)))) Q)))) ∧ (¬ (x4 < 0) → ((inR (bAnd (bShr x1 x4) 1)) ∧ ((bAnd (bShr x1 x4) 1) ≠ 0 → (Ev 2 M_Md_leastRow (28, [some (vO 11), some (vI x1), some (vI x2), some (vI x3), some (vI (x4 + (-1)))], [], (sc, ar)) Q)) ∧ (¬ ((bAnd (bShr x1 x4) 1) ≠ 0) → ((cO 11 = mK M_Md_guessed) ∧ (Ev 1 M_Md_guessed (0, [some (vO 11), some (vI x4), some (vI x1), none, none], [], (sc, ar)) (fun r1 h1 => Ev 2 M_Md_leastRow (49, [some (vO 11), some (vI x1), some (vI x2), some (vI x3), some (vI x4)], mPush r1 [], h1) Q)))))) from ⟨k.1, fun c1 => ⟨(by decide), ⟨⟨(by decide), (by decide), (k.2.1 c1).1, (k.2.1 c1).2.1⟩, (k.2.1 c1).2.2⟩⟩, fun c1 => ⟨(k.2.2 c1).1, fun c2 => ((k.2.2 c1).2.1 c2), fun c2 => ⟨(by decide), ((k.2.2 c1).2.2 c2)⟩⟩⟩)
theorem sg_Md_leastRow_49 {sc : Nat → Int} {ar : Nat → Nat → Int} {x1 x2 x3 x4 s0 : Int} {Q : Option mV → mH → Prop} (k : (0 : Int) ≤ (bOr x1 (bShl 1 x4)) ∧ (bOr x1 (bShl 1 x4)) < (256 : Int) ∧ 
  ((0 : Int) ≤ x1 ∧ x1 < (256 : Int) ∧ 
  (inR (s0 + (ar 182 (bOr x1 (bShl 1 x4)).toNat)) ∧ inR (ar 182 x1.toNat) ∧ 
  ((s0 + (ar 182 (bOr x1 (bShl 1 x4)).toNat)) ≠ (ar 182 x1.toNat) → (Ev 2 M_Md_leastRow (28, [some (vO 11), some (vI x1), some (vI x2), some (vI x3), some (vI (x4 + (-1)))], [], (sc, ar)) Q)) ∧ 
  (¬ ((s0 + (ar 182 (bOr x1 (bShl 1 x4)).toNat)) ≠ (ar 182 x1.toNat)) → (Ev 2 M_Md_leastRow (28, [some (vO 11), some (vI x1), some (vI x2), some (vI x4), some (vI (x4 + (-1)))], [], (sc, ar)) Q))))) :
  Ev 2 M_Md_leastRow (49, [some (vO 11), some (vI x1), some (vI x2), some (vI x3), some (vI x4)], [vI s0], (sc, ar)) Q :=
  wq_ok 200 _ _ [(4, 1), (9, 3), (28, 5), (49, 5)] _ _ _ _ _ (show (cO 11 = 9) ∧ ((aK 182 = 0 ∧ (0 : Int) ≤ (bOr x1 (bShl 1 x4)) ∧ (bOr x1 (bShl 1 x4)) < (256 : Int)) ∧ ((cO 11 = 9) ∧ ((aK 182 = 0 ∧ (0 : Int) ≤ x1 ∧ x1 < (256 : Int)) ∧ ((inR (s0 + (ar 182 (bOr x1 (bShl 1 x4)).toNat)) ∧ inR (ar 182 x1.toNat)) ∧ ((s0 + (ar 182 (bOr x1 (bShl 1 x4)).toNat)) ≠ (ar 182 x1.toNat) → (Ev 2 M_Md_leastRow (28, [some (vO 11), some (vI x1), some (vI x2), some (vI x3), some (vI (x4 + (-1)))], [], (sc, ar)) Q)) ∧ (¬ ((s0 + (ar 182 (bOr x1 (bShl 1 x4)).toNat)) ≠ (ar 182 x1.toNat)) → (Ev 2 M_Md_leastRow (28, [some (vO 11), some (vI x1), some (vI x2), some (vI x4), some (vI (x4 + (-1)))], [], (sc, ar)) Q)))))) from ⟨(by decide), ⟨⟨(by decide), k.1, k.2.1⟩, ⟨(by decide), ⟨⟨(by decide), k.2.2.1, k.2.2.2.1⟩, ⟨⟨k.2.2.2.2.1, k.2.2.2.2.2.1⟩, fun c1 => (k.2.2.2.2.2.2.1 c1), fun c1 => (k.2.2.2.2.2.2.2 c1)⟩⟩⟩⟩⟩)
theorem sg_Md_least_0 {sc : Nat → Int} {ar : Nat → Nat → Int} {Q : Option mV → mH → Prop} (k : Ev 1 M_Md_leastOf (0, [some (vO 11), none, none, none, none], [], ((up sc 176 0), ar)) (fun r1 h1 => Ev 2 M_Md_least (9, [some (vO 11)], mPush r1 [], h1) Q)) :
  Ev 2 M_Md_least (0, [some (vO 11)], [], (sc, ar)) Q :=
  wq_ok 200 _ _ [(9, 1)] _ _ _ _ _ (show (cO 11 = 9) ∧ ((cO 11 = mK M_Md_leastOf) ∧ (Ev 1 M_Md_leastOf (0, [some (vO 11), none, none, none, none], [], ((up sc 176 0), ar)) (fun r1 h1 => Ev 2 M_Md_least (9, [some (vO 11)], mPush r1 [], h1) Q))) from ⟨(by decide), ⟨(by decide), k⟩⟩)
theorem sg_Md_least_9 {sc : Nat → Int} {ar : Nat → Nat → Int} {s0 : Int} {Q : Option mV → mH → Prop} (k : Q (some (vI s0)) (sc, ar)) :
  Ev 2 M_Md_least (9, [some (vO 11)], [vI s0], (sc, ar)) Q :=
  wq_ok 200 _ _ [(9, 1)] _ _ _ _ _ (show Q (some (vI s0)) (sc, ar) from k)
theorem sg_Md_leastAt_0 {sc : Nat → Int} {ar : Nat → Nat → Int} {x1 : Int} {Q : Option mV → mH → Prop} (k : inR x1 ∧ 
  (inR ((sc 177) - 1) ∧ 
  (Ev 2 M_Md_in (0, [some (vL x1), none, some (vL 0), none, some (vL ((sc 177) - 1)), none], [], ((up sc 176 0), ar)) (fun r1 h1 => Ev 3 M_Md_leastAt (18, [some (vO 11), some (vI x1)], mPush r1 [], h1) Q)))) :
  Ev 3 M_Md_leastAt (0, [some (vO 11), some (vI x1)], [], (sc, ar)) Q :=
  wq_ok 200 _ _ [(18, 2), (28, 2)] _ _ _ _ _ (show (cO 11 = 9) ∧ ((inR x1) ∧ ((cO 11 = 9) ∧ ((inR ((sc 177) - 1)) ∧ (Ev 2 M_Md_in (0, [some (vL x1), none, some (vL 0), none, some (vL ((sc 177) - 1)), none], [], ((up sc 176 0), ar)) (fun r1 h1 => Ev 3 M_Md_leastAt (18, [some (vO 11), some (vI x1)], mPush r1 [], h1) Q))))) from ⟨(by decide), ⟨k.1, ⟨(by decide), ⟨k.2.1, k.2.2⟩⟩⟩⟩)
theorem sg_Md_leastAt_18 {sc : Nat → Int} {ar : Nat → Nat → Int} {x1 s0 : Int} {Q : Option mV → mH → Prop} (k : inR s0 ∧ 
  (s0 ≠ 0 → (Ev 2 M_Md_leastRow (0, [some (vO 11), none, none, none, none], [], (sc, ar)) (fun r1 h1 => Ev 3 M_Md_leastAt (28, [some (vO 11), some (vI x1)], mPush r1 [], h1) Q))) ∧ 
  (¬ (s0 ≠ 0) → (Q (some (vI (-9))) (sc, ar)))) :
  Ev 3 M_Md_leastAt (18, [some (vO 11), some (vI x1)], [vI s0], (sc, ar)) Q :=
  wq_ok 200 _ _ [(18, 2), (28, 2)] _ _ _ _ _ (show (inR s0) ∧ (s0 ≠ 0 → ((cO 11 = mK M_Md_leastRow) ∧ (Ev 2 M_Md_leastRow (0, [some (vO 11), none, none, none, none], [], (sc, ar)) (fun r1 h1 => Ev 3 M_Md_leastAt (28, [some (vO 11), some (vI x1)], mPush r1 [], h1) Q)))) ∧ (¬ (s0 ≠ 0) → (Q (some (vI (-9))) (sc, ar))) from ⟨k.1, fun c1 => ⟨(by decide), (k.2.1 c1)⟩, fun c1 => (k.2.2 c1)⟩)
theorem sg_Md_leastAt_28 {sc : Nat → Int} {ar : Nat → Nat → Int} {x1 : Int} {Q : Option mV → mH → Prop} (k : (0 : Int) ≤ x1 ∧ x1 < (8 : Int) ∧ 
  (Q (some (vI (ar 188 x1.toNat))) (sc, ar))) :
  Ev 3 M_Md_leastAt (28, [some (vO 11), some (vI x1)], [], (sc, ar)) Q :=
  wq_ok 200 _ _ [(18, 2), (28, 2)] _ _ _ _ _ (show (cO 11 = 9) ∧ ((aK 188 = 0 ∧ (0 : Int) ≤ x1 ∧ x1 < (8 : Int)) ∧ (Q (some (vI (ar 188 x1.toNat))) (sc, ar))) from ⟨(by decide), ⟨⟨(by decide), k.1, k.2.1⟩, k.2.2⟩⟩)
theorem sg_Md_saved_0 {sc : Nat → Int} {ar : Nat → Nat → Int} {x1 x2 : Int} {Q : Option mV → mH → Prop} (k : Ev 1 M_Md_no (0, [some (vO 11), some (vI x1)], [], ((up sc 176 0), ar)) (fun r1 h1 => Ev 2 M_Md_saved (10, [some (vO 11), some (vI x1), some (vI x2), none, none, none], mPush r1 [], h1) Q)) :
  Ev 2 M_Md_saved (0, [some (vO 11), some (vI x1), some (vI x2), none, none, none], [], (sc, ar)) Q :=
  wq_ok 200 _ _ [(10, 3), (18, 3), (27, 3), (57, 5)] _ _ _ _ _ (show (cO 11 = 9) ∧ ((cO 11 = mK M_Md_no) ∧ (Ev 1 M_Md_no (0, [some (vO 11), some (vI x1)], [], ((up sc 176 0), ar)) (fun r1 h1 => Ev 2 M_Md_saved (10, [some (vO 11), some (vI x1), some (vI x2), none, none, none], mPush r1 [], h1) Q))) from ⟨(by decide), ⟨(by decide), k⟩⟩)
theorem sg_Md_saved_10 {sc : Nat → Int} {ar : Nat → Nat → Int} {x1 x2 s0 : Int} {Q : Option mV → mH → Prop} (k : inR s0 ∧ 
  (s0 ≠ 0 → (Q (some (vI (-1))) (sc, ar))) ∧ 
  (¬ (s0 ≠ 0) → (Ev 1 M_Md_no (0, [some (vO 11), some (vI x2)], [], (sc, ar)) (fun r1 h1 => Ev 2 M_Md_saved (18, [some (vO 11), some (vI x1), some (vI x2), none, none, none], mPush r1 [], h1) Q)))) :
  Ev 2 M_Md_saved (10, [some (vO 11), some (vI x1), some (vI x2), none, none, none], [vI s0], (sc, ar)) Q :=
  wq_ok 200 _ _ [(10, 3), (18, 3), (27, 3), (57, 5)] _ _ _ _ _ (show (inR s0) ∧ (s0 ≠ 0 → (Q (some (vI (-1))) (sc, ar))) ∧ (¬ (s0 ≠ 0) → ((cO 11 = mK M_Md_no) ∧ (Ev 1 M_Md_no (0, [some (vO 11), some (vI x2)], [], (sc, ar)) (fun r1 h1 => Ev 2 M_Md_saved (18, [some (vO 11), some (vI x1), some (vI x2), none, none, none], mPush r1 [], h1) Q)))) from ⟨k.1, fun c1 => (k.2.1 c1), fun c1 => ⟨(by decide), (k.2.2 c1)⟩⟩)
theorem sg_Md_saved_18 {sc : Nat → Int} {ar : Nat → Nat → Int} {x1 x2 s0 : Int} {Q : Option mV → mH → Prop} (k : inR s0 ∧ 
  (s0 = 0 → (Ev 1 M_Md_leastOf (0, [some (vO 11), none, none, none, none], [], (sc, ar)) (fun r1 h1 => Ev 2 M_Md_saved (27, [some (vO 11), some (vI x1), some (vI x2), none, none, none], mPush r1 [], h1) Q))) ∧ 
  (¬ (s0 = 0) → (Q (some (vI (-1))) (sc, ar)))) :
  Ev 2 M_Md_saved (18, [some (vO 11), some (vI x1), some (vI x2), none, none, none], [vI s0], (sc, ar)) Q :=
  wq_ok 200 _ _ [(10, 3), (18, 3), (27, 3), (57, 5)] _ _ _ _ _ (show (inR s0) ∧ (s0 = 0 → ((cO 11 = mK M_Md_leastOf) ∧ (Ev 1 M_Md_leastOf (0, [some (vO 11), none, none, none, none], [], (sc, ar)) (fun r1 h1 => Ev 2 M_Md_saved (27, [some (vO 11), some (vI x1), some (vI x2), none, none, none], mPush r1 [], h1) Q)))) ∧ (¬ (s0 = 0) → (Q (some (vI (-1))) (sc, ar))) from ⟨k.1, fun c1 => ⟨(by decide), (k.2.1 c1)⟩, fun c1 => (k.2.2 c1)⟩)
theorem sg_Md_saved_27 {sc : Nat → Int} {ar : Nat → Nat → Int} {x1 x2 s0 : Int} {Q : Option mV → mH → Prop} (k : (0 : Int) ≤ ((8 * x1) + x2) ∧ ((8 * x1) + x2) < (64 : Int) ∧ 
  ((0 : Int) ≤ ((8 * x1) + x2) ∧ ((8 * x1) + x2) < (64 : Int) ∧ 
  (Ev 1 M_Md_leastOf (0, [some (vO 11), none, none, none, none], [], (sc, (up ar 179 (up (ar 179) ((8 * x1) + x2).toNat 0)))) (fun r1 h1 => Ev 2 M_Md_saved (57, [some (vO 11), some (vI x1), some (vI x2), some (vI s0), some (vI (ar 179 ((8 * x1) + x2).toNat)), none], mPush r1 [], h1) Q)))) :
  Ev 2 M_Md_saved (27, [some (vO 11), some (vI x1), some (vI x2), none, none, none], [vI s0], (sc, ar)) Q :=
  wq_ok 200 _ _ [(10, 3), (18, 3), (27, 3), (57, 5)] _ _ _ _ _ (show (cO 11 = 9) ∧ ((aK 179 = 0 ∧ (0 : Int) ≤ ((8 * x1) + x2) ∧ ((8 * x1) + x2) < (64 : Int)) ∧ ((cO 11 = 9) ∧ ((aK 179 = 0 ∧ 179 ≠ 999 ∧ (0 : Int) ≤ ((8 * x1) + x2) ∧ ((8 * x1) + x2) < (64 : Int)) ∧ ((cO 11 = mK M_Md_leastOf) ∧ (Ev 1 M_Md_leastOf (0, [some (vO 11), none, none, none, none], [], (sc, (up ar 179 (up (ar 179) ((8 * x1) + x2).toNat 0)))) (fun r1 h1 => Ev 2 M_Md_saved (57, [some (vO 11), some (vI x1), some (vI x2), some (vI s0), some (vI (ar 179 ((8 * x1) + x2).toNat)), none], mPush r1 [], h1) Q)))))) from ⟨(by decide), ⟨⟨(by decide), k.1, k.2.1⟩, ⟨(by decide), ⟨⟨(by decide), (by decide), k.2.2.1, k.2.2.2.1⟩, ⟨(by decide), k.2.2.2.2⟩⟩⟩⟩⟩)
theorem sg_Md_saved_57 {sc : Nat → Int} {ar : Nat → Nat → Int} {x1 x2 x3 x4 s0 : Int} {Q : Option mV → mH → Prop} (k : (0 : Int) ≤ ((8 * x1) + x2) ∧ ((8 * x1) + x2) < (64 : Int) ∧ 
  (Q (some (vI (x3 - s0))) (sc, (up ar 179 (up (ar 179) ((8 * x1) + x2).toNat x4))))) :
  Ev 2 M_Md_saved (57, [some (vO 11), some (vI x1), some (vI x2), some (vI x3), some (vI x4), none], [vI s0], (sc, ar)) Q :=
  wq_ok 200 _ _ [(10, 3), (18, 3), (27, 3), (57, 5)] _ _ _ _ _ (show (cO 11 = 9) ∧ ((aK 179 = 0 ∧ 179 ≠ 999 ∧ (0 : Int) ≤ ((8 * x1) + x2) ∧ ((8 * x1) + x2) < (64 : Int)) ∧ (Q (some (vI (x3 - s0))) (sc, (up ar 179 (up (ar 179) ((8 * x1) + x2).toNat x4))))) from ⟨(by decide), ⟨⟨(by decide), (by decide), k.1, k.2.1⟩, k.2.2⟩⟩)
theorem sg_Md_at_0 {sc : Nat → Int} {ar : Nat → Nat → Int} {x1 : Int} {Q : Option mV → mH → Prop} (k : inR x1 ∧ 
  (inR ((sc 177) - 1) ∧ 
  (Ev 0 M_Md_in (0, [some (vL x1), none, some (vL 0), none, some (vL ((sc 177) - 1)), none], [], ((up sc 176 0), ar)) (fun r1 h1 => Ev 1 M_Md_at (18, [some (vO 11), some (vI x1)], mPush r1 [], h1) Q)))) :
  Ev 1 M_Md_at (0, [some (vO 11), some (vI x1)], [], (sc, ar)) Q :=
  wq_ok 200 _ _ [(18, 2)] _ _ _ _ _ (show (cO 11 = 9) ∧ ((inR x1) ∧ ((cO 11 = 9) ∧ ((inR ((sc 177) - 1)) ∧ (Ev 0 M_Md_in (0, [some (vL x1), none, some (vL 0), none, some (vL ((sc 177) - 1)), none], [], ((up sc 176 0), ar)) (fun r1 h1 => Ev 1 M_Md_at (18, [some (vO 11), some (vI x1)], mPush r1 [], h1) Q))))) from ⟨(by decide), ⟨k.1, ⟨(by decide), ⟨k.2.1, k.2.2⟩⟩⟩⟩)
theorem sg_Md_at_18 {sc : Nat → Int} {ar : Nat → Nat → Int} {x1 s0 : Int} {Q : Option mV → mH → Prop} (k : inR s0 ∧ 
  (s0 = 0 → (Q (some (vI (-9))) (sc, ar))) ∧ 
  (¬ (s0 = 0) → ((0 : Int) ≤ x1 ∧ x1 < (8 : Int) ∧ 
    (Q (some (vI (ar 181 x1.toNat))) (sc, ar))))) :
  Ev 1 M_Md_at (18, [some (vO 11), some (vI x1)], [vI s0], (sc, ar)) Q :=
  wq_ok 200 _ _ [(18, 2)] _ _ _ _ _ (show (inR s0) ∧ (s0 = 0 → (Q (some (vI (-9))) (sc, ar))) ∧ (¬ (s0 = 0) → ((cO 11 = 9) ∧ ((aK 181 = 0 ∧ (0 : Int) ≤ x1 ∧ x1 < (8 : Int)) ∧ (Q (some (vI (ar 181 x1.toNat))) (sc, ar))))) from ⟨k.1, fun c1 => (k.2.1 c1), fun c1 => ⟨(by decide), ⟨⟨(by decide), (k.2.2 c1).1, (k.2.2 c1).2.1⟩, (k.2.2 c1).2.2⟩⟩⟩)
theorem sg_Md_guessOf_0 {sc : Nat → Int} {ar : Nat → Nat → Int} {Q : Option mV → mH → Prop} (k : Ev 1 M_Md_guessOf (6, [some (vO 11), some (vI 0), some (vI 0), some (vI 0)], [], (sc, ar)) Q) :
  Ev 1 M_Md_guessOf (0, [some (vO 11), none, none, none], [], (sc, ar)) Q :=
  wq_ok 200 _ _ [(6, 4), (26, 4)] _ _ _ _ _ (show Ev 1 M_Md_guessOf (6, [some (vO 11), some (vI 0), some (vI 0), some (vI 0)], [], (sc, ar)) Q from k)
theorem sg_Md_guessOf_6 {sc : Nat → Int} {ar : Nat → Nat → Int} {x1 x2 x3 : Int} {Q : Option mV → mH → Prop} (k : inR x3 ∧ inR (sc 177) ∧ 
  ((sc 177) ≤ x3 → (Q (some (vI x1)) (sc, ar))) ∧ 
  (¬ ((sc 177) ≤ x3) → ((0 : Int) ≤ x3 ∧ x3 < (8 : Int) ∧ 
    (Ev 0 M_Md_guessed (0, [some (vO 11), some (vI (ar 181 x3.toNat)), some (vI x2), none, none], [], (sc, ar)) (fun r1 h1 => Ev 1 M_Md_guessOf (26, [some (vO 11), some (vI x1), some (vI x2), some (vI x3)], mPush r1 [vI x1], h1) Q))))) :
  Ev 1 M_Md_guessOf (6, [some (vO 11), some (vI x1), some (vI x2), some (vI x3)], [], (sc, ar)) Q :=
  wq_ok 200 _ _ [(6, 4), (26, 4)] _ _ _ _ _ (show (cO 11 = 9) ∧ ((inR x3 ∧ inR (sc 177)) ∧ ((sc 177) ≤ x3 → (Q (some (vI x1)) (sc, ar))) ∧ (¬ ((sc 177) ≤ x3) → ((cO 11 = 9) ∧ ((aK 181 = 0 ∧ (0 : Int) ≤ x3 ∧ x3 < (8 : Int)) ∧ ((cO 11 = mK M_Md_guessed) ∧ (Ev 0 M_Md_guessed (0, [some (vO 11), some (vI (ar 181 x3.toNat)), some (vI x2), none, none], [], (sc, ar)) (fun r1 h1 => Ev 1 M_Md_guessOf (26, [some (vO 11), some (vI x1), some (vI x2), some (vI x3)], mPush r1 [vI x1], h1) Q))))))) from ⟨(by decide), ⟨⟨k.1, k.2.1⟩, fun c1 => (k.2.2.1 c1), fun c1 => ⟨(by decide), ⟨⟨(by decide), (k.2.2.2 c1).1, (k.2.2.2 c1).2.1⟩, ⟨(by decide), (k.2.2.2 c1).2.2⟩⟩⟩⟩⟩)
theorem sg_Md_guessOf_26 {sc : Nat → Int} {ar : Nat → Nat → Int} {x1 x2 x3 s0 s1 : Int} {Q : Option mV → mH → Prop} (k : (0 : Int) ≤ x3 ∧ x3 < (8 : Int) ∧ 
  (Ev 1 M_Md_guessOf (6, [some (vO 11), some (vI (s1 + s0)), some (vI (bOr x2 (bShl 1 (ar 181 x3.toNat)))), some (vI (x3 + 1))], [], (sc, ar)) Q)) :
  Ev 1 M_Md_guessOf (26, [some (vO 11), some (vI x1), some (vI x2), some (vI x3)], [vI s0, vI s1], (sc, ar)) Q :=
  wq_ok 200 _ _ [(6, 4), (26, 4)] _ _ _ _ _ (show (cO 11 = 9) ∧ ((aK 181 = 0 ∧ (0 : Int) ≤ x3 ∧ x3 < (8 : Int)) ∧ (Ev 1 M_Md_guessOf (6, [some (vO 11), some (vI (s1 + s0)), some (vI (bOr x2 (bShl 1 (ar 181 x3.toNat)))), some (vI (x3 + 1))], [], (sc, ar)) Q)) from ⟨(by decide), ⟨⟨(by decide), k.1, k.2.1⟩, k.2.2⟩⟩)
theorem sg_Md_swap_0 {sc : Nat → Int} {ar : Nat → Nat → Int} {x1 x2 : Int} {Q : Option mV → mH → Prop} (k : inR x1 ∧ 
  (inR ((sc 177) - 1) ∧ 
  (Ev 1 M_Md_in (0, [some (vL x1), none, some (vL 0), none, some (vL ((sc 177) - 1)), none], [], ((up sc 176 0), ar)) (fun r1 h1 => Ev 2 M_Md_swap (18, [some (vO 11), some (vI x1), some (vI x2), none], mPush r1 [], h1) Q)))) :
  Ev 2 M_Md_swap (0, [some (vO 11), some (vI x1), some (vI x2), none], [], (sc, ar)) Q :=
  wq_ok 200 _ _ [(18, 3), (34, 3), (70, 4)] _ _ _ _ _ (show (cO 11 = 9) ∧ ((inR x1) ∧ ((cO 11 = 9) ∧ ((inR ((sc 177) - 1)) ∧ (Ev 1 M_Md_in (0, [some (vL x1), none, some (vL 0), none, some (vL ((sc 177) - 1)), none], [], ((up sc 176 0), ar)) (fun r1 h1 => Ev 2 M_Md_swap (18, [some (vO 11), some (vI x1), some (vI x2), none], mPush r1 [], h1) Q))))) from ⟨(by decide), ⟨k.1, ⟨(by decide), ⟨k.2.1, k.2.2⟩⟩⟩⟩)
theorem sg_Md_swap_18 {sc : Nat → Int} {ar : Nat → Nat → Int} {x1 x2 s0 : Int} {Q : Option mV → mH → Prop} (k : inR s0 ∧ 
  (s0 = 0 → (Q (some (vI (-2))) (sc, ar))) ∧ 
  (¬ (s0 = 0) → (inR x2 ∧ 
    (inR ((sc 177) - 1) ∧ 
    (Ev 1 M_Md_in (0, [some (vL x2), none, some (vL 0), none, some (vL ((sc 177) - 1)), none], [], (sc, ar)) (fun r1 h1 => Ev 2 M_Md_swap (34, [some (vO 11), some (vI x1), some (vI x2), none], mPush r1 [], h1) Q)))))) :
  Ev 2 M_Md_swap (18, [some (vO 11), some (vI x1), some (vI x2), none], [vI s0], (sc, ar)) Q :=
  wq_ok 200 _ _ [(18, 3), (34, 3), (70, 4)] _ _ _ _ _ (show (inR s0) ∧ (s0 = 0 → (Q (some (vI (-2))) (sc, ar))) ∧ (¬ (s0 = 0) → ((inR x2) ∧ ((cO 11 = 9) ∧ ((inR ((sc 177) - 1)) ∧ (Ev 1 M_Md_in (0, [some (vL x2), none, some (vL 0), none, some (vL ((sc 177) - 1)), none], [], (sc, ar)) (fun r1 h1 => Ev 2 M_Md_swap (34, [some (vO 11), some (vI x1), some (vI x2), none], mPush r1 [], h1) Q)))))) from ⟨k.1, fun c1 => (k.2.1 c1), fun c1 => ⟨(k.2.2 c1).1, ⟨(by decide), ⟨(k.2.2 c1).2.1, (k.2.2 c1).2.2⟩⟩⟩⟩)
theorem sg_Md_swap_34 {sc : Nat → Int} {ar : Nat → Nat → Int} {x1 x2 s0 : Int} {Q : Option mV → mH → Prop} (k : inR s0 ∧ 
  (s0 ≠ 0 → ((0 : Int) ≤ x1 ∧ x1 < (8 : Int) ∧ 
    ((0 : Int) ≤ x2 ∧ x2 < (8 : Int) ∧ 
    ((0 : Int) ≤ x1 ∧ x1 < (8 : Int) ∧ 
    ((0 : Int) ≤ x2 ∧ x2 < (8 : Int) ∧ 
    (Ev 1 M_Md_guessOf (0, [some (vO 11), none, none, none], [], (sc, (up (up ar 181 (up (ar 181) x1.toNat (ar 181 x2.toNat))) 181 (up (up (ar 181) x1.toNat (ar 181 x2.toNat)) x2.toNat (ar 181 x1.toNat))))) (fun r1 h1 => Ev 2 M_Md_swap (70, [some (vO 11), some (vI x1), some (vI x2), some (vI (ar 181 x1.toNat))], mPush r1 [], h1) Q))))))) ∧ 
  (¬ (s0 ≠ 0) → (Q (some (vI (-2))) (sc, ar)))) :
  Ev 2 M_Md_swap (34, [some (vO 11), some (vI x1), some (vI x2), none], [vI s0], (sc, ar)) Q :=
  wq_ok 200 _ _ [(18, 3), (34, 3), (70, 4)] _ _ _ _ _ (show (inR s0) ∧ (s0 ≠ 0 → ((cO 11 = 9) ∧ ((aK 181 = 0 ∧ (0 : Int) ≤ x1 ∧ x1 < (8 : Int)) ∧ ((cO 11 = 9) ∧ ((cO 11 = 9) ∧ ((aK 181 = 0 ∧ (0 : Int) ≤ x2 ∧ x2 < (8 : Int)) ∧ ((aK 181 = 0 ∧ 181 ≠ 999 ∧ (0 : Int) ≤ x1 ∧ x1 < (8 : Int)) ∧ ((cO 11 = 9) ∧ ((aK 181 = 0 ∧ 181 ≠ 999 ∧ (0 : Int) ≤ x2 ∧ x2 < (8 : Int)) ∧ ((cO 11 = mK M_Md_guessOf) ∧ (Ev 1 M_Md_guessOf (0, [some (vO 11), none, none, none], [], (sc, (up (up ar 181 (up (ar 181) x1.toNat (ar 181 x2.toNat))) 181 (up (up (ar 181) x1.toNat (ar 181 x2.toNat)) x2.toNat (ar 181 x1.toNat))))) (fun r1 h1 => Ev 2 M_Md_swap (70, [some (vO 11), some (vI x1), some (vI x2), some (vI (ar 181 x1.toNat))], mPush r1 [], h1) Q)))))))))))) ∧ (¬ (s0 ≠ 0) → (Q (some (vI (-2))) (sc, ar))) from ⟨k.1, fun c1 => ⟨(by decide), ⟨⟨(by decide), (k.2.1 c1).1, (k.2.1 c1).2.1⟩, ⟨(by decide), ⟨(by decide), ⟨⟨(by decide), (k.2.1 c1).2.2.1, (k.2.1 c1).2.2.2.1⟩, ⟨⟨(by decide), (by decide), (k.2.1 c1).2.2.2.2.1, (k.2.1 c1).2.2.2.2.2.1⟩, ⟨(by decide), ⟨⟨(by decide), (by decide), (k.2.1 c1).2.2.2.2.2.2.1, (k.2.1 c1).2.2.2.2.2.2.2.1⟩, ⟨(by decide), (k.2.1 c1).2.2.2.2.2.2.2.2⟩⟩⟩⟩⟩⟩⟩⟩⟩, fun c1 => (k.2.2 c1)⟩)
theorem sg_Md_swap_70 {sc : Nat → Int} {ar : Nat → Nat → Int} {x1 x2 x3 s0 : Int} {Q : Option mV → mH → Prop} (k : Q (some (vI s0)) (sc, ar)) :
  Ev 2 M_Md_swap (70, [some (vO 11), some (vI x1), some (vI x2), some (vI x3)], [vI s0], (sc, ar)) Q :=
  wq_ok 200 _ _ [(18, 3), (34, 3), (70, 4)] _ _ _ _ _ (show Q (some (vI s0)) (sc, ar) from k)
theorem sg_Md_take_0 {sc : Nat → Int} {ar : Nat → Nat → Int} {Q : Option mV → mH → Prop} (k : Ev 2 M_Md_leastRow (0, [some (vO 11), none, none, none, none], [], ((up sc 176 0), ar)) (fun r1 h1 => Ev 3 M_Md_take (9, [some (vO 11), none], mPush r1 [], h1) Q)) :
  Ev 3 M_Md_take (0, [some (vO 11), none], [], (sc, ar)) Q :=
  wq_ok 200 _ _ [(9, 1), (11, 2), (41, 2)] _ _ _ _ _ (show (cO 11 = 9) ∧ ((cO 11 = mK M_Md_leastRow) ∧ (Ev 2 M_Md_leastRow (0, [some (vO 11), none, none, none, none], [], ((up sc 176 0), ar)) (fun r1 h1 => Ev 3 M_Md_take (9, [some (vO 11), none], mPush r1 [], h1) Q))) from ⟨(by decide), ⟨(by decide), k⟩⟩)
theorem sg_Md_take_9 {sc : Nat → Int} {ar : Nat → Nat → Int} {Q : Option mV → mH → Prop} (k : Ev 3 M_Md_take (11, [some (vO 11), some (vI 0)], [], (sc, ar)) Q) :
  Ev 3 M_Md_take (9, [some (vO 11), none], [], (sc, ar)) Q :=
  wq_ok 200 _ _ [(9, 1), (11, 2), (41, 2)] _ _ _ _ _ (show Ev 3 M_Md_take (11, [some (vO 11), some (vI 0)], [], (sc, ar)) Q from k)
theorem sg_Md_take_11 {sc : Nat → Int} {ar : Nat → Nat → Int} {x1 : Int} {Q : Option mV → mH → Prop} (k : inR x1 ∧ inR (sc 177) ∧ 
  ((sc 177) ≤ x1 → (Ev 2 M_Md_guessOf (0, [some (vO 11), none, none, none], [], (sc, ar)) (fun r1 h1 => Ev 3 M_Md_take (41, [some (vO 11), some (vI x1)], mPush r1 [], h1) Q))) ∧ 
  (¬ ((sc 177) ≤ x1) → ((0 : Int) ≤ x1 ∧ x1 < (8 : Int) ∧ 
    ((0 : Int) ≤ x1 ∧ x1 < (8 : Int) ∧ 
    (Ev 3 M_Md_take (11, [some (vO 11), some (vI (x1 + 1))], [], (sc, (up ar 181 (up (ar 181) x1.toNat (ar 188 x1.toNat))))) Q))))) :
  Ev 3 M_Md_take (11, [some (vO 11), some (vI x1)], [], (sc, ar)) Q :=
  wq_ok 200 _ _ [(9, 1), (11, 2), (41, 2)] _ _ _ _ _ (show (cO 11 = 9) ∧ ((inR x1 ∧ inR (sc 177)) ∧ ((sc 177) ≤ x1 → ((cO 11 = mK M_Md_guessOf) ∧ (Ev 2 M_Md_guessOf (0, [some (vO 11), none, none, none], [], (sc, ar)) (fun r1 h1 => Ev 3 M_Md_take (41, [some (vO 11), some (vI x1)], mPush r1 [], h1) Q)))) ∧ (¬ ((sc 177) ≤ x1) → ((cO 11 = 9) ∧ ((cO 11 = 9) ∧ ((aK 188 = 0 ∧ (0 : Int) ≤ x1 ∧ x1 < (8 : Int)) ∧ ((aK 181 = 0 ∧ 181 ≠ 999 ∧ (0 : Int) ≤ x1 ∧ x1 < (8 : Int)) ∧ (Ev 3 M_Md_take (11, [some (vO 11), some (vI (x1 + 1))], [], (sc, (up ar 181 (up (ar 181) x1.toNat (ar 188 x1.toNat))))) Q))))))) from ⟨(by decide), ⟨⟨k.1, k.2.1⟩, fun c1 => ⟨(by decide), (k.2.2.1 c1)⟩, fun c1 => ⟨(by decide), ⟨(by decide), ⟨⟨(by decide), (k.2.2.2 c1).1, (k.2.2.2 c1).2.1⟩, ⟨⟨(by decide), (by decide), (k.2.2.2 c1).2.2.1, (k.2.2.2 c1).2.2.2.1⟩, (k.2.2.2 c1).2.2.2.2⟩⟩⟩⟩⟩⟩)
theorem sg_Md_take_41 {sc : Nat → Int} {ar : Nat → Nat → Int} {x1 s0 : Int} {Q : Option mV → mH → Prop} (k : Q (some (vI s0)) (sc, ar)) :
  Ev 3 M_Md_take (41, [some (vO 11), some (vI x1)], [vI s0], (sc, ar)) Q :=
  wq_ok 200 _ _ [(9, 1), (11, 2), (41, 2)] _ _ _ _ _ (show Q (some (vI s0)) (sc, ar) from k)
theorem sg_Md_guess_0 {sc : Nat → Int} {ar : Nat → Nat → Int} {Q : Option mV → mH → Prop} (k : Ev 1 M_Md_guessOf (0, [some (vO 11), none, none, none], [], ((up sc 176 0), ar)) (fun r1 h1 => Ev 2 M_Md_guess (9, [some (vO 11)], mPush r1 [], h1) Q)) :
  Ev 2 M_Md_guess (0, [some (vO 11)], [], (sc, ar)) Q :=
  wq_ok 200 _ _ [(9, 1)] _ _ _ _ _ (show (cO 11 = 9) ∧ ((cO 11 = mK M_Md_guessOf) ∧ (Ev 1 M_Md_guessOf (0, [some (vO 11), none, none, none], [], ((up sc 176 0), ar)) (fun r1 h1 => Ev 2 M_Md_guess (9, [some (vO 11)], mPush r1 [], h1) Q))) from ⟨(by decide), ⟨(by decide), k⟩⟩)
theorem sg_Md_guess_9 {sc : Nat → Int} {ar : Nat → Nat → Int} {s0 : Int} {Q : Option mV → mH → Prop} (k : Q (some (vI s0)) (sc, ar)) :
  Ev 2 M_Md_guess (9, [some (vO 11)], [vI s0], (sc, ar)) Q :=
  wq_ok 200 _ _ [(9, 1)] _ _ _ _ _ (show Q (some (vI s0)) (sc, ar) from k)
theorem sg_Md_placeOf_0 {sc : Nat → Int} {ar : Nat → Nat → Int} {x1 : Int} {Q : Option mV → mH → Prop} (k : Ev 0 M_Md_placeOf (4, [some (vO 11), some (vI x1), some (vI 0), some (vI 0)], [], (sc, ar)) Q) :
  Ev 0 M_Md_placeOf (0, [some (vO 11), some (vI x1), none, none], [], (sc, ar)) Q :=
  wq_ok 200 _ _ [(4, 4)] _ _ _ _ _ (show Ev 0 M_Md_placeOf (4, [some (vO 11), some (vI x1), some (vI 0), some (vI 0)], [], (sc, ar)) Q from k)
theorem sg_Md_placeOf_4 {sc : Nat → Int} {ar : Nat → Nat → Int} {x1 x2 x3 : Int} {Q : Option mV → mH → Prop} (k : inR x3 ∧ inR (sc 177) ∧ 
  ((sc 177) ≤ x3 → (Q (some (vI x2)) (sc, ar))) ∧ 
  (¬ ((sc 177) ≤ x3) → ((0 : Int) ≤ x3 ∧ x3 < (8 : Int) ∧ 
    (inR (ar 181 x3.toNat) ∧ inR x1 ∧ 
    ((ar 181 x3.toNat) ≠ x1 → (Ev 0 M_Md_placeOf (4, [some (vO 11), some (vI x1), some (vI x2), some (vI (x3 + 1))], [], (sc, ar)) Q)) ∧ 
    (¬ ((ar 181 x3.toNat) ≠ x1) → (Ev 0 M_Md_placeOf (4, [some (vO 11), some (vI x1), some (vI x3), some (vI (x3 + 1))], [], (sc, ar)) Q)))))) :
  Ev 0 M_Md_placeOf (4, [some (vO 11), some (vI x1), some (vI x2), some (vI x3)], [], (sc, ar)) Q :=
  wq_ok 200 _ _ [(4, 4)] _ _ _ _ _ (show (cO 11 = 9) ∧ ((inR x3 ∧ inR (sc 177)) ∧ ((sc 177) ≤ x3 → (Q (some (vI x2)) (sc, ar))) ∧ (¬ ((sc 177) ≤ x3) → ((cO 11 = 9) ∧ ((aK 181 = 0 ∧ (0 : Int) ≤ x3 ∧ x3 < (8 : Int)) ∧ ((inR (ar 181 x3.toNat) ∧ inR x1) ∧ ((ar 181 x3.toNat) ≠ x1 → (Ev 0 M_Md_placeOf (4, [some (vO 11), some (vI x1), some (vI x2), some (vI (x3 + 1))], [], (sc, ar)) Q)) ∧ (¬ ((ar 181 x3.toNat) ≠ x1) → (Ev 0 M_Md_placeOf (4, [some (vO 11), some (vI x1), some (vI x3), some (vI (x3 + 1))], [], (sc, ar)) Q))))))) from ⟨(by decide), ⟨⟨k.1, k.2.1⟩, fun c1 => (k.2.2.1 c1), fun c1 => ⟨(by decide), ⟨⟨(by decide), (k.2.2.2 c1).1, (k.2.2.2 c1).2.1⟩, ⟨⟨(k.2.2.2 c1).2.2.1, (k.2.2.2 c1).2.2.2.1⟩, fun c2 => ((k.2.2.2 c1).2.2.2.2.1 c2), fun c2 => ((k.2.2.2 c1).2.2.2.2.2 c2)⟩⟩⟩⟩⟩)
theorem sg_Md_torn_0 {sc : Nat → Int} {ar : Nat → Nat → Int} {x1 x2 : Int} {Q : Option mV → mH → Prop} (k : Ev 1 M_Md_no (0, [some (vO 11), some (vI x1)], [], ((up sc 176 0), ar)) (fun r1 h1 => Ev 2 M_Md_torn (10, [some (vO 11), some (vI x1), some (vI x2)], mPush r1 [], h1) Q)) :
  Ev 2 M_Md_torn (0, [some (vO 11), some (vI x1), some (vI x2)], [], (sc, ar)) Q :=
  wq_ok 200 _ _ [(10, 3), (18, 3), (44, 3), (49, 3)] _ _ _ _ _ (show (cO 11 = 9) ∧ ((cO 11 = mK M_Md_no) ∧ (Ev 1 M_Md_no (0, [some (vO 11), some (vI x1)], [], ((up sc 176 0), ar)) (fun r1 h1 => Ev 2 M_Md_torn (10, [some (vO 11), some (vI x1), some (vI x2)], mPush r1 [], h1) Q))) from ⟨(by decide), ⟨(by decide), k⟩⟩)
theorem sg_Md_torn_10 {sc : Nat → Int} {ar : Nat → Nat → Int} {x1 x2 s0 : Int} {Q : Option mV → mH → Prop} (k : inR s0 ∧ 
  (s0 ≠ 0 → (Q (some (vI (-1))) (sc, ar))) ∧ 
  (¬ (s0 ≠ 0) → (Ev 1 M_Md_no (0, [some (vO 11), some (vI x2)], [], (sc, ar)) (fun r1 h1 => Ev 2 M_Md_torn (18, [some (vO 11), some (vI x1), some (vI x2)], mPush r1 [], h1) Q)))) :
  Ev 2 M_Md_torn (10, [some (vO 11), some (vI x1), some (vI x2)], [vI s0], (sc, ar)) Q :=
  wq_ok 200 _ _ [(10, 3), (18, 3), (44, 3), (49, 3)] _ _ _ _ _ (show (inR s0) ∧ (s0 ≠ 0 → (Q (some (vI (-1))) (sc, ar))) ∧ (¬ (s0 ≠ 0) → ((cO 11 = mK M_Md_no) ∧ (Ev 1 M_Md_no (0, [some (vO 11), some (vI x2)], [], (sc, ar)) (fun r1 h1 => Ev 2 M_Md_torn (18, [some (vO 11), some (vI x1), some (vI x2)], mPush r1 [], h1) Q)))) from ⟨k.1, fun c1 => (k.2.1 c1), fun c1 => ⟨(by decide), (k.2.2 c1)⟩⟩)
theorem sg_Md_torn_18 {sc : Nat → Int} {ar : Nat → Nat → Int} {x1 x2 s0 : Int} {Q : Option mV → mH → Prop} (k : inR s0 ∧ 
  (s0 = 0 → ((0 : Int) ≤ ((8 * x1) + x2) ∧ ((8 * x1) + x2) < (64 : Int) ∧ 
    (inR (ar 179 ((8 * x1) + x2).toNat) ∧ 
    ((ar 179 ((8 * x1) + x2).toNat) ≤ 0 → (Q (some (vI 0)) (sc, ar))) ∧ 
    (¬ ((ar 179 ((8 * x1) + x2).toNat) ≤ 0) → (Ev 1 M_Md_placeOf (0, [some (vO 11), some (vI x2), none, none], [], (sc, ar)) (fun r1 h1 => Ev 2 M_Md_torn (44, [some (vO 11), some (vI x1), some (vI x2)], mPush r1 [], h1) Q)))))) ∧ 
  (¬ (s0 = 0) → (Q (some (vI (-1))) (sc, ar)))) :
  Ev 2 M_Md_torn (18, [some (vO 11), some (vI x1), some (vI x2)], [vI s0], (sc, ar)) Q :=
  wq_ok 200 _ _ [(10, 3), (18, 3), (44, 3), (49, 3)] _ _ _ _ _ (show (inR s0) ∧ (s0 = 0 → ((cO 11 = 9) ∧ ((aK 179 = 0 ∧ (0 : Int) ≤ ((8 * x1) + x2) ∧ ((8 * x1) + x2) < (64 : Int)) ∧ ((inR (ar 179 ((8 * x1) + x2).toNat)) ∧ ((ar 179 ((8 * x1) + x2).toNat) ≤ 0 → (Q (some (vI 0)) (sc, ar))) ∧ (¬ ((ar 179 ((8 * x1) + x2).toNat) ≤ 0) → ((cO 11 = mK M_Md_placeOf) ∧ (Ev 1 M_Md_placeOf (0, [some (vO 11), some (vI x2), none, none], [], (sc, ar)) (fun r1 h1 => Ev 2 M_Md_torn (44, [some (vO 11), some (vI x1), some (vI x2)], mPush r1 [], h1) Q)))))))) ∧ (¬ (s0 = 0) → (Q (some (vI (-1))) (sc, ar))) from ⟨k.1, fun c1 => ⟨(by decide), ⟨⟨(by decide), (k.2.1 c1).1, (k.2.1 c1).2.1⟩, ⟨(k.2.1 c1).2.2.1, fun c2 => ((k.2.1 c1).2.2.2.1 c2), fun c2 => ⟨(by decide), ((k.2.1 c1).2.2.2.2 c2)⟩⟩⟩⟩, fun c1 => (k.2.2 c1)⟩)
theorem sg_Md_torn_44 {sc : Nat → Int} {ar : Nat → Nat → Int} {x1 x2 s0 : Int} {Q : Option mV → mH → Prop} (k : Ev 1 M_Md_placeOf (0, [some (vO 11), some (vI x1), none, none], [], (sc, ar)) (fun r1 h1 => Ev 2 M_Md_torn (49, [some (vO 11), some (vI x1), some (vI x2)], mPush r1 [vI s0], h1) Q)) :
  Ev 2 M_Md_torn (44, [some (vO 11), some (vI x1), some (vI x2)], [vI s0], (sc, ar)) Q :=
  wq_ok 200 _ _ [(10, 3), (18, 3), (44, 3), (49, 3)] _ _ _ _ _ (show (cO 11 = mK M_Md_placeOf) ∧ (Ev 1 M_Md_placeOf (0, [some (vO 11), some (vI x1), none, none], [], (sc, ar)) (fun r1 h1 => Ev 2 M_Md_torn (49, [some (vO 11), some (vI x1), some (vI x2)], mPush r1 [vI s0], h1) Q)) from ⟨(by decide), k⟩)
theorem sg_Md_torn_49 {sc : Nat → Int} {ar : Nat → Nat → Int} {x1 x2 s0 s1 : Int} {Q : Option mV → mH → Prop} (k : inR s1 ∧ inR s0 ∧ 
  (s1 ≤ s0 → (Q (some (vI 0)) (sc, ar))) ∧ 
  (¬ (s1 ≤ s0) → (Q (some (vI 1)) (sc, ar)))) :
  Ev 2 M_Md_torn (49, [some (vO 11), some (vI x1), some (vI x2)], [vI s0, vI s1], (sc, ar)) Q :=
  wq_ok 200 _ _ [(10, 3), (18, 3), (44, 3), (49, 3)] _ _ _ _ _ (show (inR s1 ∧ inR s0) ∧ (s1 ≤ s0 → (Q (some (vI 0)) (sc, ar))) ∧ (¬ (s1 ≤ s0) → (Q (some (vI 1)) (sc, ar))) from ⟨⟨k.1, k.2.1⟩, fun c1 => (k.2.2.1 c1), fun c1 => (k.2.2.2 c1)⟩)
theorem sg_Md_chance_0 {sc : Nat → Int} {ar : Nat → Nat → Int} {x1 x2 x3 : Int} {Q : Option mV → mH → Prop} (k : Ev 1 M_Md_no (0, [some (vO 11), some (vI x1)], [], ((up sc 176 0), ar)) (fun r1 h1 => Ev 2 M_Md_chance (10, [some (vO 11), some (vI x1), some (vI x2), some (vI x3), none, none], mPush r1 [], h1) Q)) :
  Ev 2 M_Md_chance (0, [some (vO 11), some (vI x1), some (vI x2), some (vI x3), none, none], [], (sc, ar)) Q :=
  wq_ok 200 _ _ [(10, 4), (18, 4), (32, 4), (44, 6)] _ _ _ _ _ (show (cO 11 = 9) ∧ ((cO 11 = mK M_Md_no) ∧ (Ev 1 M_Md_no (0, [some (vO 11), some (vI x1)], [], ((up sc 176 0), ar)) (fun r1 h1 => Ev 2 M_Md_chance (10, [some (vO 11), some (vI x1), some (vI x2), some (vI x3), none, none], mPush r1 [], h1) Q))) from ⟨(by decide), ⟨(by decide), k⟩⟩)
theorem sg_Md_chance_10 {sc : Nat → Int} {ar : Nat → Nat → Int} {x1 x2 x3 s0 : Int} {Q : Option mV → mH → Prop} (k : inR s0 ∧ 
  (s0 ≠ 0 → (Q (some (vI (-1))) (sc, ar))) ∧ 
  (¬ (s0 ≠ 0) → (Ev 1 M_Md_no (0, [some (vO 11), some (vI x2)], [], (sc, ar)) (fun r1 h1 => Ev 2 M_Md_chance (18, [some (vO 11), some (vI x1), some (vI x2), some (vI x3), none, none], mPush r1 [], h1) Q)))) :
  Ev 2 M_Md_chance (10, [some (vO 11), some (vI x1), some (vI x2), some (vI x3), none, none], [vI s0], (sc, ar)) Q :=
  wq_ok 200 _ _ [(10, 4), (18, 4), (32, 4), (44, 6)] _ _ _ _ _ (show (inR s0) ∧ (s0 ≠ 0 → (Q (some (vI (-1))) (sc, ar))) ∧ (¬ (s0 ≠ 0) → ((cO 11 = mK M_Md_no) ∧ (Ev 1 M_Md_no (0, [some (vO 11), some (vI x2)], [], (sc, ar)) (fun r1 h1 => Ev 2 M_Md_chance (18, [some (vO 11), some (vI x1), some (vI x2), some (vI x3), none, none], mPush r1 [], h1) Q)))) from ⟨k.1, fun c1 => (k.2.1 c1), fun c1 => ⟨(by decide), (k.2.2 c1)⟩⟩)
theorem sg_Md_chance_18 {sc : Nat → Int} {ar : Nat → Nat → Int} {x1 x2 x3 s0 : Int} {Q : Option mV → mH → Prop} (k : inR s0 ∧ 
  (s0 = 0 → (inR x3 ∧ 
    (Ev 1 M_Md_in (0, [some (vL x3), none, some (vL 0), none, some (vL 8), none], [], (sc, ar)) (fun r1 h1 => Ev 2 M_Md_chance (32, [some (vO 11), some (vI x1), some (vI x2), some (vI x3), none, none], mPush r1 [], h1) Q)))) ∧ 
  (¬ (s0 = 0) → (Q (some (vI (-1))) (sc, ar)))) :
  Ev 2 M_Md_chance (18, [some (vO 11), some (vI x1), some (vI x2), some (vI x3), none, none], [vI s0], (sc, ar)) Q :=
  wq_ok 200 _ _ [(10, 4), (18, 4), (32, 4), (44, 6)] _ _ _ _ _ (show (inR s0) ∧ (s0 = 0 → ((inR x3) ∧ (Ev 1 M_Md_in (0, [some (vL x3), none, some (vL 0), none, some (vL 8), none], [], (sc, ar)) (fun r1 h1 => Ev 2 M_Md_chance (32, [some (vO 11), some (vI x1), some (vI x2), some (vI x3), none, none], mPush r1 [], h1) Q)))) ∧ (¬ (s0 = 0) → (Q (some (vI (-1))) (sc, ar))) from ⟨k.1, fun c1 => ⟨(k.2.1 c1).1, (k.2.1 c1).2⟩, fun c1 => (k.2.2 c1)⟩)
theorem sg_Md_chance_32 {sc : Nat → Int} {ar : Nat → Nat → Int} {x1 x2 x3 s0 : Int} {Q : Option mV → mH → Prop} (k : inR s0 ∧ 
  (s0 ≠ 0 → (Ev 2 M_Md_chance (44, [some (vO 11), some (vI x1), some (vI x2), some (vI x3), some (vI x3), some (vI 0)], [], (sc, ar)) Q)) ∧ 
  (¬ (s0 ≠ 0) → (Q (some (vI (-2))) (sc, ar)))) :
  Ev 2 M_Md_chance (32, [some (vO 11), some (vI x1), some (vI x2), some (vI x3), none, none], [vI s0], (sc, ar)) Q :=
  wq_ok 200 _ _ [(10, 4), (18, 4), (32, 4), (44, 6)] _ _ _ _ _ (show (inR s0) ∧ (s0 ≠ 0 → (Ev 2 M_Md_chance (44, [some (vO 11), some (vI x1), some (vI x2), some (vI x3), some (vI x3), some (vI 0)], [], (sc, ar)) Q)) ∧ (¬ (s0 ≠ 0) → (Q (some (vI (-2))) (sc, ar))) from ⟨k.1, fun c1 => (k.2.1 c1), fun c1 => (k.2.2 c1)⟩)
theorem sg_Md_chance_44 {sc : Nat → Int} {ar : Nat → Nat → Int} {x1 x2 x3 x4 x5 : Int} {Q : Option mV → mH → Prop} (k : inR x5 ∧ 
  (8 ≤ x5 → (inR x1 ∧ inR x2 ∧ 
    (x1 = x2 → (Q (some (vI (-3))) (sc, ar))) ∧ 
    (¬ (x1 = x2) → (inR x4 ∧ 
      (x4 ≤ 8 → ((0 : Int) ≤ ((8 * x1) + x2) ∧ ((8 * x1) + x2) < (64 : Int) ∧ 
        ((0 : Int) ≤ ((8 * x1) + x2) ∧ ((8 * x1) + x2) < (64 : Int) ∧ 
        (Q (some (vI (ar 180 ((8 * x1) + x2).toNat))) (sc, (up ar 180 (up (ar 180) ((8 * x1) + x2).toNat x3))))))) ∧ 
      (¬ (x4 ≤ 8) → (Q (some (vI (-3))) (sc, ar))))))) ∧ 
  (¬ (8 ≤ x5) → (inR x5 ∧ inR x2 ∧ 
    (x5 ≠ x2 → ((0 : Int) ≤ ((8 * x1) + x5) ∧ ((8 * x1) + x5) < (64 : Int) ∧ 
      (Ev 2 M_Md_chance (44, [some (vO 11), some (vI x1), some (vI x2), some (vI x3), some (vI (x4 + (ar 180 ((8 * x1) + x5).toNat))), some (vI (x5 + 1))], [], (sc, ar)) Q))) ∧ 
    (¬ (x5 ≠ x2) → (Ev 2 M_Md_chance (44, [some (vO 11), some (vI x1), some (vI x2), some (vI x3), some (vI (x4 + 0)), some (vI (x5 + 1))], [], (sc, ar)) Q))))) :
  Ev 2 M_Md_chance (44, [some (vO 11), some (vI x1), some (vI x2), some (vI x3), some (vI x4), some (vI x5)], [], (sc, ar)) Q :=
  wq_ok 200 _ _ [(10, 4), (18, 4), (32, 4), (44, 6)] _ _ _ _ _ (show (inR x5 ∧ inR 8) ∧ (8 ≤ x5 → ((inR x1 ∧ inR x2) ∧ (x1 = x2 → (Q (some (vI (-3))) (sc, ar))) ∧ (¬ (x1 = x2) → ((inR x4 ∧ inR 8) ∧ (x4 ≤ 8 → ((cO 11 = 9) ∧ ((aK 180 = 0 ∧ (0 : Int) ≤ ((8 * x1) + x2) ∧ ((8 * x1) + x2) < (64 : Int)) ∧ ((cO 11 = 9) ∧ ((aK 180 = 0 ∧ 180 ≠ 999 ∧ (0 : Int) ≤ ((8 * x1) + x2) ∧ ((8 * x1) + x2) < (64 : Int)) ∧ (Q (some (vI (ar 180 ((8 * x1) + x2).toNat))) (sc, (up ar 180 (up (ar 180) ((8 * x1) + x2).toNat x3))))))))) ∧ (¬ (x4 ≤ 8) → (Q (some (vI (-3))) (sc, ar))))))) ∧ (¬ (8 ≤ x5) → ((inR x5 ∧ inR x2) ∧ (x5 ≠ x2 → ((cO 11 = 9) ∧ ((aK 180 = 0 ∧ (0 : Int) ≤ ((8 * x1) + x5) ∧ ((8 * x1) + x5) < (64 : Int)) ∧ (Ev 2 M_Md_chance (44, [some (vO 11), some (vI x1), some (vI x2), some (vI x3), some (vI (x4 + (ar 180 ((8 * x1) + x5).toNat))), some (vI (x5 + 1))], [], (sc, ar)) Q)))) ∧ (¬ (x5 ≠ x2) → (Ev 2 M_Md_chance (44, [some (vO 11), some (vI x1), some (vI x2), some (vI x3), some (vI (x4 + 0)), some (vI (x5 + 1))], [], (sc, ar)) Q)))) from ⟨⟨k.1, (by decide)⟩, fun c1 => ⟨⟨(k.2.1 c1).1, (k.2.1 c1).2.1⟩, fun c2 => ((k.2.1 c1).2.2.1 c2), fun c2 => ⟨⟨((k.2.1 c1).2.2.2 c2).1, (by decide)⟩, fun c3 => ⟨(by decide), ⟨⟨(by decide), (((k.2.1 c1).2.2.2 c2).2.1 c3).1, (((k.2.1 c1).2.2.2 c2).2.1 c3).2.1⟩, ⟨(by decide), ⟨⟨(by decide), (by decide), (((k.2.1 c1).2.2.2 c2).2.1 c3).2.2.1, (((k.2.1 c1).2.2.2 c2).2.1 c3).2.2.2.1⟩, (((k.2.1 c1).2.2.2 c2).2.1 c3).2.2.2.2⟩⟩⟩⟩, fun c3 => (((k.2.1 c1).2.2.2 c2).2.2 c3)⟩⟩, fun c1 => ⟨⟨(k.2.2 c1).1, (k.2.2 c1).2.1⟩, fun c4 => ⟨(by decide), ⟨⟨(by decide), ((k.2.2 c1).2.2.1 c4).1, ((k.2.2 c1).2.2.1 c4).2.1⟩, ((k.2.2 c1).2.2.1 c4).2.2⟩⟩, fun c4 => ((k.2.2 c1).2.2.2 c4)⟩⟩)
theorem sg_Md_meanOf_0 {sc : Nat → Int} {ar : Nat → Nat → Int} {x1 x2 : Int} {Q : Option mV → mH → Prop} (k : Ev 1 M_Md_meanOf (9, [some (vO 11), some (vI x1), some (vI x2), some (vI 0), none, none, none, none, none, none, none], [], (sc, (up ar 186 (up (ar 186) (0 : Int).toNat 1)))) Q) :
  Ev 1 M_Md_meanOf (0, [some (vO 11), some (vI x1), some (vI x2), none, none, none, none, none, none, none, none], [], (sc, ar)) Q :=
  wq_ok 200 _ _ [(9, 4), (72, 9), (109, 11), (200, 6), (259, 6)] _ _ _ _ _ (show (cO 11 = 9) ∧ ((aK 186 = 1 ∧ 186 ≠ 999 ∧ (0 : Int) ≤ 0 ∧ 0 < (9 : Int)) ∧ (Ev 1 M_Md_meanOf (9, [some (vO 11), some (vI x1), some (vI x2), some (vI 0), none, none, none, none, none, none, none], [], (sc, (up ar 186 (up (ar 186) (0 : Int).toNat 1)))) Q)) from ⟨(by decide), ⟨⟨(by decide), (by decide), (by decide), (by decide)⟩, k⟩⟩)
theorem sg_Md_meanOf_9 {sc : Nat → Int} {ar : Nat → Nat → Int} {x1 x2 x3 : Int} {Q : Option mV → mH → Prop} (k : inR x3 ∧ inR (sc 177) ∧ 
  ((sc 177) ≤ x3 → (Ev 1 M_Md_meanOf (200, [some (vO 11), some (vI x1), some (vI x2), some (vL 0), none, some (vI 0), none, none, none, none, none], [], (sc, ar)) Q)) ∧ 
  (¬ ((sc 177) ≤ x3) → ((0 : Int) ≤ x3 ∧ x3 < (8 : Int) ∧ 
    (inR x1 ∧ 
    (x1 ≠ (-9) → (inR x1 ∧ inR (ar 181 x3.toNat) ∧ 
      (x1 ≠ (ar 181 x3.toNat) → ((0 : Int) ≤ x3 ∧ x3 < (9 : Int) ∧ 
        (Ev 1 M_Md_meanOf (72, [some (vO 11), some (vI x1), some (vI x2), some (vI x3), some (vI (ar 181 x3.toNat)), some (vI 0), some (vL ((10 * 0) * (ar 186 x3.toNat))), none, some (vI 0), none, none], [], (sc, ar)) Q))) ∧ 
      (¬ (x1 ≠ (ar 181 x3.toNat)) → ((0 : Int) ≤ x3 ∧ x3 < (9 : Int) ∧ 
        (Ev 1 M_Md_meanOf (72, [some (vO 11), some (vI x1), some (vI x2), some (vI x3), some (vI (ar 181 x3.toNat)), some (vI 0), some (vL ((10 * 1) * (ar 186 x3.toNat))), none, some (vI 0), none, none], [], (sc, ar)) Q))))) ∧ 
    (¬ (x1 ≠ (-9)) → ((0 : Int) ≤ (ar 181 x3.toNat) ∧ (ar 181 x3.toNat) < (8 : Int) ∧ 
      (inR (ar 178 (ar 181 x3.toNat).toNat) ∧ 
      ((0 : Int) ≤ x3 ∧ x3 < (9 : Int) ∧ 
      (Ev 1 M_Md_meanOf (72, [some (vO 11), some (vI x1), some (vI x2), some (vI x3), some (vI (ar 181 x3.toNat)), some (vI 0), some (vL ((10 * (ar 178 (ar 181 x3.toNat).toNat)) * (ar 186 x3.toNat))), none, some (vI 0), none, none], [], (sc, ar)) Q))))))))) :
  Ev 1 M_Md_meanOf (9, [some (vO 11), some (vI x1), some (vI x2), some (vI x3), none, none, none, none, none, none, none], [], (sc, ar)) Q :=
  wq_ok 200 _ _ [(9, 4), (72, 9), (109, 11), (200, 6), (259, 6)] _ _ _ _ _ (show (cO 11 = 9) ∧ ((inR x3 ∧ inR (sc 177)) ∧ ((sc 177) ≤ x3 → (Ev 1 M_Md_meanOf (200, [some (vO 11), some (vI x1), some (vI x2), some (vL 0), none, some (vI 0), none, none, none, none, none], [], (sc, ar)) Q)) ∧ (¬ ((sc 177) ≤ x3) → ((cO 11 = 9) ∧ ((aK 181 = 0 ∧ (0 : Int) ≤ x3 ∧ x3 < (8 : Int)) ∧ ((inR x1 ∧ inR (-9)) ∧ (x1 ≠ (-9) → ((inR x1 ∧ inR (ar 181 x3.toNat)) ∧ (x1 ≠ (ar 181 x3.toNat) → ((inR 0) ∧ ((cO 11 = 9) ∧ ((aK 186 = 1 ∧ (0 : Int) ≤ x3 ∧ x3 < (9 : Int)) ∧ (Ev 1 M_Md_meanOf (72, [some (vO 11), some (vI x1), some (vI x2), some (vI x3), some (vI (ar 181 x3.toNat)), some (vI 0), some (vL ((10 * 0) * (ar 186 x3.toNat))), none, some (vI 0), none, none], [], (sc, ar)) Q))))) ∧ (¬ (x1 ≠ (ar 181 x3.toNat)) → ((inR 1) ∧ ((cO 11 = 9) ∧ ((aK 186 = 1 ∧ (0 : Int) ≤ x3 ∧ x3 < (9 : Int)) ∧ (Ev 1 M_Md_meanOf (72, [some (vO 11), some (vI x1), some (vI x2), some (vI x3), some (vI (ar 181 x3.toNat)), some (vI 0), some (vL ((10 * 1) * (ar 186 x3.toNat))), none, some (vI 0), none, none], [], (sc, ar)) Q))))))) ∧ (¬ (x1 ≠ (-9)) → ((cO 11 = 9) ∧ ((aK 178 = 0 ∧ (0 : Int) ≤ (ar 181 x3.toNat) ∧ (ar 181 x3.toNat) < (8 : Int)) ∧ ((inR (ar 178 (ar 181 x3.toNat).toNat)) ∧ ((cO 11 = 9) ∧ ((aK 186 = 1 ∧ (0 : Int) ≤ x3 ∧ x3 < (9 : Int)) ∧ (Ev 1 M_Md_meanOf (72, [some (vO 11), some (vI x1), some (vI x2), some (vI x3), some (vI (ar 181 x3.toNat)), some (vI 0), some (vL ((10 * (ar 178 (ar 181 x3.toNat).toNat)) * (ar 186 x3.toNat))), none, some (vI 0), none, none], [], (sc, ar)) Q)))))))))))) from ⟨(by decide), ⟨⟨k.1, k.2.1⟩, fun c1 => (k.2.2.1 c1), fun c1 => ⟨(by decide), ⟨⟨(by decide), (k.2.2.2 c1).1, (k.2.2.2 c1).2.1⟩, ⟨⟨(k.2.2.2 c1).2.2.1, (by decide)⟩, fun c2 => ⟨⟨((k.2.2.2 c1).2.2.2.1 c2).1, ((k.2.2.2 c1).2.2.2.1 c2).2.1⟩, fun c3 => ⟨(by decide), ⟨(by decide), ⟨⟨(by decide), (((k.2.2.2 c1).2.2.2.1 c2).2.2.1 c3).1, (((k.2.2.2 c1).2.2.2.1 c2).2.2.1 c3).2.1⟩, (((k.2.2.2 c1).2.2.2.1 c2).2.2.1 c3).2.2⟩⟩⟩, fun c3 => ⟨(by decide), ⟨(by decide), ⟨⟨(by decide), (((k.2.2.2 c1).2.2.2.1 c2).2.2.2 c3).1, (((k.2.2.2 c1).2.2.2.1 c2).2.2.2 c3).2.1⟩, (((k.2.2.2 c1).2.2.2.1 c2).2.2.2 c3).2.2⟩⟩⟩⟩, fun c2 => ⟨(by decide), ⟨⟨(by decide), ((k.2.2.2 c1).2.2.2.2 c2).1, ((k.2.2.2 c1).2.2.2.2 c2).2.1⟩, ⟨((k.2.2.2 c1).2.2.2.2 c2).2.2.1, ⟨(by decide), ⟨⟨(by decide), ((k.2.2.2 c1).2.2.2.2 c2).2.2.2.1, ((k.2.2.2 c1).2.2.2.2 c2).2.2.2.2.1⟩, ((k.2.2.2 c1).2.2.2.2 c2).2.2.2.2.2⟩⟩⟩⟩⟩⟩⟩⟩⟩⟩)
theorem sg_Md_meanOf_72 {sc : Nat → Int} {ar : Nat → Nat → Int} {x1 x2 x3 x4 x5 x6 x8 : Int} {Q : Option mV → mH → Prop} (k : inR x8 ∧ inR x3 ∧ 
  (x3 ≤ x8 → ((0 : Int) ≤ x3 ∧ x3 < (8 : Int) ∧ 
    ((0 : Int) ≤ x3 ∧ x3 < (9 : Int) ∧ 
    (inR (10 - x5) ∧ 
    ((0 : Int) ≤ (x3 + 1) ∧ (x3 + 1) < (9 : Int) ∧ 
    (Ev 1 M_Md_meanOf (9, [some (vO 11), some (vI x1), some (vI x2), some (vI (x3 + 1)), none, none, none, none, none, none, none], [], (sc, (up (up ar 185 (up (ar 185) x3.toNat x6)) 186 (up (ar 186) (x3 + 1).toNat ((ar 186 x3.toNat) * (10 - x5)))))) Q)))))) ∧ 
  (¬ (x3 ≤ x8) → ((0 : Int) ≤ x8 ∧ x8 < (8 : Int) ∧ 
    ((0 : Int) ≤ ((8 * x4) + (ar 181 x8.toNat)) ∧ ((8 * x4) + (ar 181 x8.toNat)) < (64 : Int) ∧ 
    (Ev 1 M_Md_meanOf (109, [some (vO 11), some (vI x1), some (vI x2), some (vI x3), some (vI x4), some (vI (x5 + (ar 180 ((8 * x4) + (ar 181 x8.toNat)).toNat))), some (vL x6), none, some (vI x8), some (vI (ar 180 ((8 * x4) + (ar 181 x8.toNat)).toNat)), some (vI x8)], [], (sc, ar)) Q))))) :
  Ev 1 M_Md_meanOf (72, [some (vO 11), some (vI x1), some (vI x2), some (vI x3), some (vI x4), some (vI x5), some (vL x6), none, some (vI x8), none, none], [], (sc, ar)) Q :=
  wq_ok 200 _ _ [(9, 4), (72, 9), (109, 11), (200, 6), (259, 6)] _ _ _ _ _ (show (inR x8 ∧ inR x3) ∧ (x3 ≤ x8 → ((cO 11 = 9) ∧ ((aK 185 = 1 ∧ 185 ≠ 999 ∧ (0 : Int) ≤ x3 ∧ x3 < (8 : Int)) ∧ ((cO 11 = 9) ∧ ((cO 11 = 9) ∧ ((aK 186 = 1 ∧ (0 : Int) ≤ x3 ∧ x3 < (9 : Int)) ∧ ((inR (10 - x5)) ∧ ((aK 186 = 1 ∧ 186 ≠ 999 ∧ (0 : Int) ≤ (x3 + 1) ∧ (x3 + 1) < (9 : Int)) ∧ (Ev 1 M_Md_meanOf (9, [some (vO 11), some (vI x1), some (vI x2), some (vI (x3 + 1)), none, none, none, none, none, none, none], [], (sc, (up (up ar 185 (up (ar 185) x3.toNat x6)) 186 (up (ar 186) (x3 + 1).toNat ((ar 186 x3.toNat) * (10 - x5)))))) Q))))))))) ∧ (¬ (x3 ≤ x8) → ((cO 11 = 9) ∧ ((cO 11 = 9) ∧ ((aK 181 = 0 ∧ (0 : Int) ≤ x8 ∧ x8 < (8 : Int)) ∧ ((aK 180 = 0 ∧ (0 : Int) ≤ ((8 * x4) + (ar 181 x8.toNat)) ∧ ((8 * x4) + (ar 181 x8.toNat)) < (64 : Int)) ∧ (Ev 1 M_Md_meanOf (109, [some (vO 11), some (vI x1), some (vI x2), some (vI x3), some (vI x4), some (vI (x5 + (ar 180 ((8 * x4) + (ar 181 x8.toNat)).toNat))), some (vL x6), none, some (vI x8), some (vI (ar 180 ((8 * x4) + (ar 181 x8.toNat)).toNat)), some (vI x8)], [], (sc, ar)) Q)))))) from ⟨⟨k.1, k.2.1⟩, fun c1 => ⟨(by decide), ⟨⟨(by decide), (by decide), (k.2.2.1 c1).1, (k.2.2.1 c1).2.1⟩, ⟨(by decide), ⟨(by decide), ⟨⟨(by decide), (k.2.2.1 c1).2.2.1, (k.2.2.1 c1).2.2.2.1⟩, ⟨(k.2.2.1 c1).2.2.2.2.1, ⟨⟨(by decide), (by decide), (k.2.2.1 c1).2.2.2.2.2.1, (k.2.2.1 c1).2.2.2.2.2.2.1⟩, (k.2.2.1 c1).2.2.2.2.2.2.2⟩⟩⟩⟩⟩⟩⟩, fun c1 => ⟨(by decide), ⟨(by decide), ⟨⟨(by decide), (k.2.2.2 c1).1, (k.2.2.2 c1).2.1⟩, ⟨⟨(by decide), (k.2.2.2 c1).2.2.1, (k.2.2.2 c1).2.2.2.1⟩, (k.2.2.2 c1).2.2.2.2⟩⟩⟩⟩⟩)
theorem sg_Md_meanOf_109 {sc : Nat → Int} {ar : Nat → Nat → Int} {x1 x2 x3 x4 x5 x6 x8 x9 x10 : Int} {Q : Option mV → mH → Prop} (k : inR x10 ∧ inR x3 ∧ 
  (x3 ≤ x10 → (Ev 1 M_Md_meanOf (72, [some (vO 11), some (vI x1), some (vI x2), some (vI x3), some (vI x4), some (vI x5), some (vL x6), none, some (vI (x8 + 1)), none, none], [], (sc, ar)) Q)) ∧ 
  (¬ (x3 ≤ x10) → (inR x9 ∧ 
    ((0 : Int) ≤ x10 ∧ x10 < (8 : Int) ∧ 
    ((0 : Int) ≤ x3 ∧ x3 < (9 : Int) ∧ 
    ((0 : Int) ≤ (x10 + 1) ∧ (x10 + 1) < (9 : Int) ∧ 
    (inL (ar 186 x3.toNat) ∧ inL (ar 186 (x10 + 1).toNat) ∧ (0 : Int) < (ar 186 (x10 + 1).toNat) ∧ 
    (Ev 1 M_Md_meanOf (109, [some (vO 11), some (vI x1), some (vI x2), some (vI x3), some (vI x4), some (vI x5), some (vL (x6 + ((x9 * (ar 185 x10.toNat)) * (Int.tdiv (ar 186 x3.toNat) (ar 186 (x10 + 1).toNat))))), none, some (vI x8), some (vI x9), some (vI (x10 + 1))], [], (sc, ar)) Q)))))))) :
  Ev 1 M_Md_meanOf (109, [some (vO 11), some (vI x1), some (vI x2), some (vI x3), some (vI x4), some (vI x5), some (vL x6), none, some (vI x8), some (vI x9), some (vI x10)], [], (sc, ar)) Q :=
  wq_ok 200 _ _ [(9, 4), (72, 9), (109, 11), (200, 6), (259, 6)] _ _ _ _ _ (show (inR x10 ∧ inR x3) ∧ (x3 ≤ x10 → (Ev 1 M_Md_meanOf (72, [some (vO 11), some (vI x1), some (vI x2), some (vI x3), some (vI x4), some (vI x5), some (vL x6), none, some (vI (x8 + 1)), none, none], [], (sc, ar)) Q)) ∧ (¬ (x3 ≤ x10) → ((inR x9) ∧ ((cO 11 = 9) ∧ ((aK 185 = 1 ∧ (0 : Int) ≤ x10 ∧ x10 < (8 : Int)) ∧ ((cO 11 = 9) ∧ ((aK 186 = 1 ∧ (0 : Int) ≤ x3 ∧ x3 < (9 : Int)) ∧ ((cO 11 = 9) ∧ ((aK 186 = 1 ∧ (0 : Int) ≤ (x10 + 1) ∧ (x10 + 1) < (9 : Int)) ∧ ((inL (ar 186 x3.toNat) ∧ inL (ar 186 (x10 + 1).toNat) ∧ (0 : Int) < (ar 186 (x10 + 1).toNat)) ∧ (Ev 1 M_Md_meanOf (109, [some (vO 11), some (vI x1), some (vI x2), some (vI x3), some (vI x4), some (vI x5), some (vL (x6 + ((x9 * (ar 185 x10.toNat)) * (Int.tdiv (ar 186 x3.toNat) (ar 186 (x10 + 1).toNat))))), none, some (vI x8), some (vI x9), some (vI (x10 + 1))], [], (sc, ar)) Q)))))))))) from ⟨⟨k.1, k.2.1⟩, fun c1 => (k.2.2.1 c1), fun c1 => ⟨(k.2.2.2 c1).1, ⟨(by decide), ⟨⟨(by decide), (k.2.2.2 c1).2.1, (k.2.2.2 c1).2.2.1⟩, ⟨(by decide), ⟨⟨(by decide), (k.2.2.2 c1).2.2.2.1, (k.2.2.2 c1).2.2.2.2.1⟩, ⟨(by decide), ⟨⟨(by decide), (k.2.2.2 c1).2.2.2.2.2.1, (k.2.2.2 c1).2.2.2.2.2.2.1⟩, ⟨⟨(k.2.2.2 c1).2.2.2.2.2.2.2.1, (k.2.2.2 c1).2.2.2.2.2.2.2.2.1, (k.2.2.2 c1).2.2.2.2.2.2.2.2.2.1⟩, (k.2.2.2 c1).2.2.2.2.2.2.2.2.2.2⟩⟩⟩⟩⟩⟩⟩⟩⟩)
theorem sg_Md_meanOf_200 {sc : Nat → Int} {ar : Nat → Nat → Int} {x1 x2 x3 x5 : Int} {Q : Option mV → mH → Prop} (k : inR x5 ∧ inR (sc 177) ∧ 
  ((sc 177) ≤ x5 → ((0 : Int) ≤ (sc 177) ∧ (sc 177) < (9 : Int) ∧ 
    (Ev 0 M_Md_told (0, [some (vL x3), none, some (vL (ar 186 (sc 177).toNat)), none, some (vI x2), none, none, none, none, none, none], [], (sc, ar)) (fun r1 h1 => Ev 1 M_Md_meanOf (259, [some (vO 11), some (vI x1), some (vI x2), some (vL x3), none, some (vI x5), none, none, none, none, none], mPush r1 [], h1) Q)))) ∧ 
  (¬ ((sc 177) ≤ x5) → ((0 : Int) ≤ x5 ∧ x5 < (8 : Int) ∧ 
    ((0 : Int) ≤ (sc 177) ∧ (sc 177) < (9 : Int) ∧ 
    ((0 : Int) ≤ (x5 + 1) ∧ (x5 + 1) < (9 : Int) ∧ 
    (inL (ar 186 (sc 177).toNat) ∧ inL (ar 186 (x5 + 1).toNat) ∧ (0 : Int) < (ar 186 (x5 + 1).toNat) ∧ 
    (Ev 1 M_Md_meanOf (200, [some (vO 11), some (vI x1), some (vI x2), some (vL (x3 + ((ar 185 x5.toNat) * (Int.tdiv (ar 186 (sc 177).toNat) (ar 186 (x5 + 1).toNat))))), none, some (vI (x5 + 1)), none, none, none, none, none], [], (sc, ar)) Q))))))) :
  Ev 1 M_Md_meanOf (200, [some (vO 11), some (vI x1), some (vI x2), some (vL x3), none, some (vI x5), none, none, none, none, none], [], (sc, ar)) Q :=
  wq_ok 200 _ _ [(9, 4), (72, 9), (109, 11), (200, 6), (259, 6)] _ _ _ _ _ (show (cO 11 = 9) ∧ ((inR x5 ∧ inR (sc 177)) ∧ ((sc 177) ≤ x5 → ((cO 11 = 9) ∧ ((cO 11 = 9) ∧ ((aK 186 = 1 ∧ (0 : Int) ≤ (sc 177) ∧ (sc 177) < (9 : Int)) ∧ (Ev 0 M_Md_told (0, [some (vL x3), none, some (vL (ar 186 (sc 177).toNat)), none, some (vI x2), none, none, none, none, none, none], [], (sc, ar)) (fun r1 h1 => Ev 1 M_Md_meanOf (259, [some (vO 11), some (vI x1), some (vI x2), some (vL x3), none, some (vI x5), none, none, none, none, none], mPush r1 [], h1) Q)))))) ∧ (¬ ((sc 177) ≤ x5) → ((cO 11 = 9) ∧ ((aK 185 = 1 ∧ (0 : Int) ≤ x5 ∧ x5 < (8 : Int)) ∧ ((cO 11 = 9) ∧ ((cO 11 = 9) ∧ ((aK 186 = 1 ∧ (0 : Int) ≤ (sc 177) ∧ (sc 177) < (9 : Int)) ∧ ((cO 11 = 9) ∧ ((aK 186 = 1 ∧ (0 : Int) ≤ (x5 + 1) ∧ (x5 + 1) < (9 : Int)) ∧ ((inL (ar 186 (sc 177).toNat) ∧ inL (ar 186 (x5 + 1).toNat) ∧ (0 : Int) < (ar 186 (x5 + 1).toNat)) ∧ (Ev 1 M_Md_meanOf (200, [some (vO 11), some (vI x1), some (vI x2), some (vL (x3 + ((ar 185 x5.toNat) * (Int.tdiv (ar 186 (sc 177).toNat) (ar 186 (x5 + 1).toNat))))), none, some (vI (x5 + 1)), none, none, none, none, none], [], (sc, ar)) Q))))))))))) from ⟨(by decide), ⟨⟨k.1, k.2.1⟩, fun c1 => ⟨(by decide), ⟨(by decide), ⟨⟨(by decide), (k.2.2.1 c1).1, (k.2.2.1 c1).2.1⟩, (k.2.2.1 c1).2.2⟩⟩⟩, fun c1 => ⟨(by decide), ⟨⟨(by decide), (k.2.2.2 c1).1, (k.2.2.2 c1).2.1⟩, ⟨(by decide), ⟨(by decide), ⟨⟨(by decide), (k.2.2.2 c1).2.2.1, (k.2.2.2 c1).2.2.2.1⟩, ⟨(by decide), ⟨⟨(by decide), (k.2.2.2 c1).2.2.2.2.1, (k.2.2.2 c1).2.2.2.2.2.1⟩, ⟨⟨(k.2.2.2 c1).2.2.2.2.2.2.1, (k.2.2.2 c1).2.2.2.2.2.2.2.1, (k.2.2.2 c1).2.2.2.2.2.2.2.2.1⟩, (k.2.2.2 c1).2.2.2.2.2.2.2.2.2⟩⟩⟩⟩⟩⟩⟩⟩⟩⟩)
theorem sg_Md_meanOf_259 {sc : Nat → Int} {ar : Nat → Nat → Int} {x1 x2 x3 x5 s0 : Int} {Q : Option mV → mH → Prop} (k : Q (some (vL s0)) (sc, ar)) :
  Ev 1 M_Md_meanOf (259, [some (vO 11), some (vI x1), some (vI x2), some (vL x3), none, some (vI x5), none, none, none, none, none], [vL s0], (sc, ar)) Q :=
  wq_ok 200 _ _ [(9, 4), (72, 9), (109, 11), (200, 6), (259, 6)] _ _ _ _ _ (show Q (some (vL s0)) (sc, ar) from k)
theorem sg_Md_mean_0 {sc : Nat → Int} {ar : Nat → Nat → Int} {x1 : Int} {Q : Option mV → mH → Prop} (k : Ev 1 M_Md_meanOf (0, [some (vO 11), some (vI (-9)), some (vI x1), none, none, none, none, none, none, none, none], [], ((up sc 176 0), ar)) (fun r1 h1 => Ev 2 M_Md_mean (12, [some (vO 11), some (vI x1)], mPush r1 [], h1) Q)) :
  Ev 2 M_Md_mean (0, [some (vO 11), some (vI x1)], [], (sc, ar)) Q :=
  wq_ok 200 _ _ [(12, 2)] _ _ _ _ _ (show (cO 11 = 9) ∧ ((cO 11 = mK M_Md_meanOf) ∧ (Ev 1 M_Md_meanOf (0, [some (vO 11), some (vI (-9)), some (vI x1), none, none, none, none, none, none, none, none], [], ((up sc 176 0), ar)) (fun r1 h1 => Ev 2 M_Md_mean (12, [some (vO 11), some (vI x1)], mPush r1 [], h1) Q))) from ⟨(by decide), ⟨(by decide), k⟩⟩)
theorem sg_Md_mean_12 {sc : Nat → Int} {ar : Nat → Nat → Int} {x1 s0 : Int} {Q : Option mV → mH → Prop} (k : Q (some (vL s0)) (sc, ar)) :
  Ev 2 M_Md_mean (12, [some (vO 11), some (vI x1)], [vL s0], (sc, ar)) Q :=
  wq_ok 200 _ _ [(12, 2)] _ _ _ _ _ (show Q (some (vL s0)) (sc, ar) from k)
theorem sg_Md_often_0 {sc : Nat → Int} {ar : Nat → Nat → Int} {x1 x2 : Int} {Q : Option mV → mH → Prop} (k : Ev 1 M_Md_no (0, [some (vO 11), some (vI x1)], [], ((up sc 176 0), ar)) (fun r1 h1 => Ev 2 M_Md_often (10, [some (vO 11), some (vI x1), some (vI x2)], mPush r1 [], h1) Q)) :
  Ev 2 M_Md_often (0, [some (vO 11), some (vI x1), some (vI x2)], [], (sc, ar)) Q :=
  wq_ok 200 _ _ [(10, 3), (25, 3)] _ _ _ _ _ (show (cO 11 = 9) ∧ ((cO 11 = mK M_Md_no) ∧ (Ev 1 M_Md_no (0, [some (vO 11), some (vI x1)], [], ((up sc 176 0), ar)) (fun r1 h1 => Ev 2 M_Md_often (10, [some (vO 11), some (vI x1), some (vI x2)], mPush r1 [], h1) Q))) from ⟨(by decide), ⟨(by decide), k⟩⟩)
theorem sg_Md_often_10 {sc : Nat → Int} {ar : Nat → Nat → Int} {x1 x2 s0 : Int} {Q : Option mV → mH → Prop} (k : inR s0 ∧ 
  (s0 = 0 → (Ev 1 M_Md_meanOf (0, [some (vO 11), some (vI x1), some (vI x2), none, none, none, none, none, none, none, none], [], (sc, ar)) (fun r1 h1 => Ev 2 M_Md_often (25, [some (vO 11), some (vI x1), some (vI x2)], mPush r1 [], h1) Q))) ∧ 
  (¬ (s0 = 0) → (Ev 2 M_Md_often (25, [some (vO 11), some (vI x1), some (vI x2)], [vL (-1)], (sc, ar)) Q))) :
  Ev 2 M_Md_often (10, [some (vO 11), some (vI x1), some (vI x2)], [vI s0], (sc, ar)) Q :=
  wq_ok 200 _ _ [(10, 3), (25, 3)] _ _ _ _ _ (show (inR s0) ∧ (s0 = 0 → ((cO 11 = mK M_Md_meanOf) ∧ (Ev 1 M_Md_meanOf (0, [some (vO 11), some (vI x1), some (vI x2), none, none, none, none, none, none, none, none], [], (sc, ar)) (fun r1 h1 => Ev 2 M_Md_often (25, [some (vO 11), some (vI x1), some (vI x2)], mPush r1 [], h1) Q)))) ∧ (¬ (s0 = 0) → (Ev 2 M_Md_often (25, [some (vO 11), some (vI x1), some (vI x2)], [vL (-1)], (sc, ar)) Q)) from ⟨k.1, fun c1 => ⟨(by decide), (k.2.1 c1)⟩, fun c1 => (k.2.2 c1)⟩)
theorem sg_Md_often_25 {sc : Nat → Int} {ar : Nat → Nat → Int} {x1 x2 s0 : Int} {Q : Option mV → mH → Prop} (k : Q (some (vL s0)) (sc, ar)) :
  Ev 2 M_Md_often (25, [some (vO 11), some (vI x1), some (vI x2)], [vL s0], (sc, ar)) Q :=
  wq_ok 200 _ _ [(10, 3), (25, 3)] _ _ _ _ _ (show Q (some (vL s0)) (sc, ar) from k)
theorem sg_Md_beside_0 {sc : Nat → Int} {ar : Nat → Nat → Int} {Q : Option mV → mH → Prop} (k : Ev 0 M_Md_beside (4, [some (vO 11), some (vI 0), some (vI 0), none, none, none], [], (sc, ar)) Q) :
  Ev 0 M_Md_beside (0, [some (vO 11), none, none, none, none, none], [], (sc, ar)) Q :=
  wq_ok 200 _ _ [(4, 3), (25, 6)] _ _ _ _ _ (show Ev 0 M_Md_beside (4, [some (vO 11), some (vI 0), some (vI 0), none, none, none], [], (sc, ar)) Q from k)
theorem sg_Md_beside_4 {sc : Nat → Int} {ar : Nat → Nat → Int} {x1 x2 : Int} {Q : Option mV → mH → Prop} (k : inR x2 ∧ inR (sc 177) ∧ 
  ((sc 177) ≤ x2 → (Q (some (vI x1)) (sc, ar))) ∧ 
  (¬ ((sc 177) ≤ x2) → ((0 : Int) ≤ x2 ∧ x2 < (8 : Int) ∧ 
    (Ev 0 M_Md_beside (25, [some (vO 11), some (vI x1), some (vI x2), some (vI (ar 181 x2.toNat)), some (vI 0), some (vI 0)], [], (sc, ar)) Q)))) :
  Ev 0 M_Md_beside (4, [some (vO 11), some (vI x1), some (vI x2), none, none, none], [], (sc, ar)) Q :=
  wq_ok 200 _ _ [(4, 3), (25, 6)] _ _ _ _ _ (show (cO 11 = 9) ∧ ((inR x2 ∧ inR (sc 177)) ∧ ((sc 177) ≤ x2 → (Q (some (vI x1)) (sc, ar))) ∧ (¬ ((sc 177) ≤ x2) → ((cO 11 = 9) ∧ ((aK 181 = 0 ∧ (0 : Int) ≤ x2 ∧ x2 < (8 : Int)) ∧ (Ev 0 M_Md_beside (25, [some (vO 11), some (vI x1), some (vI x2), some (vI (ar 181 x2.toNat)), some (vI 0), some (vI 0)], [], (sc, ar)) Q))))) from ⟨(by decide), ⟨⟨k.1, k.2.1⟩, fun c1 => (k.2.2.1 c1), fun c1 => ⟨(by decide), ⟨⟨(by decide), (k.2.2.2 c1).1, (k.2.2.2 c1).2.1⟩, (k.2.2.2 c1).2.2⟩⟩⟩⟩)
theorem sg_Md_beside_25 {sc : Nat → Int} {ar : Nat → Nat → Int} {x1 x2 x3 x4 x5 : Int} {Q : Option mV → mH → Prop} (k : inR x5 ∧ inR x2 ∧ 
  (x2 ≤ x5 → ((0 : Int) ≤ x3 ∧ x3 < (8 : Int) ∧ 
    ((0 : Int) ≤ x3 ∧ x3 < (8 : Int) ∧ 
    ((0 : Int) ≤ x3 ∧ x3 < (8 : Int) ∧ 
    (inR ((up (ar 187) x3.toNat (x4 + (ar 178 x3.toNat))) x3.toNat) ∧ inR x1 ∧ 
    (((up (ar 187) x3.toNat (x4 + (ar 178 x3.toNat))) x3.toNat) ≤ x1 → (Ev 0 M_Md_beside (4, [some (vO 11), some (vI x1), some (vI (x2 + 1)), none, none, none], [], (sc, (up ar 187 (up (ar 187) x3.toNat (x4 + (ar 178 x3.toNat)))))) Q)) ∧ 
    (¬ (((up (ar 187) x3.toNat (x4 + (ar 178 x3.toNat))) x3.toNat) ≤ x1) → ((0 : Int) ≤ x3 ∧ x3 < (8 : Int) ∧ 
      (Ev 0 M_Md_beside (4, [some (vO 11), some (vI ((up (ar 187) x3.toNat (x4 + (ar 178 x3.toNat))) x3.toNat)), some (vI (x2 + 1)), none, none, none], [], (sc, (up ar 187 (up (ar 187) x3.toNat (x4 + (ar 178 x3.toNat)))))) Q)))))))) ∧ 
  (¬ (x2 ≤ x5) → ((0 : Int) ≤ x5 ∧ x5 < (8 : Int) ∧ 
    ((0 : Int) ≤ ((8 * x3) + (ar 181 x5.toNat)) ∧ ((8 * x3) + (ar 181 x5.toNat)) < (64 : Int) ∧ 
    (inR (ar 179 ((8 * x3) + (ar 181 x5.toNat)).toNat) ∧ 
    ((ar 179 ((8 * x3) + (ar 181 x5.toNat)).toNat) ≤ 0 → (Ev 0 M_Md_beside (25, [some (vO 11), some (vI x1), some (vI x2), some (vI x3), some (vI x4), some (vI (x5 + 1))], [], (sc, ar)) Q)) ∧ 
    (¬ ((ar 179 ((8 * x3) + (ar 181 x5.toNat)).toNat) ≤ 0) → ((0 : Int) ≤ x5 ∧ x5 < (8 : Int) ∧ 
      ((0 : Int) ≤ (ar 181 x5.toNat) ∧ (ar 181 x5.toNat) < (8 : Int) ∧ 
      (inR (ar 187 (ar 181 x5.toNat).toNat) ∧ inR x4 ∧ 
      ((ar 187 (ar 181 x5.toNat).toNat) ≤ x4 → (Ev 0 M_Md_beside (25, [some (vO 11), some (vI x1), some (vI x2), some (vI x3), some (vI x4), some (vI (x5 + 1))], [], (sc, ar)) Q)) ∧ 
      (¬ ((ar 187 (ar 181 x5.toNat).toNat) ≤ x4) → ((0 : Int) ≤ x5 ∧ x5 < (8 : Int) ∧ 
        ((0 : Int) ≤ (ar 181 x5.toNat) ∧ (ar 181 x5.toNat) < (8 : Int) ∧ 
        (Ev 0 M_Md_beside (25, [some (vO 11), some (vI x1), some (vI x2), some (vI x3), some (vI (ar 187 (ar 181 x5.toNat).toNat)), some (vI (x5 + 1))], [], (sc, ar)) Q))))))))))))) :
  Ev 0 M_Md_beside (25, [some (vO 11), some (vI x1), some (vI x2), some (vI x3), some (vI x4), some (vI x5)], [], (sc, ar)) Q :=
  wq_ok 200 _ _ [(4, 3), (25, 6)] _ _ _ _ _ (show (inR x5 ∧ inR x2) ∧ (x2 ≤ x5 → ((cO 11 = 9) ∧ ((cO 11 = 9) ∧ ((aK 178 = 0 ∧ (0 : Int) ≤ x3 ∧ x3 < (8 : Int)) ∧ ((aK 187 = 0 ∧ 187 ≠ 999 ∧ (0 : Int) ≤ x3 ∧ x3 < (8 : Int)) ∧ ((cO 11 = 9) ∧ ((aK 187 = 0 ∧ (0 : Int) ≤ x3 ∧ x3 < (8 : Int)) ∧ ((inR ((up (ar 187) x3.toNat (x4 + (ar 178 x3.toNat))) x3.toNat) ∧ inR x1) ∧ (((up (ar 187) x3.toNat (x4 + (ar 178 x3.toNat))) x3.toNat) ≤ x1 → (Ev 0 M_Md_beside (4, [some (vO 11), some (vI x1), some (vI (x2 + 1)), none, none, none], [], (sc, (up ar 187 (up (ar 187) x3.toNat (x4 + (ar 178 x3.toNat)))))) Q)) ∧ (¬ (((up (ar 187) x3.toNat (x4 + (ar 178 x3.toNat))) x3.toNat) ≤ x1) → ((cO 11 = 9) ∧ ((aK 187 = 0 ∧ (0 : Int) ≤ x3 ∧ x3 < (8 : Int)) ∧ (Ev 0 M_Md_beside (4, [some (vO 11), some (vI ((up (ar 187) x3.toNat (x4 + (ar 178 x3.toNat))) x3.toNat)), some (vI (x2 + 1)), none, none, none], [], (sc, (up ar 187 (up (ar 187) x3.toNat (x4 + (ar 178 x3.toNat)))))) Q)))))))))))) ∧ (¬ (x2 ≤ x5) → ((cO 11 = 9) ∧ ((cO 11 = 9) ∧ ((aK 181 = 0 ∧ (0 : Int) ≤ x5 ∧ x5 < (8 : Int)) ∧ ((aK 179 = 0 ∧ (0 : Int) ≤ ((8 * x3) + (ar 181 x5.toNat)) ∧ ((8 * x3) + (ar 181 x5.toNat)) < (64 : Int)) ∧ ((inR (ar 179 ((8 * x3) + (ar 181 x5.toNat)).toNat)) ∧ ((ar 179 ((8 * x3) + (ar 181 x5.toNat)).toNat) ≤ 0 → (Ev 0 M_Md_beside (25, [some (vO 11), some (vI x1), some (vI x2), some (vI x3), some (vI x4), some (vI (x5 + 1))], [], (sc, ar)) Q)) ∧ (¬ ((ar 179 ((8 * x3) + (ar 181 x5.toNat)).toNat) ≤ 0) → ((cO 11 = 9) ∧ ((cO 11 = 9) ∧ ((aK 181 = 0 ∧ (0 : Int) ≤ x5 ∧ x5 < (8 : Int)) ∧ ((aK 187 = 0 ∧ (0 : Int) ≤ (ar 181 x5.toNat) ∧ (ar 181 x5.toNat) < (8 : Int)) ∧ ((inR (ar 187 (ar 181 x5.toNat).toNat) ∧ inR x4) ∧ ((ar 187 (ar 181 x5.toNat).toNat) ≤ x4 → (Ev 0 M_Md_beside (25, [some (vO 11), some (vI x1), some (vI x2), some (vI x3), some (vI x4), some (vI (x5 + 1))], [], (sc, ar)) Q)) ∧ (¬ ((ar 187 (ar 181 x5.toNat).toNat) ≤ x4) → ((cO 11 = 9) ∧ ((cO 11 = 9) ∧ ((aK 181 = 0 ∧ (0 : Int) ≤ x5 ∧ x5 < (8 : Int)) ∧ ((aK 187 = 0 ∧ (0 : Int) ≤ (ar 181 x5.toNat) ∧ (ar 181 x5.toNat) < (8 : Int)) ∧ (Ev 0 M_Md_beside (25, [some (vO 11), some (vI x1), some (vI x2), some (vI x3), some (vI (ar 187 (ar 181 x5.toNat).toNat)), some (vI (x5 + 1))], [], (sc, ar)) Q)))))))))))))))))) from ⟨⟨k.1, k.2.1⟩, fun c1 => ⟨(by decide), ⟨(by decide), ⟨⟨(by decide), (k.2.2.1 c1).1, (k.2.2.1 c1).2.1⟩, ⟨⟨(by decide), (by decide), (k.2.2.1 c1).2.2.1, (k.2.2.1 c1).2.2.2.1⟩, ⟨(by decide), ⟨⟨(by decide), (k.2.2.1 c1).2.2.2.2.1, (k.2.2.1 c1).2.2.2.2.2.1⟩, ⟨⟨(k.2.2.1 c1).2.2.2.2.2.2.1, (k.2.2.1 c1).2.2.2.2.2.2.2.1⟩, fun c2 => ((k.2.2.1 c1).2.2.2.2.2.2.2.2.1 c2), fun c2 => ⟨(by decide), ⟨⟨(by decide), ((k.2.2.1 c1).2.2.2.2.2.2.2.2.2 c2).1, ((k.2.2.1 c1).2.2.2.2.2.2.2.2.2 c2).2.1⟩, ((k.2.2.1 c1).2.2.2.2.2.2.2.2.2 c2).2.2⟩⟩⟩⟩⟩⟩⟩⟩⟩, fun c1 => ⟨(by decide), ⟨(by decide), ⟨⟨(by decide), (k.2.2.2 c1).1, (k.2.2.2 c1).2.1⟩, ⟨⟨(by decide), (k.2.2.2 c1).2.2.1, (k.2.2.2 c1).2.2.2.1⟩, ⟨(k.2.2.2 c1).2.2.2.2.1, fun c3 => ((k.2.2.2 c1).2.2.2.2.2.1 c3), fun c3 => ⟨(by decide), ⟨(by decide), ⟨⟨(by decide), ((k.2.2.2 c1).2.2.2.2.2.2 c3).1, ((k.2.2.2 c1).2.2.2.2.2.2 c3).2.1⟩, ⟨⟨(by decide), ((k.2.2.2 c1).2.2.2.2.2.2 c3).2.2.1, ((k.2.2.2 c1).2.2.2.2.2.2 c3).2.2.2.1⟩, ⟨⟨((k.2.2.2 c1).2.2.2.2.2.2 c3).2.2.2.2.1, ((k.2.2.2 c1).2.2.2.2.2.2 c3).2.2.2.2.2.1⟩, fun c4 => (((k.2.2.2 c1).2.2.2.2.2.2 c3).2.2.2.2.2.2.1 c4), fun c4 => ⟨(by decide), ⟨(by decide), ⟨⟨(by decide), (((k.2.2.2 c1).2.2.2.2.2.2 c3).2.2.2.2.2.2.2 c4).1, (((k.2.2.2 c1).2.2.2.2.2.2 c3).2.2.2.2.2.2.2 c4).2.1⟩, ⟨⟨(by decide), (((k.2.2.2 c1).2.2.2.2.2.2 c3).2.2.2.2.2.2.2 c4).2.2.1, (((k.2.2.2 c1).2.2.2.2.2.2 c3).2.2.2.2.2.2.2 c4).2.2.2.1⟩, (((k.2.2.2 c1).2.2.2.2.2.2 c3).2.2.2.2.2.2.2 c4).2.2.2.2⟩⟩⟩⟩⟩⟩⟩⟩⟩⟩⟩⟩⟩⟩⟩)
theorem sg_Md_ends_0 {sc : Nat → Int} {ar : Nat → Nat → Int} {x1 : Int} {Q : Option mV → mH → Prop} (k : Ev 1 M_Md_no (0, [some (vO 11), some (vI x1)], [], ((up sc 176 0), ar)) (fun r1 h1 => Ev 2 M_Md_ends (10, [some (vO 11), some (vI x1)], mPush r1 [], h1) Q)) :
  Ev 2 M_Md_ends (0, [some (vO 11), some (vI x1)], [], (sc, ar)) Q :=
  wq_ok 200 _ _ [(10, 2), (19, 2)] _ _ _ _ _ (show (cO 11 = 9) ∧ ((cO 11 = mK M_Md_no) ∧ (Ev 1 M_Md_no (0, [some (vO 11), some (vI x1)], [], ((up sc 176 0), ar)) (fun r1 h1 => Ev 2 M_Md_ends (10, [some (vO 11), some (vI x1)], mPush r1 [], h1) Q))) from ⟨(by decide), ⟨(by decide), k⟩⟩)
theorem sg_Md_ends_10 {sc : Nat → Int} {ar : Nat → Nat → Int} {x1 s0 : Int} {Q : Option mV → mH → Prop} (k : inR s0 ∧ 
  (s0 = 0 → (Ev 1 M_Md_beside (0, [some (vO 11), none, none, none, none, none], [], (sc, ar)) (fun r1 h1 => Ev 2 M_Md_ends (19, [some (vO 11), some (vI x1)], mPush r1 [], h1) Q))) ∧ 
  (¬ (s0 = 0) → (Q (some (vI (-1))) (sc, ar)))) :
  Ev 2 M_Md_ends (10, [some (vO 11), some (vI x1)], [vI s0], (sc, ar)) Q :=
  wq_ok 200 _ _ [(10, 2), (19, 2)] _ _ _ _ _ (show (inR s0) ∧ (s0 = 0 → ((cO 11 = mK M_Md_beside) ∧ (Ev 1 M_Md_beside (0, [some (vO 11), none, none, none, none, none], [], (sc, ar)) (fun r1 h1 => Ev 2 M_Md_ends (19, [some (vO 11), some (vI x1)], mPush r1 [], h1) Q)))) ∧ (¬ (s0 = 0) → (Q (some (vI (-1))) (sc, ar))) from ⟨k.1, fun c1 => ⟨(by decide), (k.2.1 c1)⟩, fun c1 => (k.2.2 c1)⟩)
theorem sg_Md_ends_19 {sc : Nat → Int} {ar : Nat → Nat → Int} {x1 s0 : Int} {Q : Option mV → mH → Prop} (k : (0 : Int) ≤ x1 ∧ x1 < (8 : Int) ∧ 
  (Q (some (vI (ar 187 x1.toNat))) (sc, ar))) :
  Ev 2 M_Md_ends (19, [some (vO 11), some (vI x1)], [vI s0], (sc, ar)) Q :=
  wq_ok 200 _ _ [(10, 2), (19, 2)] _ _ _ _ _ (show (cO 11 = 9) ∧ ((aK 187 = 0 ∧ (0 : Int) ≤ x1 ∧ x1 < (8 : Int)) ∧ (Q (some (vI (ar 187 x1.toNat))) (sc, ar))) from ⟨(by decide), ⟨⟨(by decide), k.1, k.2.1⟩, k.2.2⟩⟩)
theorem sg_Md_span_0 {sc : Nat → Int} {ar : Nat → Nat → Int} {Q : Option mV → mH → Prop} (k : Ev 0 M_Md_beside (0, [some (vO 11), none, none, none, none, none], [], ((up sc 176 0), ar)) (fun r1 h1 => Ev 1 M_Md_span (9, [some (vO 11)], mPush r1 [], h1) Q)) :
  Ev 1 M_Md_span (0, [some (vO 11)], [], (sc, ar)) Q :=
  wq_ok 200 _ _ [(9, 1)] _ _ _ _ _ (show (cO 11 = 9) ∧ ((cO 11 = mK M_Md_beside) ∧ (Ev 0 M_Md_beside (0, [some (vO 11), none, none, none, none, none], [], ((up sc 176 0), ar)) (fun r1 h1 => Ev 1 M_Md_span (9, [some (vO 11)], mPush r1 [], h1) Q))) from ⟨(by decide), ⟨(by decide), k⟩⟩)
theorem sg_Md_span_9 {sc : Nat → Int} {ar : Nat → Nat → Int} {s0 : Int} {Q : Option mV → mH → Prop} (k : Q (some (vI s0)) (sc, ar)) :
  Ev 1 M_Md_span (9, [some (vO 11)], [vI s0], (sc, ar)) Q :=
  wq_ok 200 _ _ [(9, 1)] _ _ _ _ _ (show Q (some (vI s0)) (sc, ar) from k)
theorem sg_Md_betweenOf_0 {sc : Nat → Int} {ar : Nat → Nat → Int} {Q : Option mV → mH → Prop} (k : Ev 0 M_Md_betweenOf (4, [some (vO 11), some (vI 0), some (vI 0), none], [], (sc, ar)) Q) :
  Ev 0 M_Md_betweenOf (0, [some (vO 11), none, none, none], [], (sc, ar)) Q :=
  wq_ok 200 _ _ [(4, 3), (14, 4)] _ _ _ _ _ (show Ev 0 M_Md_betweenOf (4, [some (vO 11), some (vI 0), some (vI 0), none], [], (sc, ar)) Q from k)
theorem sg_Md_betweenOf_4 {sc : Nat → Int} {ar : Nat → Nat → Int} {x1 x2 : Int} {Q : Option mV → mH → Prop} (k : inR x2 ∧ inR (sc 177) ∧ 
  ((sc 177) ≤ x2 → (Q (some (vI x1)) (sc, ar))) ∧ 
  (¬ ((sc 177) ≤ x2) → (Ev 0 M_Md_betweenOf (14, [some (vO 11), some (vI x1), some (vI x2), some (vI 0)], [], (sc, ar)) Q))) :
  Ev 0 M_Md_betweenOf (4, [some (vO 11), some (vI x1), some (vI x2), none], [], (sc, ar)) Q :=
  wq_ok 200 _ _ [(4, 3), (14, 4)] _ _ _ _ _ (show (cO 11 = 9) ∧ ((inR x2 ∧ inR (sc 177)) ∧ ((sc 177) ≤ x2 → (Q (some (vI x1)) (sc, ar))) ∧ (¬ ((sc 177) ≤ x2) → (Ev 0 M_Md_betweenOf (14, [some (vO 11), some (vI x1), some (vI x2), some (vI 0)], [], (sc, ar)) Q))) from ⟨(by decide), ⟨⟨k.1, k.2.1⟩, fun c1 => (k.2.2.1 c1), fun c1 => (k.2.2.2 c1)⟩⟩)
theorem sg_Md_betweenOf_14 {sc : Nat → Int} {ar : Nat → Nat → Int} {x1 x2 x3 : Int} {Q : Option mV → mH → Prop} (k : inR x3 ∧ inR (sc 177) ∧ 
  ((sc 177) ≤ x3 → (Ev 0 M_Md_betweenOf (4, [some (vO 11), some (vI x1), some (vI (x2 + 1)), none], [], (sc, ar)) Q)) ∧ 
  (¬ ((sc 177) ≤ x3) → ((0 : Int) ≤ x2 ∧ x2 < (8 : Int) ∧ 
    ((0 : Int) ≤ x3 ∧ x3 < (8 : Int) ∧ 
    (inR (ar 188 x2.toNat) ∧ inR (ar 188 x3.toNat) ∧ 
    ((ar 188 x2.toNat) = (ar 188 x3.toNat) → (Ev 0 M_Md_betweenOf (14, [some (vO 11), some (vI (x1 + 0)), some (vI x2), some (vI (x3 + 1))], [], (sc, ar)) Q)) ∧ 
    (¬ ((ar 188 x2.toNat) = (ar 188 x3.toNat)) → ((0 : Int) ≤ ((8 * x2) + x3) ∧ ((8 * x2) + x3) < (64 : Int) ∧ 
      (Ev 0 M_Md_betweenOf (14, [some (vO 11), some (vI (x1 + (ar 179 ((8 * x2) + x3).toNat))), some (vI x2), some (vI (x3 + 1))], [], (sc, ar)) Q)))))))) :
  Ev 0 M_Md_betweenOf (14, [some (vO 11), some (vI x1), some (vI x2), some (vI x3)], [], (sc, ar)) Q :=
  wq_ok 200 _ _ [(4, 3), (14, 4)] _ _ _ _ _ (show (cO 11 = 9) ∧ ((inR x3 ∧ inR (sc 177)) ∧ ((sc 177) ≤ x3 → (Ev 0 M_Md_betweenOf (4, [some (vO 11), some (vI x1), some (vI (x2 + 1)), none], [], (sc, ar)) Q)) ∧ (¬ ((sc 177) ≤ x3) → ((cO 11 = 9) ∧ ((aK 188 = 0 ∧ (0 : Int) ≤ x2 ∧ x2 < (8 : Int)) ∧ ((cO 11 = 9) ∧ ((aK 188 = 0 ∧ (0 : Int) ≤ x3 ∧ x3 < (8 : Int)) ∧ ((inR (ar 188 x2.toNat) ∧ inR (ar 188 x3.toNat)) ∧ ((ar 188 x2.toNat) = (ar 188 x3.toNat) → (Ev 0 M_Md_betweenOf (14, [some (vO 11), some (vI (x1 + 0)), some (vI x2), some (vI (x3 + 1))], [], (sc, ar)) Q)) ∧ (¬ ((ar 188 x2.toNat) = (ar 188 x3.toNat)) → ((cO 11 = 9) ∧ ((aK 179 = 0 ∧ (0 : Int) ≤ ((8 * x2) + x3) ∧ ((8 * x2) + x3) < (64 : Int)) ∧ (Ev 0 M_Md_betweenOf (14, [some (vO 11), some (vI (x1 + (ar 179 ((8 * x2) + x3).toNat))), some (vI x2), some (vI (x3 + 1))], [], (sc, ar)) Q))))))))))) from ⟨(by decide), ⟨⟨k.1, k.2.1⟩, fun c1 => (k.2.2.1 c1), fun c1 => ⟨(by decide), ⟨⟨(by decide), (k.2.2.2 c1).1, (k.2.2.2 c1).2.1⟩, ⟨(by decide), ⟨⟨(by decide), (k.2.2.2 c1).2.2.1, (k.2.2.2 c1).2.2.2.1⟩, ⟨⟨(k.2.2.2 c1).2.2.2.2.1, (k.2.2.2 c1).2.2.2.2.2.1⟩, fun c2 => ((k.2.2.2 c1).2.2.2.2.2.2.1 c2), fun c2 => ⟨(by decide), ⟨⟨(by decide), ((k.2.2.2 c1).2.2.2.2.2.2.2 c2).1, ((k.2.2.2 c1).2.2.2.2.2.2.2 c2).2.1⟩, ((k.2.2.2 c1).2.2.2.2.2.2.2 c2).2.2⟩⟩⟩⟩⟩⟩⟩⟩⟩)
theorem sg_Md_teamsOf_0 {sc : Nat → Int} {ar : Nat → Nat → Int} {x1 : Int} {Q : Option mV → mH → Prop} (k : Ev 0 M_Md_teamsOf (4, [some (vO 11), some (vI x1), some (vI 0), some (vI 0), none, none], [], (sc, ar)) Q) :
  Ev 0 M_Md_teamsOf (0, [some (vO 11), some (vI x1), none, none, none, none], [], (sc, ar)) Q :=
  wq_ok 200 _ _ [(4, 4), (18, 6)] _ _ _ _ _ (show Ev 0 M_Md_teamsOf (4, [some (vO 11), some (vI x1), some (vI 0), some (vI 0), none, none], [], (sc, ar)) Q from k)
theorem sg_Md_teamsOf_4 {sc : Nat → Int} {ar : Nat → Nat → Int} {x1 x2 x3 : Int} {Q : Option mV → mH → Prop} (k : inR x3 ∧ inR (sc 177) ∧ 
  ((sc 177) ≤ x3 → (Q (some (vI x2)) (sc, ar))) ∧ 
  (¬ ((sc 177) ≤ x3) → (Ev 0 M_Md_teamsOf (18, [some (vO 11), some (vI x1), some (vI x2), some (vI x3), some (vI 0), some (vI 0)], [], (sc, ar)) Q))) :
  Ev 0 M_Md_teamsOf (4, [some (vO 11), some (vI x1), some (vI x2), some (vI x3), none, none], [], (sc, ar)) Q :=
  wq_ok 200 _ _ [(4, 4), (18, 6)] _ _ _ _ _ (show (cO 11 = 9) ∧ ((inR x3 ∧ inR (sc 177)) ∧ ((sc 177) ≤ x3 → (Q (some (vI x2)) (sc, ar))) ∧ (¬ ((sc 177) ≤ x3) → (Ev 0 M_Md_teamsOf (18, [some (vO 11), some (vI x1), some (vI x2), some (vI x3), some (vI 0), some (vI 0)], [], (sc, ar)) Q))) from ⟨(by decide), ⟨⟨k.1, k.2.1⟩, fun c1 => (k.2.2.1 c1), fun c1 => (k.2.2.2 c1)⟩⟩)
theorem sg_Md_teamsOf_18 {sc : Nat → Int} {ar : Nat → Nat → Int} {x1 x2 x3 x4 x5 : Int} {Q : Option mV → mH → Prop} (k : inR x5 ∧ inR (sc 177) ∧ 
  ((sc 177) ≤ x5 → (inR x4 ∧ 
    (x4 ≠ 0 → (inR x4 ∧ inR x1 ∧ 
      (x4 ≤ x1 → (Ev 0 M_Md_teamsOf (4, [some (vO 11), some (vI x1), some (vI (x2 + 1)), some (vI (x3 + 1)), none, none], [], (sc, ar)) Q)) ∧ 
      (¬ (x4 ≤ x1) → (Ev 0 M_Md_teamsOf (4, [some (vO 11), some (vI x1), some (vI (x2 + 100)), some (vI (x3 + 1)), none, none], [], (sc, ar)) Q)))) ∧ 
    (¬ (x4 ≠ 0) → (Ev 0 M_Md_teamsOf (4, [some (vO 11), some (vI x1), some (vI (x2 + 0)), some (vI (x3 + 1)), none, none], [], (sc, ar)) Q)))) ∧ 
  (¬ ((sc 177) ≤ x5) → ((0 : Int) ≤ x5 ∧ x5 < (8 : Int) ∧ 
    (inR (ar 188 x5.toNat) ∧ inR x3 ∧ 
    ((ar 188 x5.toNat) ≠ x3 → (Ev 0 M_Md_teamsOf (18, [some (vO 11), some (vI x1), some (vI x2), some (vI x3), some (vI (x4 + 0)), some (vI (x5 + 1))], [], (sc, ar)) Q)) ∧ 
    (¬ ((ar 188 x5.toNat) ≠ x3) → (Ev 0 M_Md_teamsOf (18, [some (vO 11), some (vI x1), some (vI x2), some (vI x3), some (vI (x4 + 1)), some (vI (x5 + 1))], [], (sc, ar)) Q)))))) :
  Ev 0 M_Md_teamsOf (18, [some (vO 11), some (vI x1), some (vI x2), some (vI x3), some (vI x4), some (vI x5)], [], (sc, ar)) Q :=
  wq_ok 200 _ _ [(4, 4), (18, 6)] _ _ _ _ _ (show (cO 11 = 9) ∧ ((inR x5 ∧ inR (sc 177)) ∧ ((sc 177) ≤ x5 → ((inR x4) ∧ (x4 ≠ 0 → ((inR x4 ∧ inR x1) ∧ (x4 ≤ x1 → (Ev 0 M_Md_teamsOf (4, [some (vO 11), some (vI x1), some (vI (x2 + 1)), some (vI (x3 + 1)), none, none], [], (sc, ar)) Q)) ∧ (¬ (x4 ≤ x1) → (Ev 0 M_Md_teamsOf (4, [some (vO 11), some (vI x1), some (vI (x2 + 100)), some (vI (x3 + 1)), none, none], [], (sc, ar)) Q)))) ∧ (¬ (x4 ≠ 0) → (Ev 0 M_Md_teamsOf (4, [some (vO 11), some (vI x1), some (vI (x2 + 0)), some (vI (x3 + 1)), none, none], [], (sc, ar)) Q)))) ∧ (¬ ((sc 177) ≤ x5) → ((cO 11 = 9) ∧ ((aK 188 = 0 ∧ (0 : Int) ≤ x5 ∧ x5 < (8 : Int)) ∧ ((inR (ar 188 x5.toNat) ∧ inR x3) ∧ ((ar 188 x5.toNat) ≠ x3 → (Ev 0 M_Md_teamsOf (18, [some (vO 11), some (vI x1), some (vI x2), some (vI x3), some (vI (x4 + 0)), some (vI (x5 + 1))], [], (sc, ar)) Q)) ∧ (¬ ((ar 188 x5.toNat) ≠ x3) → (Ev 0 M_Md_teamsOf (18, [some (vO 11), some (vI x1), some (vI x2), some (vI x3), some (vI (x4 + 1)), some (vI (x5 + 1))], [], (sc, ar)) Q))))))) from ⟨(by decide), ⟨⟨k.1, k.2.1⟩, fun c1 => ⟨(k.2.2.1 c1).1, fun c2 => ⟨⟨((k.2.2.1 c1).2.1 c2).1, ((k.2.2.1 c1).2.1 c2).2.1⟩, fun c3 => (((k.2.2.1 c1).2.1 c2).2.2.1 c3), fun c3 => (((k.2.2.1 c1).2.1 c2).2.2.2 c3)⟩, fun c2 => ((k.2.2.1 c1).2.2 c2)⟩, fun c1 => ⟨(by decide), ⟨⟨(by decide), (k.2.2.2 c1).1, (k.2.2.2 c1).2.1⟩, ⟨⟨(k.2.2.2 c1).2.2.1, (k.2.2.2 c1).2.2.2.1⟩, fun c4 => ((k.2.2.2 c1).2.2.2.2.1 c4), fun c4 => ((k.2.2.2 c1).2.2.2.2.2 c4)⟩⟩⟩⟩⟩)
theorem sg_Md_isMore_0 {sc : Nat → Int} {ar : Nat → Nat → Int} {Q : Option mV → mH → Prop} (k : Ev 1 M_Md_isMore (7, [some (vO 11), some (vI ((sc 177) - 1)), none], [], (sc, ar)) Q) :
  Ev 1 M_Md_isMore (0, [some (vO 11), none, none], [], (sc, ar)) Q :=
  wq_ok 200 _ _ [(7, 2), (22, 2), (51, 3)] _ _ _ _ _ (show (cO 11 = 9) ∧ (Ev 1 M_Md_isMore (7, [some (vO 11), some (vI ((sc 177) - 1)), none], [], (sc, ar)) Q) from ⟨(by decide), k⟩)
theorem sg_Md_isMore_7 {sc : Nat → Int} {ar : Nat → Nat → Int} {x1 : Int} {Q : Option mV → mH → Prop} (k : inR x1 ∧ 
  (x1 ≤ 0 → (inR x1 ∧ 
    (0 < x1 → ((0 : Int) ≤ x1 ∧ x1 < (8 : Int) ∧ 
      ((0 : Int) ≤ x1 ∧ x1 < (8 : Int) ∧ 
      (Ev 1 M_Md_isMore (51, [some (vO 11), some (vI x1), some (vI (x1 + 1))], [], (sc, (up ar 188 (up (ar 188) x1.toNat ((ar 188 x1.toNat) + 1))))) Q)))) ∧ 
    (¬ (0 < x1) → (Q (some (vI 0)) (sc, ar))))) ∧ 
  (¬ (x1 ≤ 0) → ((0 : Int) ≤ x1 ∧ x1 < (8 : Int) ∧ 
    (Ev 0 M_Md_greatest (0, [some (vO 11), some (vI x1), none, none], [], (sc, ar)) (fun r1 h1 => Ev 1 M_Md_isMore (22, [some (vO 11), some (vI x1), none], mPush r1 [vI (ar 188 x1.toNat)], h1) Q))))) :
  Ev 1 M_Md_isMore (7, [some (vO 11), some (vI x1), none], [], (sc, ar)) Q :=
  wq_ok 200 _ _ [(7, 2), (22, 2), (51, 3)] _ _ _ _ _ (show (inR x1) ∧ (x1 ≤ 0 → ((inR x1) ∧ (0 < x1 → ((cO 11 = 9) ∧ ((aK 188 = 0 ∧ (0 : Int) ≤ x1 ∧ x1 < (8 : Int)) ∧ ((aK 188 = 0 ∧ 188 ≠ 999 ∧ (0 : Int) ≤ x1 ∧ x1 < (8 : Int)) ∧ (Ev 1 M_Md_isMore (51, [some (vO 11), some (vI x1), some (vI (x1 + 1))], [], (sc, (up ar 188 (up (ar 188) x1.toNat ((ar 188 x1.toNat) + 1))))) Q))))) ∧ (¬ (0 < x1) → (((0 : Int) ≤ 0 ∧ (0 : Int) ≤ 1) ∧ (Q (some (vI 0)) (sc, ar)))))) ∧ (¬ (x1 ≤ 0) → ((cO 11 = 9) ∧ ((aK 188 = 0 ∧ (0 : Int) ≤ x1 ∧ x1 < (8 : Int)) ∧ ((cO 11 = mK M_Md_greatest) ∧ (Ev 0 M_Md_greatest (0, [some (vO 11), some (vI x1), none, none], [], (sc, ar)) (fun r1 h1 => Ev 1 M_Md_isMore (22, [some (vO 11), some (vI x1), none], mPush r1 [vI (ar 188 x1.toNat)], h1) Q)))))) from ⟨k.1, fun c1 => ⟨(k.2.1 c1).1, fun c2 => ⟨(by decide), ⟨⟨(by decide), ((k.2.1 c1).2.1 c2).1, ((k.2.1 c1).2.1 c2).2.1⟩, ⟨⟨(by decide), (by decide), ((k.2.1 c1).2.1 c2).2.2.1, ((k.2.1 c1).2.1 c2).2.2.2.1⟩, ((k.2.1 c1).2.1 c2).2.2.2.2⟩⟩⟩, fun c2 => ⟨⟨(by decide), (by decide)⟩, ((k.2.1 c1).2.2 c2)⟩⟩, fun c1 => ⟨(by decide), ⟨⟨(by decide), (k.2.2 c1).1, (k.2.2 c1).2.1⟩, ⟨(by decide), (k.2.2 c1).2.2⟩⟩⟩⟩)
theorem sg_Md_isMore_22 {sc : Nat → Int} {ar : Nat → Nat → Int} {x1 s0 s1 : Int} {Q : Option mV → mH → Prop} (k : inR s1 ∧ inR s0 ∧ 
  (s1 ≤ s0 → (inR x1 ∧ 
    (0 < x1 → ((0 : Int) ≤ x1 ∧ x1 < (8 : Int) ∧ 
      ((0 : Int) ≤ x1 ∧ x1 < (8 : Int) ∧ 
      (Ev 1 M_Md_isMore (51, [some (vO 11), some (vI x1), some (vI (x1 + 1))], [], (sc, (up ar 188 (up (ar 188) x1.toNat ((ar 188 x1.toNat) + 1))))) Q)))) ∧ 
    (¬ (0 < x1) → (Q (some (vI 0)) (sc, ar))))) ∧ 
  (¬ (s1 ≤ s0) → (Ev 1 M_Md_isMore (7, [some (vO 11), some (vI (x1 + (-1))), none], [], (sc, ar)) Q))) :
  Ev 1 M_Md_isMore (22, [some (vO 11), some (vI x1), none], [vI s0, vI s1], (sc, ar)) Q :=
  wq_ok 200 _ _ [(7, 2), (22, 2), (51, 3)] _ _ _ _ _ (show (inR s1 ∧ inR s0) ∧ (s1 ≤ s0 → ((inR x1) ∧ (0 < x1 → ((cO 11 = 9) ∧ ((aK 188 = 0 ∧ (0 : Int) ≤ x1 ∧ x1 < (8 : Int)) ∧ ((aK 188 = 0 ∧ 188 ≠ 999 ∧ (0 : Int) ≤ x1 ∧ x1 < (8 : Int)) ∧ (Ev 1 M_Md_isMore (51, [some (vO 11), some (vI x1), some (vI (x1 + 1))], [], (sc, (up ar 188 (up (ar 188) x1.toNat ((ar 188 x1.toNat) + 1))))) Q))))) ∧ (¬ (0 < x1) → (((0 : Int) ≤ 0 ∧ (0 : Int) ≤ 1) ∧ (Q (some (vI 0)) (sc, ar)))))) ∧ (¬ (s1 ≤ s0) → (Ev 1 M_Md_isMore (7, [some (vO 11), some (vI (x1 + (-1))), none], [], (sc, ar)) Q)) from ⟨⟨k.1, k.2.1⟩, fun c1 => ⟨(k.2.2.1 c1).1, fun c2 => ⟨(by decide), ⟨⟨(by decide), ((k.2.2.1 c1).2.1 c2).1, ((k.2.2.1 c1).2.1 c2).2.1⟩, ⟨⟨(by decide), (by decide), ((k.2.2.1 c1).2.1 c2).2.2.1, ((k.2.2.1 c1).2.1 c2).2.2.2.1⟩, ((k.2.2.1 c1).2.1 c2).2.2.2.2⟩⟩⟩, fun c2 => ⟨⟨(by decide), (by decide)⟩, ((k.2.2.1 c1).2.2 c2)⟩⟩, fun c1 => (k.2.2.2 c1)⟩)
theorem sg_Md_isMore_51 {sc : Nat → Int} {ar : Nat → Nat → Int} {x1 x2 : Int} {Q : Option mV → mH → Prop} (k : inR x2 ∧ inR (sc 177) ∧ 
  ((sc 177) ≤ x2 → (Q (some (vI 1)) (sc, ar))) ∧ 
  (¬ ((sc 177) ≤ x2) → ((0 : Int) ≤ x2 ∧ x2 < (8 : Int) ∧ 
    (Ev 1 M_Md_isMore (51, [some (vO 11), some (vI x1), some (vI (x2 + 1))], [], (sc, (up ar 188 (up (ar 188) x2.toNat 0)))) Q)))) :
  Ev 1 M_Md_isMore (51, [some (vO 11), some (vI x1), some (vI x2)], [], (sc, ar)) Q :=
  wq_ok 200 _ _ [(7, 2), (22, 2), (51, 3)] _ _ _ _ _ (show (cO 11 = 9) ∧ ((inR x2 ∧ inR (sc 177)) ∧ ((sc 177) ≤ x2 → (((0 : Int) ≤ 1 ∧ (1 : Int) ≤ 1) ∧ (Q (some (vI 1)) (sc, ar)))) ∧ (¬ ((sc 177) ≤ x2) → ((cO 11 = 9) ∧ ((aK 188 = 0 ∧ 188 ≠ 999 ∧ (0 : Int) ≤ x2 ∧ x2 < (8 : Int)) ∧ (Ev 1 M_Md_isMore (51, [some (vO 11), some (vI x1), some (vI (x2 + 1))], [], (sc, (up ar 188 (up (ar 188) x2.toNat 0)))) Q))))) from ⟨(by decide), ⟨⟨k.1, k.2.1⟩, fun c1 => ⟨⟨(by decide), (by decide)⟩, (k.2.2.1 c1)⟩, fun c1 => ⟨(by decide), ⟨⟨(by decide), (by decide), (k.2.2.2 c1).1, (k.2.2.2 c1).2.1⟩, (k.2.2.2 c1).2.2⟩⟩⟩⟩)
theorem sg_Md_greatest_0 {sc : Nat → Int} {ar : Nat → Nat → Int} {x1 : Int} {Q : Option mV → mH → Prop} (k : Ev 0 M_Md_greatest (4, [some (vO 11), some (vI x1), some (vI 0), some (vI 0)], [], (sc, ar)) Q) :
  Ev 0 M_Md_greatest (0, [some (vO 11), some (vI x1), none, none], [], (sc, ar)) Q :=
  wq_ok 200 _ _ [(4, 4)] _ _ _ _ _ (show Ev 0 M_Md_greatest (4, [some (vO 11), some (vI x1), some (vI 0), some (vI 0)], [], (sc, ar)) Q from k)
theorem sg_Md_greatest_4 {sc : Nat → Int} {ar : Nat → Nat → Int} {x1 x2 x3 : Int} {Q : Option mV → mH → Prop} (k : inR x3 ∧ inR x1 ∧ 
  (x1 ≤ x3 → (Q (some (vI x2)) (sc, ar))) ∧ 
  (¬ (x1 ≤ x3) → ((0 : Int) ≤ x3 ∧ x3 < (8 : Int) ∧ 
    (inR (ar 188 x3.toNat) ∧ inR x2 ∧ 
    ((ar 188 x3.toNat) ≤ x2 → (Ev 0 M_Md_greatest (4, [some (vO 11), some (vI x1), some (vI x2), some (vI (x3 + 1))], [], (sc, ar)) Q)) ∧ 
    (¬ ((ar 188 x3.toNat) ≤ x2) → ((0 : Int) ≤ x3 ∧ x3 < (8 : Int) ∧ 
      (Ev 0 M_Md_greatest (4, [some (vO 11), some (vI x1), some (vI (ar 188 x3.toNat)), some (vI (x3 + 1))], [], (sc, ar)) Q))))))) :
  Ev 0 M_Md_greatest (4, [some (vO 11), some (vI x1), some (vI x2), some (vI x3)], [], (sc, ar)) Q :=
  wq_ok 200 _ _ [(4, 4)] _ _ _ _ _ (show (inR x3 ∧ inR x1) ∧ (x1 ≤ x3 → (Q (some (vI x2)) (sc, ar))) ∧ (¬ (x1 ≤ x3) → ((cO 11 = 9) ∧ ((aK 188 = 0 ∧ (0 : Int) ≤ x3 ∧ x3 < (8 : Int)) ∧ ((inR (ar 188 x3.toNat) ∧ inR x2) ∧ ((ar 188 x3.toNat) ≤ x2 → (Ev 0 M_Md_greatest (4, [some (vO 11), some (vI x1), some (vI x2), some (vI (x3 + 1))], [], (sc, ar)) Q)) ∧ (¬ ((ar 188 x3.toNat) ≤ x2) → ((cO 11 = 9) ∧ ((aK 188 = 0 ∧ (0 : Int) ≤ x3 ∧ x3 < (8 : Int)) ∧ (Ev 0 M_Md_greatest (4, [some (vO 11), some (vI x1), some (vI (ar 188 x3.toNat)), some (vI (x3 + 1))], [], (sc, ar)) Q)))))))) from ⟨⟨k.1, k.2.1⟩, fun c1 => (k.2.2.1 c1), fun c1 => ⟨(by decide), ⟨⟨(by decide), (k.2.2.2 c1).1, (k.2.2.2 c1).2.1⟩, ⟨⟨(k.2.2.2 c1).2.2.1, (k.2.2.2 c1).2.2.2.1⟩, fun c2 => ((k.2.2.2 c1).2.2.2.2.1 c2), fun c2 => ⟨(by decide), ⟨⟨(by decide), ((k.2.2.2 c1).2.2.2.2.2 c2).1, ((k.2.2.2 c1).2.2.2.2.2 c2).2.1⟩, ((k.2.2.2 c1).2.2.2.2.2 c2).2.2⟩⟩⟩⟩⟩⟩)
theorem sg_Md_teams_0 {sc : Nat → Int} {ar : Nat → Nat → Int} {x1 : Int} {Q : Option mV → mH → Prop} (k : Ev 2 M_Md_teams (2, [some (vO 11), some (vI x1), some (vI 0), none, none, none, none], [], (sc, ar)) Q) :
  Ev 2 M_Md_teams (0, [some (vO 11), some (vI x1), none, none, none, none, none], [], (sc, ar)) Q :=
  wq_ok 200 _ _ [(2, 3), (38, 4), (47, 4), (53, 5), (107, 7), (140, 6)] _ _ _ _ _ (show Ev 2 M_Md_teams (2, [some (vO 11), some (vI x1), some (vI 0), none, none, none, none], [], (sc, ar)) Q from k)
theorem sg_Md_teams_2 {sc : Nat → Int} {ar : Nat → Nat → Int} {x1 x2 : Int} {Q : Option mV → mH → Prop} (k : inR x2 ∧ 
  (8 ≤ x2 → (Ev 2 M_Md_teams (38, [some (vO 11), some (vI x1), some (vI 0), some (vI 1), none, none, none], [], ((up sc 190 (-9)), ar)) Q)) ∧ 
  (¬ (8 ≤ x2) → ((0 : Int) ≤ x2 ∧ x2 < (8 : Int) ∧ 
    ((0 : Int) ≤ x2 ∧ x2 < (8 : Int) ∧ 
    (Ev 2 M_Md_teams (2, [some (vO 11), some (vI x1), some (vI (x2 + 1)), none, none, none, none], [], (sc, (up (up ar 188 (up (ar 188) x2.toNat 0)) 189 (up (ar 189) x2.toNat 0)))) Q))))) :
  Ev 2 M_Md_teams (2, [some (vO 11), some (vI x1), some (vI x2), none, none, none, none], [], (sc, ar)) Q :=
  wq_ok 200 _ _ [(2, 3), (38, 4), (47, 4), (53, 5), (107, 7), (140, 6)] _ _ _ _ _ (show (inR x2 ∧ inR 8) ∧ (8 ≤ x2 → ((cO 11 = 9) ∧ (Ev 2 M_Md_teams (38, [some (vO 11), some (vI x1), some (vI 0), some (vI 1), none, none, none], [], ((up sc 190 (-9)), ar)) Q))) ∧ (¬ (8 ≤ x2) → ((cO 11 = 9) ∧ ((aK 188 = 0 ∧ 188 ≠ 999 ∧ (0 : Int) ≤ x2 ∧ x2 < (8 : Int)) ∧ ((cO 11 = 9) ∧ ((aK 189 = 0 ∧ 189 ≠ 999 ∧ (0 : Int) ≤ x2 ∧ x2 < (8 : Int)) ∧ (Ev 2 M_Md_teams (2, [some (vO 11), some (vI x1), some (vI (x2 + 1)), none, none, none, none], [], (sc, (up (up ar 188 (up (ar 188) x2.toNat 0)) 189 (up (ar 189) x2.toNat 0)))) Q)))))) from ⟨⟨k.1, (by decide)⟩, fun c1 => ⟨(by decide), (k.2.1 c1)⟩, fun c1 => ⟨(by decide), ⟨⟨(by decide), (by decide), (k.2.2 c1).1, (k.2.2 c1).2.1⟩, ⟨(by decide), ⟨⟨(by decide), (by decide), (k.2.2 c1).2.2.1, (k.2.2 c1).2.2.2.1⟩, (k.2.2 c1).2.2.2.2⟩⟩⟩⟩⟩)
theorem sg_Md_teams_38 {sc : Nat → Int} {ar : Nat → Nat → Int} {x1 x2 x3 : Int} {Q : Option mV → mH → Prop} (k : inR x3 ∧ 
  (x3 = 0 → (Q none (sc, ar))) ∧ 
  (¬ (x3 = 0) → (Ev 1 M_Md_teamsOf (0, [some (vO 11), some (vI x1), none, none, none, none], [], (sc, ar)) (fun r1 h1 => Ev 2 M_Md_teams (47, [some (vO 11), some (vI x1), some (vI x2), some (vI x3), none, none, none], mPush r1 [], h1) Q)))) :
  Ev 2 M_Md_teams (38, [some (vO 11), some (vI x1), some (vI x2), some (vI x3), none, none, none], [], (sc, ar)) Q :=
  wq_ok 200 _ _ [(2, 3), (38, 4), (47, 4), (53, 5), (107, 7), (140, 6)] _ _ _ _ _ (show (inR x3) ∧ (x3 = 0 → (Q none (sc, ar))) ∧ (¬ (x3 = 0) → ((cO 11 = mK M_Md_teamsOf) ∧ (Ev 1 M_Md_teamsOf (0, [some (vO 11), some (vI x1), none, none, none, none], [], (sc, ar)) (fun r1 h1 => Ev 2 M_Md_teams (47, [some (vO 11), some (vI x1), some (vI x2), some (vI x3), none, none, none], mPush r1 [], h1) Q)))) from ⟨k.1, fun c1 => (k.2.1 c1), fun c1 => ⟨(by decide), (k.2.2 c1)⟩⟩)
theorem sg_Md_teams_47 {sc : Nat → Int} {ar : Nat → Nat → Int} {x1 x2 x3 s0 : Int} {Q : Option mV → mH → Prop} (k : Ev 1 M_Md_betweenOf (0, [some (vO 11), none, none, none], [], (sc, ar)) (fun r1 h1 => Ev 2 M_Md_teams (53, [some (vO 11), some (vI x1), some (vI x2), some (vI x3), some (vI s0), none, none], mPush r1 [], h1) Q)) :
  Ev 2 M_Md_teams (47, [some (vO 11), some (vI x1), some (vI x2), some (vI x3), none, none, none], [vI s0], (sc, ar)) Q :=
  wq_ok 200 _ _ [(2, 3), (38, 4), (47, 4), (53, 5), (107, 7), (140, 6)] _ _ _ _ _ (show (cO 11 = mK M_Md_betweenOf) ∧ (Ev 1 M_Md_betweenOf (0, [some (vO 11), none, none, none], [], (sc, ar)) (fun r1 h1 => Ev 2 M_Md_teams (53, [some (vO 11), some (vI x1), some (vI x2), some (vI x3), some (vI s0), none, none], mPush r1 [], h1) Q)) from ⟨(by decide), k⟩)
theorem sg_Md_teams_53 {sc : Nat → Int} {ar : Nat → Nat → Int} {x1 x2 x3 x4 s0 : Int} {Q : Option mV → mH → Prop} (k : inR x4 ∧ 
  (100 ≤ x4 → (Ev 1 M_Md_isMore (0, [some (vO 11), none, none], [], (sc, ar)) (fun r1 h1 => Ev 2 M_Md_teams (140, [some (vO 11), some (vI x1), some (vI x2), some (vI x3), some (vI x4), some (vI s0), none], mPush r1 [], h1) Q))) ∧ 
  (¬ (100 ≤ x4) → (inR (sc 190) ∧ 
    ((sc 190) = (-9) → (Ev 2 M_Md_teams (107, [some (vO 11), some (vI x1), some (vI x4), some (vI x3), some (vI x4), some (vI s0), some (vI 0)], [], ((up sc 190 s0), ar)) Q)) ∧ 
    (¬ ((sc 190) = (-9)) → (inR s0 ∧ inR (sc 190) ∧ 
      (s0 < (sc 190) → (Ev 2 M_Md_teams (107, [some (vO 11), some (vI x1), some (vI x4), some (vI x3), some (vI x4), some (vI s0), some (vI 0)], [], ((up sc 190 s0), ar)) Q)) ∧ 
      (¬ (s0 < (sc 190)) → (inR s0 ∧ inR (sc 190) ∧ 
        (s0 ≠ (sc 190) → (Ev 1 M_Md_isMore (0, [some (vO 11), none, none], [], (sc, ar)) (fun r1 h1 => Ev 2 M_Md_teams (140, [some (vO 11), some (vI x1), some (vI x2), some (vI x3), some (vI x4), some (vI s0), none], mPush r1 [], h1) Q))) ∧ 
        (¬ (s0 ≠ (sc 190)) → (inR x4 ∧ inR x2 ∧ 
          (x2 ≤ x4 → (Ev 1 M_Md_isMore (0, [some (vO 11), none, none], [], (sc, ar)) (fun r1 h1 => Ev 2 M_Md_teams (140, [some (vO 11), some (vI x1), some (vI x2), some (vI x3), some (vI x4), some (vI s0), none], mPush r1 [], h1) Q))) ∧ 
          (¬ (x2 ≤ x4) → (Ev 2 M_Md_teams (107, [some (vO 11), some (vI x1), some (vI x4), some (vI x3), some (vI x4), some (vI s0), some (vI 0)], [], ((up sc 190 s0), ar)) Q))))))))))) :
  Ev 2 M_Md_teams (53, [some (vO 11), some (vI x1), some (vI x2), some (vI x3), some (vI x4), none, none], [vI s0], (sc, ar)) Q :=
  wq_ok 200 _ _ [(2, 3), (38, 4), (47, 4), (53, 5), (107, 7), (140, 6)] _ _ _ _ _ (show (inR x4 ∧ inR 100) ∧ (100 ≤ x4 → ((cO 11 = mK M_Md_isMore) ∧ (Ev 1 M_Md_isMore (0, [some (vO 11), none, none], [], (sc, ar)) (fun r1 h1 => Ev 2 M_Md_teams (140, [some (vO 11), some (vI x1), some (vI x2), some (vI x3), some (vI x4), some (vI s0), none], mPush r1 [], h1) Q)))) ∧ (¬ (100 ≤ x4) → ((cO 11 = 9) ∧ ((inR (sc 190) ∧ inR (-9)) ∧ ((sc 190) = (-9) → ((cO 11 = 9) ∧ (Ev 2 M_Md_teams (107, [some (vO 11), some (vI x1), some (vI x4), some (vI x3), some (vI x4), some (vI s0), some (vI 0)], [], ((up sc 190 s0), ar)) Q))) ∧ (¬ ((sc 190) = (-9)) → ((cO 11 = 9) ∧ ((inR s0 ∧ inR (sc 190)) ∧ (s0 < (sc 190) → ((cO 11 = 9) ∧ (Ev 2 M_Md_teams (107, [some (vO 11), some (vI x1), some (vI x4), some (vI x3), some (vI x4), some (vI s0), some (vI 0)], [], ((up sc 190 s0), ar)) Q))) ∧ (¬ (s0 < (sc 190)) → ((cO 11 = 9) ∧ ((inR s0 ∧ inR (sc 190)) ∧ (s0 ≠ (sc 190) → ((cO 11 = mK M_Md_isMore) ∧ (Ev 1 M_Md_isMore (0, [some (vO 11), none, none], [], (sc, ar)) (fun r1 h1 => Ev 2 M_Md_teams (140, [some (vO 11), some (vI x1), some (vI x2), some (vI x3), some (vI x4), some (vI s0), none], mPush r1 [], h1) Q)))) ∧ (¬ (s0 ≠ (sc 190)) → ((inR x4 ∧ inR x2) ∧ (x2 ≤ x4 → ((cO 11 = mK M_Md_isMore) ∧ (Ev 1 M_Md_isMore (0, [some (vO 11), none, none], [], (sc, ar)) (fun r1 h1 => Ev 2 M_Md_teams (140, [some (vO 11), some (vI x1), some (vI x2), some (vI x3), some (vI x4), some (vI s0), none], mPush r1 [], h1) Q)))) ∧ (¬ (x2 ≤ x4) → ((cO 11 = 9) ∧ (Ev 2 M_Md_teams (107, [some (vO 11), some (vI x1), some (vI x4), some (vI x3), some (vI x4), some (vI s0), some (vI 0)], [], ((up sc 190 s0), ar)) Q)))))))))))))) from ⟨⟨k.1, (by decide)⟩, fun c1 => ⟨(by decide), (k.2.1 c1)⟩, fun c1 => ⟨(by decide), ⟨⟨(k.2.2 c1).1, (by decide)⟩, fun c2 => ⟨(by decide), ((k.2.2 c1).2.1 c2)⟩, fun c2 => ⟨(by decide), ⟨⟨((k.2.2 c1).2.2 c2).1, ((k.2.2 c1).2.2 c2).2.1⟩, fun c3 => ⟨(by decide), (((k.2.2 c1).2.2 c2).2.2.1 c3)⟩, fun c3 => ⟨(by decide), ⟨⟨(((k.2.2 c1).2.2 c2).2.2.2 c3).1, (((k.2.2 c1).2.2 c2).2.2.2 c3).2.1⟩, fun c4 => ⟨(by decide), ((((k.2.2 c1).2.2 c2).2.2.2 c3).2.2.1 c4)⟩, fun c4 => ⟨⟨((((k.2.2 c1).2.2 c2).2.2.2 c3).2.2.2 c4).1, ((((k.2.2 c1).2.2 c2).2.2.2 c3).2.2.2 c4).2.1⟩, fun c5 => ⟨(by decide), (((((k.2.2 c1).2.2 c2).2.2.2 c3).2.2.2 c4).2.2.1 c5)⟩, fun c5 => ⟨(by decide), (((((k.2.2 c1).2.2 c2).2.2.2 c3).2.2.2 c4).2.2.2 c5)⟩⟩⟩⟩⟩⟩⟩⟩⟩)
theorem sg_Md_teams_107 {sc : Nat → Int} {ar : Nat → Nat → Int} {x1 x2 x3 x4 x5 x6 : Int} {Q : Option mV → mH → Prop} (k : inR x6 ∧ inR (sc 177) ∧ 
  ((sc 177) ≤ x6 → (Ev 1 M_Md_isMore (0, [some (vO 11), none, none], [], (sc, ar)) (fun r1 h1 => Ev 2 M_Md_teams (140, [some (vO 11), some (vI x1), some (vI x2), some (vI x3), some (vI x4), some (vI x5), none], mPush r1 [], h1) Q))) ∧ 
  (¬ ((sc 177) ≤ x6) → ((0 : Int) ≤ x6 ∧ x6 < (8 : Int) ∧ 
    ((0 : Int) ≤ x6 ∧ x6 < (8 : Int) ∧ 
    (Ev 2 M_Md_teams (107, [some (vO 11), some (vI x1), some (vI x2), some (vI x3), some (vI x4), some (vI x5), some (vI (x6 + 1))], [], (sc, (up ar 189 (up (ar 189) x6.toNat (ar 188 x6.toNat))))) Q))))) :
  Ev 2 M_Md_teams (107, [some (vO 11), some (vI x1), some (vI x2), some (vI x3), some (vI x4), some (vI x5), some (vI x6)], [], (sc, ar)) Q :=
  wq_ok 200 _ _ [(2, 3), (38, 4), (47, 4), (53, 5), (107, 7), (140, 6)] _ _ _ _ _ (show (cO 11 = 9) ∧ ((inR x6 ∧ inR (sc 177)) ∧ ((sc 177) ≤ x6 → ((cO 11 = mK M_Md_isMore) ∧ (Ev 1 M_Md_isMore (0, [some (vO 11), none, none], [], (sc, ar)) (fun r1 h1 => Ev 2 M_Md_teams (140, [some (vO 11), some (vI x1), some (vI x2), some (vI x3), some (vI x4), some (vI x5), none], mPush r1 [], h1) Q)))) ∧ (¬ ((sc 177) ≤ x6) → ((cO 11 = 9) ∧ ((cO 11 = 9) ∧ ((aK 188 = 0 ∧ (0 : Int) ≤ x6 ∧ x6 < (8 : Int)) ∧ ((aK 189 = 0 ∧ 189 ≠ 999 ∧ (0 : Int) ≤ x6 ∧ x6 < (8 : Int)) ∧ (Ev 2 M_Md_teams (107, [some (vO 11), some (vI x1), some (vI x2), some (vI x3), some (vI x4), some (vI x5), some (vI (x6 + 1))], [], (sc, (up ar 189 (up (ar 189) x6.toNat (ar 188 x6.toNat))))) Q))))))) from ⟨(by decide), ⟨⟨k.1, k.2.1⟩, fun c1 => ⟨(by decide), (k.2.2.1 c1)⟩, fun c1 => ⟨(by decide), ⟨(by decide), ⟨⟨(by decide), (k.2.2.2 c1).1, (k.2.2.2 c1).2.1⟩, ⟨⟨(by decide), (by decide), (k.2.2.2 c1).2.2.1, (k.2.2.2 c1).2.2.2.1⟩, (k.2.2.2 c1).2.2.2.2⟩⟩⟩⟩⟩⟩)
theorem sg_Md_teams_140 {sc : Nat → Int} {ar : Nat → Nat → Int} {x1 x2 x3 x4 x5 s0 : Int} {Q : Option mV → mH → Prop} (k : Ev 2 M_Md_teams (38, [some (vO 11), some (vI x1), some (vI x2), some (vI s0), none, none, none], [], (sc, ar)) Q) :
  Ev 2 M_Md_teams (140, [some (vO 11), some (vI x1), some (vI x2), some (vI x3), some (vI x4), some (vI x5), none], [vI s0], (sc, ar)) Q :=
  wq_ok 200 _ _ [(2, 3), (38, 4), (47, 4), (53, 5), (107, 7), (140, 6)] _ _ _ _ _ (show Ev 2 M_Md_teams (38, [some (vO 11), some (vI x1), some (vI x2), some (vI s0), none, none, none], [], (sc, ar)) Q from k)
theorem sg_Md_between_0 {sc : Nat → Int} {ar : Nat → Nat → Int} {x1 : Int} {Q : Option mV → mH → Prop} (k : inR x1 ∧ 
  (Ev 2 M_Md_in (0, [some (vL x1), none, some (vL 1), none, some (vL 8), none], [], ((up sc 176 0), ar)) (fun r1 h1 => Ev 3 M_Md_between (14, [some (vO 11), some (vI x1)], mPush r1 [], h1) Q))) :
  Ev 3 M_Md_between (0, [some (vO 11), some (vI x1)], [], (sc, ar)) Q :=
  wq_ok 200 _ _ [(14, 2), (25, 2)] _ _ _ _ _ (show (cO 11 = 9) ∧ ((inR x1) ∧ (Ev 2 M_Md_in (0, [some (vL x1), none, some (vL 1), none, some (vL 8), none], [], ((up sc 176 0), ar)) (fun r1 h1 => Ev 3 M_Md_between (14, [some (vO 11), some (vI x1)], mPush r1 [], h1) Q))) from ⟨(by decide), ⟨k.1, k.2⟩⟩)
theorem sg_Md_between_14 {sc : Nat → Int} {ar : Nat → Nat → Int} {x1 s0 : Int} {Q : Option mV → mH → Prop} (k : inR s0 ∧ 
  (s0 ≠ 0 → (Ev 2 M_Md_teams (0, [some (vO 11), some (vI x1), none, none, none, none, none], [], (sc, ar)) (fun r1 h1 => Ev 3 M_Md_between (25, [some (vO 11), some (vI x1)], mPush r1 [], h1) Q))) ∧ 
  (¬ (s0 ≠ 0) → (Q (some (vI (-2))) (sc, ar)))) :
  Ev 3 M_Md_between (14, [some (vO 11), some (vI x1)], [vI s0], (sc, ar)) Q :=
  wq_ok 200 _ _ [(14, 2), (25, 2)] _ _ _ _ _ (show (inR s0) ∧ (s0 ≠ 0 → ((cO 11 = mK M_Md_teams) ∧ (Ev 2 M_Md_teams (0, [some (vO 11), some (vI x1), none, none, none, none, none], [], (sc, ar)) (fun r1 h1 => Ev 3 M_Md_between (25, [some (vO 11), some (vI x1)], mPush r1 [], h1) Q)))) ∧ (¬ (s0 ≠ 0) → (Q (some (vI (-2))) (sc, ar))) from ⟨k.1, fun c1 => ⟨(by decide), (k.2.1 c1)⟩, fun c1 => (k.2.2 c1)⟩)
theorem sg_Md_between_25 {sc : Nat → Int} {ar : Nat → Nat → Int} {x1 : Int} {Q : Option mV → mH → Prop} (k : Q (some (vI (sc 190))) (sc, ar)) :
  Ev 3 M_Md_between (25, [some (vO 11), some (vI x1)], [], (sc, ar)) Q :=
  wq_ok 200 _ _ [(14, 2), (25, 2)] _ _ _ _ _ (show (cO 11 = 9) ∧ (Q (some (vI (sc 190))) (sc, ar)) from ⟨(by decide), k⟩)
theorem sg_Md_team_0 {sc : Nat → Int} {ar : Nat → Nat → Int} {x1 x2 : Int} {Q : Option mV → mH → Prop} (k : Ev 2 M_Md_no (0, [some (vO 11), some (vI x2)], [], ((up sc 176 0), ar)) (fun r1 h1 => Ev 3 M_Md_team (10, [some (vO 11), some (vI x1), some (vI x2)], mPush r1 [], h1) Q)) :
  Ev 3 M_Md_team (0, [some (vO 11), some (vI x1), some (vI x2)], [], (sc, ar)) Q :=
  wq_ok 200 _ _ [(10, 3), (24, 3), (35, 3)] _ _ _ _ _ (show (cO 11 = 9) ∧ ((cO 11 = mK M_Md_no) ∧ (Ev 2 M_Md_no (0, [some (vO 11), some (vI x2)], [], ((up sc 176 0), ar)) (fun r1 h1 => Ev 3 M_Md_team (10, [some (vO 11), some (vI x1), some (vI x2)], mPush r1 [], h1) Q))) from ⟨(by decide), ⟨(by decide), k⟩⟩)
theorem sg_Md_team_10 {sc : Nat → Int} {ar : Nat → Nat → Int} {x1 x2 s0 : Int} {Q : Option mV → mH → Prop} (k : inR s0 ∧ 
  (s0 = 0 → (inR x1 ∧ 
    (Ev 2 M_Md_in (0, [some (vL x1), none, some (vL 1), none, some (vL 8), none], [], (sc, ar)) (fun r1 h1 => Ev 3 M_Md_team (24, [some (vO 11), some (vI x1), some (vI x2)], mPush r1 [], h1) Q)))) ∧ 
  (¬ (s0 = 0) → (Q (some (vI (-1))) (sc, ar)))) :
  Ev 3 M_Md_team (10, [some (vO 11), some (vI x1), some (vI x2)], [vI s0], (sc, ar)) Q :=
  wq_ok 200 _ _ [(10, 3), (24, 3), (35, 3)] _ _ _ _ _ (show (inR s0) ∧ (s0 = 0 → ((inR x1) ∧ (Ev 2 M_Md_in (0, [some (vL x1), none, some (vL 1), none, some (vL 8), none], [], (sc, ar)) (fun r1 h1 => Ev 3 M_Md_team (24, [some (vO 11), some (vI x1), some (vI x2)], mPush r1 [], h1) Q)))) ∧ (¬ (s0 = 0) → (Q (some (vI (-1))) (sc, ar))) from ⟨k.1, fun c1 => ⟨(k.2.1 c1).1, (k.2.1 c1).2⟩, fun c1 => (k.2.2 c1)⟩)
theorem sg_Md_team_24 {sc : Nat → Int} {ar : Nat → Nat → Int} {x1 x2 s0 : Int} {Q : Option mV → mH → Prop} (k : inR s0 ∧ 
  (s0 ≠ 0 → (Ev 2 M_Md_teams (0, [some (vO 11), some (vI x1), none, none, none, none, none], [], (sc, ar)) (fun r1 h1 => Ev 3 M_Md_team (35, [some (vO 11), some (vI x1), some (vI x2)], mPush r1 [], h1) Q))) ∧ 
  (¬ (s0 ≠ 0) → (Q (some (vI (-2))) (sc, ar)))) :
  Ev 3 M_Md_team (24, [some (vO 11), some (vI x1), some (vI x2)], [vI s0], (sc, ar)) Q :=
  wq_ok 200 _ _ [(10, 3), (24, 3), (35, 3)] _ _ _ _ _ (show (inR s0) ∧ (s0 ≠ 0 → ((cO 11 = mK M_Md_teams) ∧ (Ev 2 M_Md_teams (0, [some (vO 11), some (vI x1), none, none, none, none, none], [], (sc, ar)) (fun r1 h1 => Ev 3 M_Md_team (35, [some (vO 11), some (vI x1), some (vI x2)], mPush r1 [], h1) Q)))) ∧ (¬ (s0 ≠ 0) → (Q (some (vI (-2))) (sc, ar))) from ⟨k.1, fun c1 => ⟨(by decide), (k.2.1 c1)⟩, fun c1 => (k.2.2 c1)⟩)
theorem sg_Md_team_35 {sc : Nat → Int} {ar : Nat → Nat → Int} {x1 x2 : Int} {Q : Option mV → mH → Prop} (k : (0 : Int) ≤ x2 ∧ x2 < (8 : Int) ∧ 
  (Q (some (vI (ar 189 x2.toNat))) (sc, ar))) :
  Ev 3 M_Md_team (35, [some (vO 11), some (vI x1), some (vI x2)], [], (sc, ar)) Q :=
  wq_ok 200 _ _ [(10, 3), (24, 3), (35, 3)] _ _ _ _ _ (show (cO 11 = 9) ∧ ((aK 189 = 0 ∧ (0 : Int) ≤ x2 ∧ x2 < (8 : Int)) ∧ (Q (some (vI (ar 189 x2.toNat))) (sc, ar))) from ⟨(by decide), ⟨⟨(by decide), k.1, k.2.1⟩, k.2.2⟩⟩)
theorem sg_Md_forces_0 {sc : Nat → Int} {ar : Nat → Nat → Int} {x1 : Int} {Q : Option mV → mH → Prop} (k : Ev 0 M_Md_forces (2, [some (vO 11), some (vI x1), some (vI 0), none, none, none, none], [], (sc, ar)) Q) :
  Ev 0 M_Md_forces (0, [some (vO 11), some (vI x1), none, none, none, none, none], [], (sc, ar)) Q :=
  wq_ok 200 _ _ [(2, 3), (34, 3), (42, 4), (53, 5)] _ _ _ _ _ (show Ev 0 M_Md_forces (2, [some (vO 11), some (vI x1), some (vI 0), none, none, none, none], [], (sc, ar)) Q from k)
theorem sg_Md_forces_2 {sc : Nat → Int} {ar : Nat → Nat → Int} {x1 x2 : Int} {Q : Option mV → mH → Prop} (k : inR x2 ∧ 
  (8 ≤ x2 → (Ev 0 M_Md_forces (34, [some (vO 11), some (vI x1), some (vI 0), none, none, none, none], [], (sc, ar)) Q)) ∧ 
  (¬ (8 ≤ x2) → (inR x2 ∧ inR x1 ∧ 
    (x2 ≠ x1 → ((0 : Int) ≤ x2 ∧ x2 < (8 : Int) ∧ 
      (Ev 0 M_Md_forces (2, [some (vO 11), some (vI x1), some (vI (x2 + 1)), none, none, none, none], [], (sc, (up ar 191 (up (ar 191) x2.toNat 0)))) Q))) ∧ 
    (¬ (x2 ≠ x1) → ((0 : Int) ≤ x2 ∧ x2 < (8 : Int) ∧ 
      (Ev 0 M_Md_forces (2, [some (vO 11), some (vI x1), some (vI (x2 + 1)), none, none, none, none], [], (sc, (up ar 191 (up (ar 191) x2.toNat 10000000)))) Q)))))) :
  Ev 0 M_Md_forces (2, [some (vO 11), some (vI x1), some (vI x2), none, none, none, none], [], (sc, ar)) Q :=
  wq_ok 200 _ _ [(2, 3), (34, 3), (42, 4), (53, 5)] _ _ _ _ _ (show (inR x2 ∧ inR 8) ∧ (8 ≤ x2 → (Ev 0 M_Md_forces (34, [some (vO 11), some (vI x1), some (vI 0), none, none, none, none], [], (sc, ar)) Q)) ∧ (¬ (8 ≤ x2) → ((cO 11 = 9) ∧ ((inR x2 ∧ inR x1) ∧ (x2 ≠ x1 → ((aK 191 = 1 ∧ 191 ≠ 999 ∧ (0 : Int) ≤ x2 ∧ x2 < (8 : Int)) ∧ (Ev 0 M_Md_forces (2, [some (vO 11), some (vI x1), some (vI (x2 + 1)), none, none, none, none], [], (sc, (up ar 191 (up (ar 191) x2.toNat 0)))) Q))) ∧ (¬ (x2 ≠ x1) → ((aK 191 = 1 ∧ 191 ≠ 999 ∧ (0 : Int) ≤ x2 ∧ x2 < (8 : Int)) ∧ (Ev 0 M_Md_forces (2, [some (vO 11), some (vI x1), some (vI (x2 + 1)), none, none, none, none], [], (sc, (up ar 191 (up (ar 191) x2.toNat 10000000)))) Q)))))) from ⟨⟨k.1, (by decide)⟩, fun c1 => (k.2.1 c1), fun c1 => ⟨(by decide), ⟨⟨(k.2.2 c1).1, (k.2.2 c1).2.1⟩, fun c2 => ⟨⟨(by decide), (by decide), ((k.2.2 c1).2.2.1 c2).1, ((k.2.2 c1).2.2.1 c2).2.1⟩, ((k.2.2 c1).2.2.1 c2).2.2⟩, fun c2 => ⟨⟨(by decide), (by decide), ((k.2.2 c1).2.2.2 c2).1, ((k.2.2 c1).2.2.2 c2).2.1⟩, ((k.2.2 c1).2.2.2 c2).2.2⟩⟩⟩⟩)
theorem sg_Md_forces_34 {sc : Nat → Int} {ar : Nat → Nat → Int} {x1 x2 : Int} {Q : Option mV → mH → Prop} (k : inR x2 ∧ 
  (8 ≤ x2 → (Q none (sc, ar))) ∧ 
  (¬ (8 ≤ x2) → (Ev 0 M_Md_forces (42, [some (vO 11), some (vI x1), some (vI x2), some (vI 0), none, none, none], [], (sc, ar)) Q))) :
  Ev 0 M_Md_forces (34, [some (vO 11), some (vI x1), some (vI x2), none, none, none, none], [], (sc, ar)) Q :=
  wq_ok 200 _ _ [(2, 3), (34, 3), (42, 4), (53, 5)] _ _ _ _ _ (show (inR x2 ∧ inR 8) ∧ (8 ≤ x2 → (Q none (sc, ar))) ∧ (¬ (8 ≤ x2) → (Ev 0 M_Md_forces (42, [some (vO 11), some (vI x1), some (vI x2), some (vI 0), none, none, none], [], (sc, ar)) Q)) from ⟨⟨k.1, (by decide)⟩, fun c1 => (k.2.1 c1), fun c1 => (k.2.2 c1)⟩)
theorem sg_Md_forces_42 {sc : Nat → Int} {ar : Nat → Nat → Int} {x1 x2 x3 : Int} {Q : Option mV → mH → Prop} (k : inR x3 ∧ inR (sc 177) ∧ 
  ((sc 177) ≤ x3 → (Ev 0 M_Md_forces (34, [some (vO 11), some (vI x1), some (vI (x2 + 1)), none, none, none, none], [], (sc, ar)) Q)) ∧ 
  (¬ ((sc 177) ≤ x3) → (Ev 0 M_Md_forces (53, [some (vO 11), some (vI x1), some (vI x2), some (vI x3), some (vI 0), none, none], [], (sc, ar)) Q))) :
  Ev 0 M_Md_forces (42, [some (vO 11), some (vI x1), some (vI x2), some (vI x3), none, none, none], [], (sc, ar)) Q :=
  wq_ok 200 _ _ [(2, 3), (34, 3), (42, 4), (53, 5)] _ _ _ _ _ (show (cO 11 = 9) ∧ ((inR x3 ∧ inR (sc 177)) ∧ ((sc 177) ≤ x3 → (Ev 0 M_Md_forces (34, [some (vO 11), some (vI x1), some (vI (x2 + 1)), none, none, none, none], [], (sc, ar)) Q)) ∧ (¬ ((sc 177) ≤ x3) → (Ev 0 M_Md_forces (53, [some (vO 11), some (vI x1), some (vI x2), some (vI x3), some (vI 0), none, none], [], (sc, ar)) Q))) from ⟨(by decide), ⟨⟨k.1, k.2.1⟩, fun c1 => (k.2.2.1 c1), fun c1 => (k.2.2.2 c1)⟩⟩)
theorem sg_Md_forces_53 {sc : Nat → Int} {ar : Nat → Nat → Int} {x1 x2 x3 x4 : Int} {Q : Option mV → mH → Prop} (k : inR x4 ∧ inR (sc 177) ∧ 
  ((sc 177) ≤ x4 → (Ev 0 M_Md_forces (42, [some (vO 11), some (vI x1), some (vI x2), some (vI (x3 + 1)), none, none, none], [], (sc, ar)) Q)) ∧ 
  (¬ ((sc 177) ≤ x4) → ((0 : Int) ≤ x3 ∧ x3 < (8 : Int) ∧ 
    ((0 : Int) ≤ ((8 * x4) + x3) ∧ ((8 * x4) + x3) < (64 : Int) ∧ 
    (inR (ar 179 ((8 * x4) + x3).toNat) ∧ 
    (inL ((ar 191 x3.toNat) * (ar 179 ((8 * x4) + x3).toNat)) ∧ 
    ((0 : Int) ≤ x4 ∧ x4 < (8 : Int) ∧ 
    (inL (Int.tdiv ((ar 191 x3.toNat) * (ar 179 ((8 * x4) + x3).toNat)) 10) ∧ inL (ar 191 x4.toNat) ∧ 
    (
    ((Int.tdiv ((ar 191 x3.toNat) * (ar 179 ((8 * x4) + x3).toNat)) 10) ≤ (ar 191 x4.toNat) → ((0 : Int) ≤ x4 ∧ x4 < (8 : Int) ∧ 
      ((0 : Int) ≤ x4 ∧ x4 < (8 : Int) ∧ 
      (Ev 0 M_Md_forces (53, [some (vO 11), some (vI x1), some (vI x2), some (vI x3), some (vI (x4 + 1)), none, none], [], (sc, (up ar 191 (up (ar 191) x4.toNat (ar 191 x4.toNat))))) Q)))) ∧ 
    (¬ ((Int.tdiv ((ar 191 x3.toNat) * (ar 179 ((8 * x4) + x3).toNat)) 10) ≤ (ar 191 x4.toNat)) → ((0 : Int) ≤ x4 ∧ x4 < (8 : Int) ∧ 
      (Ev 0 M_Md_forces (53, [some (vO 11), some (vI x1), some (vI x2), some (vI x3), some (vI (x4 + 1)), none, none], [], (sc, (up ar 191 (up (ar 191) x4.toNat (Int.tdiv ((ar 191 x3.toNat) * (ar 179 ((8 * x4) + x3).toNat)) 10))))) Q)))))))))))) :
  Ev 0 M_Md_forces (53, [some (vO 11), some (vI x1), some (vI x2), some (vI x3), some (vI x4), none, none], [], (sc, ar)) Q :=
  wq_ok 200 _ _ [(2, 3), (34, 3), (42, 4), (53, 5)] _ _ _ _ _ (show (cO 11 = 9) ∧ ((inR x4 ∧ inR (sc 177)) ∧ ((sc 177) ≤ x4 → (Ev 0 M_Md_forces (42, [some (vO 11), some (vI x1), some (vI x2), some (vI (x3 + 1)), none, none, none], [], (sc, ar)) Q)) ∧ (¬ ((sc 177) ≤ x4) → ((cO 11 = 9) ∧ ((aK 191 = 1 ∧ (0 : Int) ≤ x3 ∧ x3 < (8 : Int)) ∧ ((cO 11 = 9) ∧ ((aK 179 = 0 ∧ (0 : Int) ≤ ((8 * x4) + x3) ∧ ((8 * x4) + x3) < (64 : Int)) ∧ ((inR (ar 179 ((8 * x4) + x3).toNat)) ∧ ((inL ((ar 191 x3.toNat) * (ar 179 ((8 * x4) + x3).toNat)) ∧ inL 10 ∧ (0 : Int) < 10) ∧ ((cO 11 = 9) ∧ ((cO 11 = 9) ∧ ((aK 191 = 1 ∧ (0 : Int) ≤ x4 ∧ x4 < (8 : Int)) ∧ ((inL (Int.tdiv ((ar 191 x3.toNat) * (ar 179 ((8 * x4) + x3).toNat)) 10) ∧ inL (ar 191 x4.toNat)) ∧ ((inR (sgn (Int.tdiv ((ar 191 x3.toNat) * (ar 179 ((8 * x4) + x3).toNat)) 10) (ar 191 x4.toNat))) ∧ ((sgn (Int.tdiv ((ar 191 x3.toNat) * (ar 179 ((8 * x4) + x3).toNat)) 10) (ar 191 x4.toNat)) ≤ 0 → ((cO 11 = 9) ∧ ((aK 191 = 1 ∧ (0 : Int) ≤ x4 ∧ x4 < (8 : Int)) ∧ ((aK 191 = 1 ∧ 191 ≠ 999 ∧ (0 : Int) ≤ x4 ∧ x4 < (8 : Int)) ∧ (Ev 0 M_Md_forces (53, [some (vO 11), some (vI x1), some (vI x2), some (vI x3), some (vI (x4 + 1)), none, none], [], (sc, (up ar 191 (up (ar 191) x4.toNat (ar 191 x4.toNat))))) Q))))) ∧ (¬ ((sgn (Int.tdiv ((ar 191 x3.toNat) * (ar 179 ((8 * x4) + x3).toNat)) 10) (ar 191 x4.toNat)) ≤ 0) → ((aK 191 = 1 ∧ 191 ≠ 999 ∧ (0 : Int) ≤ x4 ∧ x4 < (8 : Int)) ∧ (Ev 0 M_Md_forces (53, [some (vO 11), some (vI x1), some (vI x2), some (vI x3), some (vI (x4 + 1)), none, none], [], (sc, (up ar 191 (up (ar 191) x4.toNat (Int.tdiv ((ar 191 x3.toNat) * (ar 179 ((8 * x4) + x3).toNat)) 10))))) Q)))))))))))))))) from ⟨(by decide), ⟨⟨k.1, k.2.1⟩, fun c1 => (k.2.2.1 c1), fun c1 => ⟨(by decide), ⟨⟨(by decide), (k.2.2.2 c1).1, (k.2.2.2 c1).2.1⟩, ⟨(by decide), ⟨⟨(by decide), (k.2.2.2 c1).2.2.1, (k.2.2.2 c1).2.2.2.1⟩, ⟨(k.2.2.2 c1).2.2.2.2.1, ⟨⟨(k.2.2.2 c1).2.2.2.2.2.1, (by decide), (by decide)⟩, ⟨(by decide), ⟨(by decide), ⟨⟨(by decide), (k.2.2.2 c1).2.2.2.2.2.2.1, (k.2.2.2 c1).2.2.2.2.2.2.2.1⟩, ⟨⟨(k.2.2.2 c1).2.2.2.2.2.2.2.2.1, (k.2.2.2 c1).2.2.2.2.2.2.2.2.2.1⟩, ⟨(sgn_in _ _), fun c2 => ⟨(by decide), ⟨⟨(by decide), ((k.2.2.2 c1).2.2.2.2.2.2.2.2.2.2.1 (sgn_le.mp c2)).1, ((k.2.2.2 c1).2.2.2.2.2.2.2.2.2.2.1 (sgn_le.mp c2)).2.1⟩, ⟨⟨(by decide), (by decide), ((k.2.2.2 c1).2.2.2.2.2.2.2.2.2.2.1 (sgn_le.mp c2)).2.2.1, ((k.2.2.2 c1).2.2.2.2.2.2.2.2.2.2.1 (sgn_le.mp c2)).2.2.2.1⟩, ((k.2.2.2 c1).2.2.2.2.2.2.2.2.2.2.1 (sgn_le.mp c2)).2.2.2.2⟩⟩⟩, fun c2 => ⟨⟨(by decide), (by decide), ((k.2.2.2 c1).2.2.2.2.2.2.2.2.2.2.2 (fun w => c2 (sgn_le.mpr w))).1, ((k.2.2.2 c1).2.2.2.2.2.2.2.2.2.2.2 (fun w => c2 (sgn_le.mpr w))).2.1⟩, ((k.2.2.2 c1).2.2.2.2.2.2.2.2.2.2.2 (fun w => c2 (sgn_le.mpr w))).2.2⟩⟩⟩⟩⟩⟩⟩⟩⟩⟩⟩⟩⟩⟩)
theorem sg_Md_force_0 {sc : Nat → Int} {ar : Nat → Nat → Int} {x1 x2 x3 : Int} {Q : Option mV → mH → Prop} (k : Ev 1 M_Md_no (0, [some (vO 11), some (vI x1)], [], ((up sc 176 0), ar)) (fun r1 h1 => Ev 2 M_Md_force (10, [some (vO 11), some (vI x1), some (vI x2), some (vI x3)], mPush r1 [], h1) Q)) :
  Ev 2 M_Md_force (0, [some (vO 11), some (vI x1), some (vI x2), some (vI x3)], [], (sc, ar)) Q :=
  wq_ok 200 _ _ [(10, 4), (18, 4), (30, 4), (43, 4)] _ _ _ _ _ (show (cO 11 = 9) ∧ ((cO 11 = mK M_Md_no) ∧ (Ev 1 M_Md_no (0, [some (vO 11), some (vI x1)], [], ((up sc 176 0), ar)) (fun r1 h1 => Ev 2 M_Md_force (10, [some (vO 11), some (vI x1), some (vI x2), some (vI x3)], mPush r1 [], h1) Q))) from ⟨(by decide), ⟨(by decide), k⟩⟩)
theorem sg_Md_force_10 {sc : Nat → Int} {ar : Nat → Nat → Int} {x1 x2 x3 s0 : Int} {Q : Option mV → mH → Prop} (k : inR s0 ∧ 
  (s0 ≠ 0 → (Q (some (vL (-1))) (sc, ar))) ∧ 
  (¬ (s0 ≠ 0) → (Ev 1 M_Md_no (0, [some (vO 11), some (vI x2)], [], (sc, ar)) (fun r1 h1 => Ev 2 M_Md_force (18, [some (vO 11), some (vI x1), some (vI x2), some (vI x3)], mPush r1 [], h1) Q)))) :
  Ev 2 M_Md_force (10, [some (vO 11), some (vI x1), some (vI x2), some (vI x3)], [vI s0], (sc, ar)) Q :=
  wq_ok 200 _ _ [(10, 4), (18, 4), (30, 4), (43, 4)] _ _ _ _ _ (show (inR s0) ∧ (s0 ≠ 0 → (Q (some (vL (-1))) (sc, ar))) ∧ (¬ (s0 ≠ 0) → ((cO 11 = mK M_Md_no) ∧ (Ev 1 M_Md_no (0, [some (vO 11), some (vI x2)], [], (sc, ar)) (fun r1 h1 => Ev 2 M_Md_force (18, [some (vO 11), some (vI x1), some (vI x2), some (vI x3)], mPush r1 [], h1) Q)))) from ⟨k.1, fun c1 => (k.2.1 c1), fun c1 => ⟨(by decide), (k.2.2 c1)⟩⟩)
theorem sg_Md_force_18 {sc : Nat → Int} {ar : Nat → Nat → Int} {x1 x2 x3 s0 : Int} {Q : Option mV → mH → Prop} (k : inR s0 ∧ 
  (s0 = 0 → (Ev 1 M_Md_forces (0, [some (vO 11), some (vI x1), none, none, none, none, none], [], (sc, ar)) (fun r1 h1 => Ev 2 M_Md_force (30, [some (vO 11), some (vI x1), some (vI x2), some (vI x3)], mPush r1 [], h1) Q))) ∧ 
  (¬ (s0 = 0) → (Q (some (vL (-1))) (sc, ar)))) :
  Ev 2 M_Md_force (18, [some (vO 11), some (vI x1), some (vI x2), some (vI x3)], [vI s0], (sc, ar)) Q :=
  wq_ok 200 _ _ [(10, 4), (18, 4), (30, 4), (43, 4)] _ _ _ _ _ (show (inR s0) ∧ (s0 = 0 → ((cO 11 = mK M_Md_forces) ∧ (Ev 1 M_Md_forces (0, [some (vO 11), some (vI x1), none, none, none, none, none], [], (sc, ar)) (fun r1 h1 => Ev 2 M_Md_force (30, [some (vO 11), some (vI x1), some (vI x2), some (vI x3)], mPush r1 [], h1) Q)))) ∧ (¬ (s0 = 0) → (Q (some (vL (-1))) (sc, ar))) from ⟨k.1, fun c1 => ⟨(by decide), (k.2.1 c1)⟩, fun c1 => (k.2.2 c1)⟩)
theorem sg_Md_force_30 {sc : Nat → Int} {ar : Nat → Nat → Int} {x1 x2 x3 : Int} {Q : Option mV → mH → Prop} (k : (0 : Int) ≤ x2 ∧ x2 < (8 : Int) ∧ 
  (Ev 1 M_Md_told (0, [some (vL (ar 191 x2.toNat)), none, some (vL 10000000), none, some (vI x3), none, none, none, none, none, none], [], (sc, ar)) (fun r1 h1 => Ev 2 M_Md_force (43, [some (vO 11), some (vI x1), some (vI x2), some (vI x3)], mPush r1 [], h1) Q))) :
  Ev 2 M_Md_force (30, [some (vO 11), some (vI x1), some (vI x2), some (vI x3)], [], (sc, ar)) Q :=
  wq_ok 200 _ _ [(10, 4), (18, 4), (30, 4), (43, 4)] _ _ _ _ _ (show (cO 11 = 9) ∧ ((aK 191 = 1 ∧ (0 : Int) ≤ x2 ∧ x2 < (8 : Int)) ∧ (Ev 1 M_Md_told (0, [some (vL (ar 191 x2.toNat)), none, some (vL 10000000), none, some (vI x3), none, none, none, none, none, none], [], (sc, ar)) (fun r1 h1 => Ev 2 M_Md_force (43, [some (vO 11), some (vI x1), some (vI x2), some (vI x3)], mPush r1 [], h1) Q))) from ⟨(by decide), ⟨⟨(by decide), k.1, k.2.1⟩, k.2.2⟩⟩)
theorem sg_Md_force_43 {sc : Nat → Int} {ar : Nat → Nat → Int} {x1 x2 x3 s0 : Int} {Q : Option mV → mH → Prop} (k : Q (some (vL s0)) (sc, ar)) :
  Ev 2 M_Md_force (43, [some (vO 11), some (vI x1), some (vI x2), some (vI x3)], [vL s0], (sc, ar)) Q :=
  wq_ok 200 _ _ [(10, 4), (18, 4), (30, 4), (43, 4)] _ _ _ _ _ (show Q (some (vL s0)) (sc, ar) from k)
theorem sg_Md_reach_0 {sc : Nat → Int} {ar : Nat → Nat → Int} {x1 x2 : Int} {Q : Option mV → mH → Prop} (k : Ev 1 M_Md_no (0, [some (vO 11), some (vI x1)], [], ((up sc 176 0), ar)) (fun r1 h1 => Ev 2 M_Md_reach (10, [some (vO 11), some (vI x1), some (vI x2), none, none], mPush r1 [], h1) Q)) :
  Ev 2 M_Md_reach (0, [some (vO 11), some (vI x1), some (vI x2), none, none], [], (sc, ar)) Q :=
  wq_ok 200 _ _ [(10, 3), (24, 3), (35, 3), (40, 5)] _ _ _ _ _ (show (cO 11 = 9) ∧ ((cO 11 = mK M_Md_no) ∧ (Ev 1 M_Md_no (0, [some (vO 11), some (vI x1)], [], ((up sc 176 0), ar)) (fun r1 h1 => Ev 2 M_Md_reach (10, [some (vO 11), some (vI x1), some (vI x2), none, none], mPush r1 [], h1) Q))) from ⟨(by decide), ⟨(by decide), k⟩⟩)
theorem sg_Md_reach_10 {sc : Nat → Int} {ar : Nat → Nat → Int} {x1 x2 s0 : Int} {Q : Option mV → mH → Prop} (k : inR s0 ∧ 
  (s0 = 0 → (inR x2 ∧ 
    (Ev 1 M_Md_in (0, [some (vL x2), none, some (vL 1), none, some (vL 1000), none], [], (sc, ar)) (fun r1 h1 => Ev 2 M_Md_reach (24, [some (vO 11), some (vI x1), some (vI x2), none, none], mPush r1 [], h1) Q)))) ∧ 
  (¬ (s0 = 0) → (Q (some (vI (-1))) (sc, ar)))) :
  Ev 2 M_Md_reach (10, [some (vO 11), some (vI x1), some (vI x2), none, none], [vI s0], (sc, ar)) Q :=
  wq_ok 200 _ _ [(10, 3), (24, 3), (35, 3), (40, 5)] _ _ _ _ _ (show (inR s0) ∧ (s0 = 0 → ((inR x2) ∧ (Ev 1 M_Md_in (0, [some (vL x2), none, some (vL 1), none, some (vL 1000), none], [], (sc, ar)) (fun r1 h1 => Ev 2 M_Md_reach (24, [some (vO 11), some (vI x1), some (vI x2), none, none], mPush r1 [], h1) Q)))) ∧ (¬ (s0 = 0) → (Q (some (vI (-1))) (sc, ar))) from ⟨k.1, fun c1 => ⟨(k.2.1 c1).1, (k.2.1 c1).2⟩, fun c1 => (k.2.2 c1)⟩)
theorem sg_Md_reach_24 {sc : Nat → Int} {ar : Nat → Nat → Int} {x1 x2 s0 : Int} {Q : Option mV → mH → Prop} (k : inR s0 ∧ 
  (s0 ≠ 0 → (Ev 1 M_Md_forces (0, [some (vO 11), some (vI x1), none, none, none, none, none], [], (sc, ar)) (fun r1 h1 => Ev 2 M_Md_reach (35, [some (vO 11), some (vI x1), some (vI x2), none, none], mPush r1 [], h1) Q))) ∧ 
  (¬ (s0 ≠ 0) → (Q (some (vI (-2))) (sc, ar)))) :
  Ev 2 M_Md_reach (24, [some (vO 11), some (vI x1), some (vI x2), none, none], [vI s0], (sc, ar)) Q :=
  wq_ok 200 _ _ [(10, 3), (24, 3), (35, 3), (40, 5)] _ _ _ _ _ (show (inR s0) ∧ (s0 ≠ 0 → ((cO 11 = mK M_Md_forces) ∧ (Ev 1 M_Md_forces (0, [some (vO 11), some (vI x1), none, none, none, none, none], [], (sc, ar)) (fun r1 h1 => Ev 2 M_Md_reach (35, [some (vO 11), some (vI x1), some (vI x2), none, none], mPush r1 [], h1) Q)))) ∧ (¬ (s0 ≠ 0) → (Q (some (vI (-2))) (sc, ar))) from ⟨k.1, fun c1 => ⟨(by decide), (k.2.1 c1)⟩, fun c1 => (k.2.2 c1)⟩)
theorem sg_Md_reach_35 {sc : Nat → Int} {ar : Nat → Nat → Int} {x1 x2 : Int} {Q : Option mV → mH → Prop} (k : Ev 2 M_Md_reach (40, [some (vO 11), some (vI x1), some (vI x2), some (vI 0), some (vI 0)], [], (sc, ar)) Q) :
  Ev 2 M_Md_reach (35, [some (vO 11), some (vI x1), some (vI x2), none, none], [], (sc, ar)) Q :=
  wq_ok 200 _ _ [(10, 3), (24, 3), (35, 3), (40, 5)] _ _ _ _ _ (show Ev 2 M_Md_reach (40, [some (vO 11), some (vI x1), some (vI x2), some (vI 0), some (vI 0)], [], (sc, ar)) Q from k)
theorem sg_Md_reach_40 {sc : Nat → Int} {ar : Nat → Nat → Int} {x1 x2 x3 x4 : Int} {Q : Option mV → mH → Prop} (k : inR x4 ∧ inR (sc 177) ∧ 
  ((sc 177) ≤ x4 → (Q (some (vI x3)) (sc, ar))) ∧ 
  (¬ ((sc 177) ≤ x4) → (inR x4 ∧ inR x1 ∧ 
    (x4 = x1 → (Ev 2 M_Md_reach (40, [some (vO 11), some (vI x1), some (vI x2), some (vI (x3 + 0)), some (vI (x4 + 1))], [], (sc, ar)) Q)) ∧ 
    (¬ (x4 = x1) → ((0 : Int) ≤ x4 ∧ x4 < (8 : Int) ∧ 
      (inR x2 ∧ 
      (inL (ar 191 x4.toNat) ∧ inL (x2 * 10000) ∧ 
      (
      ((ar 191 x4.toNat) < (x2 * 10000) → (Ev 2 M_Md_reach (40, [some (vO 11), some (vI x1), some (vI x2), some (vI (x3 + 0)), some (vI (x4 + 1))], [], (sc, ar)) Q)) ∧ 
      (¬ ((ar 191 x4.toNat) < (x2 * 10000)) → (Ev 2 M_Md_reach (40, [some (vO 11), some (vI x1), some (vI x2), some (vI (x3 + 1)), some (vI (x4 + 1))], [], (sc, ar)) Q)))))))))) :
  Ev 2 M_Md_reach (40, [some (vO 11), some (vI x1), some (vI x2), some (vI x3), some (vI x4)], [], (sc, ar)) Q :=
  wq_ok 200 _ _ [(10, 3), (24, 3), (35, 3), (40, 5)] _ _ _ _ _ (show (cO 11 = 9) ∧ ((inR x4 ∧ inR (sc 177)) ∧ ((sc 177) ≤ x4 → (Q (some (vI x3)) (sc, ar))) ∧ (¬ ((sc 177) ≤ x4) → ((inR x4 ∧ inR x1) ∧ (x4 = x1 → (Ev 2 M_Md_reach (40, [some (vO 11), some (vI x1), some (vI x2), some (vI (x3 + 0)), some (vI (x4 + 1))], [], (sc, ar)) Q)) ∧ (¬ (x4 = x1) → ((cO 11 = 9) ∧ ((aK 191 = 1 ∧ (0 : Int) ≤ x4 ∧ x4 < (8 : Int)) ∧ ((inR x2) ∧ ((inL (ar 191 x4.toNat) ∧ inL (x2 * 10000)) ∧ ((inR (sgn (ar 191 x4.toNat) (x2 * 10000))) ∧ ((sgn (ar 191 x4.toNat) (x2 * 10000)) < 0 → (Ev 2 M_Md_reach (40, [some (vO 11), some (vI x1), some (vI x2), some (vI (x3 + 0)), some (vI (x4 + 1))], [], (sc, ar)) Q)) ∧ (¬ ((sgn (ar 191 x4.toNat) (x2 * 10000)) < 0) → (Ev 2 M_Md_reach (40, [some (vO 11), some (vI x1), some (vI x2), some (vI (x3 + 1)), some (vI (x4 + 1))], [], (sc, ar)) Q))))))))))) from ⟨(by decide), ⟨⟨k.1, k.2.1⟩, fun c1 => (k.2.2.1 c1), fun c1 => ⟨⟨(k.2.2.2 c1).1, (k.2.2.2 c1).2.1⟩, fun c2 => ((k.2.2.2 c1).2.2.1 c2), fun c2 => ⟨(by decide), ⟨⟨(by decide), ((k.2.2.2 c1).2.2.2 c2).1, ((k.2.2.2 c1).2.2.2 c2).2.1⟩, ⟨((k.2.2.2 c1).2.2.2 c2).2.2.1, ⟨⟨((k.2.2.2 c1).2.2.2 c2).2.2.2.1, ((k.2.2.2 c1).2.2.2 c2).2.2.2.2.1⟩, ⟨(sgn_in _ _), fun c3 => (((k.2.2.2 c1).2.2.2 c2).2.2.2.2.2.1 (sgn_lt.mp c3)), fun c3 => (((k.2.2.2 c1).2.2.2 c2).2.2.2.2.2.2 (fun w => c3 (sgn_lt.mpr w)))⟩⟩⟩⟩⟩⟩⟩⟩)
theorem sg_Md_total_0 {sc : Nat → Int} {ar : Nat → Nat → Int} {x1 : Int} {Q : Option mV → mH → Prop} (k : Ev 0 M_Md_total (18, [some (vO 11), some (vI x1), some (vI 0), some (vI 0), some (vI 0), some (vI 0), some (vI 0)], [], ((up sc 176 0), ar)) Q) :
  Ev 0 M_Md_total (0, [some (vO 11), some (vI x1), none, none, none, none, none], [], (sc, ar)) Q :=
  wq_ok 200 _ _ [(18, 7), (82, 7)] _ _ _ _ _ (show (cO 11 = 9) ∧ (Ev 0 M_Md_total (18, [some (vO 11), some (vI x1), some (vI 0), some (vI 0), some (vI 0), some (vI 0), some (vI 0)], [], ((up sc 176 0), ar)) Q) from ⟨(by decide), k⟩)
theorem sg_Md_total_18 {sc : Nat → Int} {ar : Nat → Nat → Int} {x1 x2 x3 x4 x5 x6 : Int} {Q : Option mV → mH → Prop} (k : inR x6 ∧ 
  (64 ≤ x6 → (Ev 0 M_Md_total (82, [some (vO 11), some (vI x1), some (vI x2), some (vI x3), some (vI x4), some (vI x5), some (vI 0)], [], (sc, ar)) Q)) ∧ 
  (¬ (64 ≤ x6) → ((0 : Int) ≤ x6 ∧ x6 < (64 : Int) ∧ 
    (inR (ar 179 x6.toNat) ∧ 
    ((ar 179 x6.toNat) ≤ 0 → ((0 : Int) ≤ x6 ∧ x6 < (64 : Int) ∧ 
      ((0 : Int) ≤ x6 ∧ x6 < (64 : Int) ∧ 
      (inR (ar 180 x6.toNat) ∧ 
      ((ar 180 x6.toNat) ≤ 0 → (Ev 0 M_Md_total (18, [some (vO 11), some (vI x1), some (vI (x2 + 0)), some (vI (x3 + (ar 179 x6.toNat))), some (vI (x4 + 0)), some (vI x5), some (vI (x6 + 1))], [], (sc, ar)) Q)) ∧ 
      (¬ ((ar 180 x6.toNat) ≤ 0) → (Ev 0 M_Md_total (18, [some (vO 11), some (vI x1), some (vI (x2 + 0)), some (vI (x3 + (ar 179 x6.toNat))), some (vI (x4 + 1)), some (vI x5), some (vI (x6 + 1))], [], (sc, ar)) Q)))))) ∧ 
    (¬ ((ar 179 x6.toNat) ≤ 0) → ((0 : Int) ≤ x6 ∧ x6 < (64 : Int) ∧ 
      ((0 : Int) ≤ x6 ∧ x6 < (64 : Int) ∧ 
      (inR (ar 180 x6.toNat) ∧ 
      ((ar 180 x6.toNat) ≤ 0 → (Ev 0 M_Md_total (18, [some (vO 11), some (vI x1), some (vI (x2 + 1)), some (vI (x3 + (ar 179 x6.toNat))), some (vI (x4 + 0)), some (vI x5), some (vI (x6 + 1))], [], (sc, ar)) Q)) ∧ 
      (¬ ((ar 180 x6.toNat) ≤ 0) → (Ev 0 M_Md_total (18, [some (vO 11), some (vI x1), some (vI (x2 + 1)), some (vI (x3 + (ar 179 x6.toNat))), some (vI (x4 + 1)), some (vI x5), some (vI (x6 + 1))], [], (sc, ar)) Q)))))))))) :
  Ev 0 M_Md_total (18, [some (vO 11), some (vI x1), some (vI x2), some (vI x3), some (vI x4), some (vI x5), some (vI x6)], [], (sc, ar)) Q :=
  wq_ok 200 _ _ [(18, 7), (82, 7)] _ _ _ _ _ (show (inR x6 ∧ inR 64) ∧ (64 ≤ x6 → (Ev 0 M_Md_total (82, [some (vO 11), some (vI x1), some (vI x2), some (vI x3), some (vI x4), some (vI x5), some (vI 0)], [], (sc, ar)) Q)) ∧ (¬ (64 ≤ x6) → ((cO 11 = 9) ∧ ((aK 179 = 0 ∧ (0 : Int) ≤ x6 ∧ x6 < (64 : Int)) ∧ ((inR (ar 179 x6.toNat)) ∧ ((ar 179 x6.toNat) ≤ 0 → ((cO 11 = 9) ∧ ((aK 179 = 0 ∧ (0 : Int) ≤ x6 ∧ x6 < (64 : Int)) ∧ ((cO 11 = 9) ∧ ((aK 180 = 0 ∧ (0 : Int) ≤ x6 ∧ x6 < (64 : Int)) ∧ ((inR (ar 180 x6.toNat)) ∧ ((ar 180 x6.toNat) ≤ 0 → (Ev 0 M_Md_total (18, [some (vO 11), some (vI x1), some (vI (x2 + 0)), some (vI (x3 + (ar 179 x6.toNat))), some (vI (x4 + 0)), some (vI x5), some (vI (x6 + 1))], [], (sc, ar)) Q)) ∧ (¬ ((ar 180 x6.toNat) ≤ 0) → (Ev 0 M_Md_total (18, [some (vO 11), some (vI x1), some (vI (x2 + 0)), some (vI (x3 + (ar 179 x6.toNat))), some (vI (x4 + 1)), some (vI x5), some (vI (x6 + 1))], [], (sc, ar)) Q)))))))) ∧ (¬ ((ar 179 x6.toNat) ≤ 0) → ((cO 11 = 9) ∧ ((aK 179 = 0 ∧ (0 : Int) ≤ x6 ∧ x6 < (64 : Int)) ∧ ((cO 11 = 9) ∧ ((aK 180 = 0 ∧ (0 : Int) ≤ x6 ∧ x6 < (64 : Int)) ∧ ((inR (ar 180 x6.toNat)) ∧ ((ar 180 x6.toNat) ≤ 0 → (Ev 0 M_Md_total (18, [some (vO 11), some (vI x1), some (vI (x2 + 1)), some (vI (x3 + (ar 179 x6.toNat))), some (vI (x4 + 0)), some (vI x5), some (vI (x6 + 1))], [], (sc, ar)) Q)) ∧ (¬ ((ar 180 x6.toNat) ≤ 0) → (Ev 0 M_Md_total (18, [some (vO 11), some (vI x1), some (vI (x2 + 1)), some (vI (x3 + (ar 179 x6.toNat))), some (vI (x4 + 1)), some (vI x5), some (vI (x6 + 1))], [], (sc, ar)) Q)))))))))))) from ⟨⟨k.1, (by decide)⟩, fun c1 => (k.2.1 c1), fun c1 => ⟨(by decide), ⟨⟨(by decide), (k.2.2 c1).1, (k.2.2 c1).2.1⟩, ⟨(k.2.2 c1).2.2.1, fun c2 => ⟨(by decide), ⟨⟨(by decide), ((k.2.2 c1).2.2.2.1 c2).1, ((k.2.2 c1).2.2.2.1 c2).2.1⟩, ⟨(by decide), ⟨⟨(by decide), ((k.2.2 c1).2.2.2.1 c2).2.2.1, ((k.2.2 c1).2.2.2.1 c2).2.2.2.1⟩, ⟨((k.2.2 c1).2.2.2.1 c2).2.2.2.2.1, fun c3 => (((k.2.2 c1).2.2.2.1 c2).2.2.2.2.2.1 c3), fun c3 => (((k.2.2 c1).2.2.2.1 c2).2.2.2.2.2.2 c3)⟩⟩⟩⟩⟩, fun c2 => ⟨(by decide), ⟨⟨(by decide), ((k.2.2 c1).2.2.2.2 c2).1, ((k.2.2 c1).2.2.2.2 c2).2.1⟩, ⟨(by decide), ⟨⟨(by decide), ((k.2.2 c1).2.2.2.2 c2).2.2.1, ((k.2.2 c1).2.2.2.2 c2).2.2.2.1⟩, ⟨((k.2.2 c1).2.2.2.2 c2).2.2.2.2.1, fun c4 => (((k.2.2 c1).2.2.2.2 c2).2.2.2.2.2.1 c4), fun c4 => (((k.2.2 c1).2.2.2.2 c2).2.2.2.2.2.2 c4)⟩⟩⟩⟩⟩⟩⟩⟩⟩)
theorem sg_Md_total_82 {sc : Nat → Int} {ar : Nat → Nat → Int} {x1 x2 x3 x4 x5 x6 : Int} {Q : Option mV → mH → Prop} (k : inR x6 ∧ inR (sc 177) ∧ 
  ((sc 177) ≤ x6 → (inR x1 ∧ 
    (x1 ≠ 0 → (inR x1 ∧ 
      (x1 ≠ 1 → (inR x1 ∧ 
        (x1 ≠ 2 → (inR x1 ∧ 
          (x1 ≠ 3 → (inR x1 ∧ 
            (x1 ≠ 4 → (Q (some (vI (-2))) (sc, ar))) ∧ 
            (¬ (x1 ≠ 4) → (Q (some (vI x5)) (sc, ar))))) ∧ 
          (¬ (x1 ≠ 3) → (Q (some (vI x4)) (sc, ar))))) ∧ 
        (¬ (x1 ≠ 2) → (Q (some (vI x3)) (sc, ar))))) ∧ 
      (¬ (x1 ≠ 1) → (Q (some (vI x2)) (sc, ar))))) ∧ 
    (¬ (x1 ≠ 0) → (Q (some (vI (sc 177))) (sc, ar))))) ∧ 
  (¬ ((sc 177) ≤ x6) → ((0 : Int) ≤ x6 ∧ x6 < (8 : Int) ∧ 
    (Ev 0 M_Md_total (82, [some (vO 11), some (vI x1), some (vI x2), some (vI x3), some (vI x4), some (vI (x5 + (ar 178 x6.toNat))), some (vI (x6 + 1))], [], (sc, ar)) Q)))) :
  Ev 0 M_Md_total (82, [some (vO 11), some (vI x1), some (vI x2), some (vI x3), some (vI x4), some (vI x5), some (vI x6)], [], (sc, ar)) Q :=
  wq_ok 200 _ _ [(18, 7), (82, 7)] _ _ _ _ _ (show (cO 11 = 9) ∧ ((inR x6 ∧ inR (sc 177)) ∧ ((sc 177) ≤ x6 → ((inR x1) ∧ (x1 ≠ 0 → ((inR x1 ∧ inR 1) ∧ (x1 ≠ 1 → ((inR x1 ∧ inR 2) ∧ (x1 ≠ 2 → ((inR x1 ∧ inR 3) ∧ (x1 ≠ 3 → ((inR x1 ∧ inR 4) ∧ (x1 ≠ 4 → (Q (some (vI (-2))) (sc, ar))) ∧ (¬ (x1 ≠ 4) → (Q (some (vI x5)) (sc, ar))))) ∧ (¬ (x1 ≠ 3) → (Q (some (vI x4)) (sc, ar))))) ∧ (¬ (x1 ≠ 2) → (Q (some (vI x3)) (sc, ar))))) ∧ (¬ (x1 ≠ 1) → (Q (some (vI x2)) (sc, ar))))) ∧ (¬ (x1 ≠ 0) → ((cO 11 = 9) ∧ (Q (some (vI (sc 177))) (sc, ar)))))) ∧ (¬ ((sc 177) ≤ x6) → ((cO 11 = 9) ∧ ((aK 178 = 0 ∧ (0 : Int) ≤ x6 ∧ x6 < (8 : Int)) ∧ (Ev 0 M_Md_total (82, [some (vO 11), some (vI x1), some (vI x2), some (vI x3), some (vI x4), some (vI (x5 + (ar 178 x6.toNat))), some (vI (x6 + 1))], [], (sc, ar)) Q))))) from ⟨(by decide), ⟨⟨k.1, k.2.1⟩, fun c1 => ⟨(k.2.2.1 c1).1, fun c2 => ⟨⟨((k.2.2.1 c1).2.1 c2).1, (by decide)⟩, fun c3 => ⟨⟨(((k.2.2.1 c1).2.1 c2).2.1 c3).1, (by decide)⟩, fun c4 => ⟨⟨((((k.2.2.1 c1).2.1 c2).2.1 c3).2.1 c4).1, (by decide)⟩, fun c5 => ⟨⟨(((((k.2.2.1 c1).2.1 c2).2.1 c3).2.1 c4).2.1 c5).1, (by decide)⟩, fun c6 => ((((((k.2.2.1 c1).2.1 c2).2.1 c3).2.1 c4).2.1 c5).2.1 c6), fun c6 => ((((((k.2.2.1 c1).2.1 c2).2.1 c3).2.1 c4).2.1 c5).2.2 c6)⟩, fun c5 => (((((k.2.2.1 c1).2.1 c2).2.1 c3).2.1 c4).2.2 c5)⟩, fun c4 => ((((k.2.2.1 c1).2.1 c2).2.1 c3).2.2 c4)⟩, fun c3 => (((k.2.2.1 c1).2.1 c2).2.2 c3)⟩, fun c2 => ⟨(by decide), ((k.2.2.1 c1).2.2 c2)⟩⟩, fun c1 => ⟨(by decide), ⟨⟨(by decide), (k.2.2.2 c1).1, (k.2.2.2 c1).2.1⟩, (k.2.2.2 c1).2.2⟩⟩⟩⟩)
end
section
/-! CONTRACTS: the tables, the orders -/
def sm (f : Nat → Int) : Nat → Int
  | 0 => 0
  | n + 1 => sm f n + f n
theorem sm_le {f g : Nat → Int} : ∀ (n : Nat), (∀ i, i < n → f i ≤ g i) → sm f n ≤ sm g n
  | 0, _ => Int.le_refl _
  | n + 1, h => by
    have h1 := sm_le n (fun i hi => h i (by omega))
    have h2 := h n (by omega)
    show sm f n + f n ≤ sm g n + g n
    omega
theorem sm_congr {f g : Nat → Int} : ∀ (n : Nat), (∀ i, i < n → f i = g i) → sm f n = sm g n
  | 0, _ => rfl
  | n + 1, h => by
    have h1 := sm_congr n (fun i hi => h i (by omega))
    have h2 := h n (by omega)
    show sm f n + f n = sm g n + g n
    omega
theorem sm_bd {f : Nat → Int} {b : Int} : ∀ (n : Nat), (∀ i, i < n → 0 ≤ f i ∧ f i ≤ b) → 0 ≤ sm f n ∧ sm f n ≤ n * b
  | 0, _ => by simp [sm]
  | n + 1, h => by
    have h1 := sm_bd n (fun i hi => h i (by omega))
    have h2 := h n (by omega)
    show 0 ≤ sm f n + f n ∧ sm f n + f n ≤ ((n + 1 : Nat) : Int) * b
    have : ((n + 1 : Nat) : Int) * b = n * b + b := by rw [Int.natCast_add, Int.add_mul]; simp
    omega
theorem tn_succ {i : Int} (h : 0 ≤ i) : (i + 1).toNat = i.toNat + 1 := by omega
/-- needs: 0 .. 9 -/
def R9 (f : Nat → Int) : Prop := ∀ i : Nat, i < 64 → 0 ≤ f i ∧ f i ≤ 9
/-- an order of n tasks -/
def OD (n : Int) (f : Nat → Int) : Prop := (∀ i : Nat, (i : Int) < n → 0 ≤ f i ∧ f i < n) ∧ ∀ i j : Nat, (i : Int) < n → (j : Int) < n → f i = f j → i = j
section CTA
variable {sc : Nat → Int} {ar : Nat → Nat → Int} {Q : Option mV → mH → Prop} {d : Nat}
theorem ct_holds {a b : Int} (ha : 0 ≤ a ∧ a < 8) (hb : 0 ≤ b ∧ b < 8) (k : Q (some (vI 1)) (sc, ar)) : Ev d M_Table_holds (0, [some (vI a), some (vI b)], [], (sc, ar)) Q :=
  Ev.deep (Nat.zero_le _) (sg_Table_holds_0 ⟨by omega, fun c => by omega, fun c => ⟨by omega, fun c => by omega, fun c => ⟨by omega, fun c => by omega, fun c => ⟨by omega, fun c => by omega, fun _ => k⟩⟩⟩⟩)
theorem ct_getN {a b : Int} (ha : 0 ≤ a ∧ a < 8) (hb : 0 ≤ b ∧ b < 8) (k : Q (some (vI (ar 16 (8 * a + b).toNat))) (sc, ar)) : Ev (d + 1) M_Table_get (0, [some (vO 1), some (vI a), some (vI b)], [], (sc, ar)) Q := by
  refine Ev.deep (Nat.le_add_left 1 d) (sg_Table_get_0n (ct_holds ha hb (sg_Table_get_5n ⟨by omega, fun c => by omega, fun c => ⟨by omega, by omega, ?_⟩⟩)))
  rw [show a * 8 + b = 8 * a + b by omega]
  exact k
theorem ct_getC {a b : Int} (ha : 0 ≤ a ∧ a < 8) (hb : 0 ≤ b ∧ b < 8) (k : Q (some (vI (ar 32 (8 * a + b).toNat))) (sc, ar)) : Ev (d + 1) M_Table_get (0, [some (vO 2), some (vI a), some (vI b)], [], (sc, ar)) Q := by
  refine Ev.deep (Nat.le_add_left 1 d) (sg_Table_get_0c (ct_holds ha hb (sg_Table_get_5c ⟨by omega, fun c => by omega, fun c => ⟨by omega, by omega, ?_⟩⟩)))
  rw [show a * 8 + b = 8 * a + b by omega]
  exact k
theorem ct_bothWays {a b : Int} (ha : 0 ≤ a ∧ a < 8) (hb : 0 ≤ b ∧ b < 8) (k : Q (some (vI (ar 16 (8 * a + b).toNat + ar 16 (8 * b + a).toNat))) (sc, ar)) : Ev (d + 2) M_Table_bothWays (0, [some (vO 1), some (vI a), some (vI b)], [], (sc, ar)) Q :=
  Ev.deep (Nat.le_add_left 2 d) (sg_Table_bothWays_0 (ct_getN ha hb (sg_Table_bothWays_6 (ct_getN hb ha (sg_Table_bothWays_12 k)))))
theorem ct_putN {a b v : Int} (ha : 0 ≤ a ∧ a < 8) (hb : 0 ≤ b ∧ b < 8) (k : Q (some (vI (ar 16 (8 * a + b).toNat))) (sc, up ar 16 (up (ar 16) (8 * a + b).toNat v))) : Ev (d + 1) M_Table_put (0, [some (vO 1), some (vI a), some (vI b), some (vI v), none, none], [], (sc, ar)) Q := by
  refine Ev.deep (Nat.le_add_left 1 d) (sg_Table_put_0n (ct_holds ha hb (sg_Table_put_5n ⟨by omega, fun c => ⟨by omega, by omega, by omega, by omega, ?_⟩, fun c => absurd (by decide) c⟩)))
  rw [show a * 8 + b = 8 * a + b by omega]
  exact k
theorem ct_putC {a b v : Int} (ha : 0 ≤ a ∧ a < 8) (hb : 0 ≤ b ∧ b < 8) (k : Q (some (vI (ar 32 (8 * a + b).toNat))) (sc, up ar 32 (up (ar 32) (8 * a + b).toNat v))) : Ev (d + 1) M_Table_put (0, [some (vO 2), some (vI a), some (vI b), some (vI v), none, none], [], (sc, ar)) Q := by
  refine Ev.deep (Nat.le_add_left 1 d) (sg_Table_put_0c (ct_holds ha hb (sg_Table_put_5c ⟨by omega, fun c => ⟨by omega, by omega, by omega, by omega, ?_⟩, fun c => absurd (by decide) c⟩)))
  rw [show a * 8 + b = 8 * a + b by omega]
  exact k
theorem lp_sumOfRow {a : Int} (ha : 0 ≤ a ∧ a < 8) (k : Q (some (vI (sm (fun x => ar 32 (8 * a + x).toNat) 8))) (sc, ar)) : ∀ (j : Nat) (i : Int), 0 ≤ i → i + j = 8 → Ev 2 M_Table_sumOfRow (4, [some (vO 2), some (vI a), some (vI (sm (fun x => ar 32 (8 * a + x).toNat) i.toNat)), some (vI i)], [], (sc, ar)) Q := by
  intro j
  induction j with
  | zero =>
    intro i hi hj
    have : i = 8 := by omega
    subst this
    exact sg_Table_sumOfRow_4 ⟨by omega, fun _ => k, fun c => by omega⟩
  | succ j ih =>
    intro i hi hj
    refine sg_Table_sumOfRow_4 ⟨by omega, fun c => by omega, fun c => ct_getC ha ⟨hi, by omega⟩ (sg_Table_sumOfRow_17 ?_)⟩
    have := ih (i + 1) (by omega) (by omega)
    rw [tn_succ hi] at this
    rw [show (ar 32 (8 * a + i).toNat) = (fun x : Nat => ar 32 (8 * a + x).toNat) i.toNat by simp only [Int.toNat_of_nonneg hi]]
    exact this
theorem ct_sumOfRow {a : Int} (ha : 0 ≤ a ∧ a < 8) (k : Q (some (vI (sm (fun x => ar 32 (8 * a + x).toNat) 8))) (sc, ar)) : Ev (d + 2) M_Table_sumOfRow (0, [some (vO 2), some (vI a), none, none], [], (sc, ar)) Q :=
  Ev.deep (Nat.le_add_left 2 d) (sg_Table_sumOfRow_0 (lp_sumOfRow ha k 8 0 (by omega) (by omega)))
theorem lp_sum (k : Q (some (vI (sm (ar 16) 64))) (sc, ar)) : ∀ (j : Nat) (i : Int), 0 ≤ i → i + j = 64 → Ev 0 M_Table_sum (13, [some (vO 1), some (vI (sm (ar 16) i.toNat)), some (vA 16), some (vI 64), some (vI i), none], [], (sc, ar)) Q := by
  intro j
  induction j with
  | zero =>
    intro i hi hj
    have : i = 64 := by omega
    subst this
    exact sg_Table_sum_13 ⟨by omega, by omega, fun _ => k, fun c => by omega⟩
  | succ j ih =>
    intro i hi hj
    refine sg_Table_sum_13 ⟨by omega, by omega, fun c => by omega, fun c => ⟨by omega, by omega, ?_⟩⟩
    have := ih (i + 1) (by omega) (by omega)
    rw [tn_succ hi] at this
    exact this
theorem ct_sum (k : Q (some (vI (sm (ar 16) 64))) (sc, ar)) : Ev d M_Table_sum (0, [some (vO 1), none, none, none, none, none], [], (sc, ar)) Q :=
  Ev.deep (Nat.zero_le d) (sg_Table_sum_0 (lp_sum k 64 0 (by omega) (by omega)))
def nz (f : Nat → Int) (i : Nat) : Int := if f i = 0 then 0 else 1
theorem lp_howManyN (hr : ∀ i : Nat, i < 64 → inR (ar 16 i)) (k : Q (some (vI (sm (nz (ar 16)) 64))) (sc, ar)) : ∀ (j : Nat) (i : Int), 0 ≤ i → i + j = 64 → Ev 0 M_Table_howMany (13, [some (vO 1), some (vI (sm (nz (ar 16)) i.toNat)), some (vA 16), some (vI 64), some (vI i), none], [], (sc, ar)) Q := by
  intro j
  induction j with
  | zero =>
    intro i hi hj
    have : i = 64 := by omega
    subst this
    exact sg_Table_howMany_13n ⟨by omega, by omega, fun _ => k, fun c => by omega⟩
  | succ j ih =>
    intro i hi hj
    have := ih (i + 1) (by omega) (by omega)
    rw [tn_succ hi] at this
    refine sg_Table_howMany_13n ⟨by omega, by omega, fun c => by omega, fun c => ⟨by omega, by omega, hr _ (by omega), fun c => ?_, fun c => ?_⟩⟩
    · simpa [sm, nz, c] using this
    · simpa [sm, nz, c] using this
theorem ct_howManyN (hr : ∀ i : Nat, i < 64 → inR (ar 16 i)) (k : Q (some (vI (sm (nz (ar 16)) 64))) (sc, ar)) : Ev d M_Table_howMany (0, [some (vO 1), none, none, none, none, none], [], (sc, ar)) Q :=
  Ev.deep (Nat.zero_le d) (sg_Table_howMany_0n (lp_howManyN hr k 64 0 (by omega) (by omega)))
theorem lp_howManyC (hr : ∀ i : Nat, i < 64 → inR (ar 32 i)) (k : Q (some (vI (sm (nz (ar 32)) 64))) (sc, ar)) : ∀ (j : Nat) (i : Int), 0 ≤ i → i + j = 64 → Ev 0 M_Table_howMany (13, [some (vO 2), some (vI (sm (nz (ar 32)) i.toNat)), some (vA 32), some (vI 64), some (vI i), none], [], (sc, ar)) Q := by
  intro j
  induction j with
  | zero =>
    intro i hi hj
    have : i = 64 := by omega
    subst this
    exact sg_Table_howMany_13c ⟨by omega, by omega, fun _ => k, fun c => by omega⟩
  | succ j ih =>
    intro i hi hj
    have := ih (i + 1) (by omega) (by omega)
    rw [tn_succ hi] at this
    refine sg_Table_howMany_13c ⟨by omega, by omega, fun c => by omega, fun c => ⟨by omega, by omega, hr _ (by omega), fun c => ?_, fun c => ?_⟩⟩
    · simpa [sm, nz, c] using this
    · simpa [sm, nz, c] using this
theorem ct_howManyC (hr : ∀ i : Nat, i < 64 → inR (ar 32 i)) (k : Q (some (vI (sm (nz (ar 32)) 64))) (sc, ar)) : Ev d M_Table_howMany (0, [some (vO 2), none, none, none, none, none], [], (sc, ar)) Q :=
  Ev.deep (Nat.zero_le d) (sg_Table_howMany_0c (lp_howManyC hr k 64 0 (by omega) (by omega)))
theorem ct_valueOf {a : Nat} {t : Int} (ha : aK a = 0) (h0 : 0 ≤ t) (h1 : t < mLen (sc, ar) a) (h2 : mLen (sc, ar) a < 2147483648) (k : Q (some (vI (ar a t.toNat))) (sc, ar)) : Ev d M_Dt_valueOf (0, [some (vA a), some (vI t)], [], (sc, ar)) Q :=
  Ev.deep (Nat.zero_le d) (sg_Dt_valueOf_0 ⟨by omega, fun c => by omega, fun _ => ⟨by omega, by omega, by omega, fun c => by omega, fun _ => ⟨ha, h0, h1, k⟩⟩⟩)
/-! the order that is told (3), and the least one (6) -/
theorem ct_hasPlaceT {p n : Int} (hn : sc 49 = n) (hp : 0 ≤ p ∧ p < n) (h8 : n ≤ 8) (k : Q (some (vI 1)) (sc, ar)) : Ev d M_Order_hasPlace (0, [some (vO 3), some (vI p)], [], (sc, ar)) Q :=
  Ev.deep (Nat.zero_le d) (sg_Order_hasPlace_0t ⟨by omega, fun c => by omega, fun c => ⟨by omega, by omega, fun c => by omega, fun c => ⟨by omega, fun c => by omega, fun _ => k⟩⟩⟩)
theorem ct_hasPlaceT0 {p n : Int} (hn : sc 49 = n) (hr : inR p) (hp : ¬ (0 ≤ p ∧ p < n)) (h8 : 0 ≤ n ∧ n ≤ 8) (k : Q (some (vI 0)) (sc, ar)) : Ev d M_Order_hasPlace (0, [some (vO 3), some (vI p)], [], (sc, ar)) Q :=
  Ev.deep (Nat.zero_le d) (sg_Order_hasPlace_0t ⟨hr, fun _ => k, fun c => ⟨by omega, by omega, fun _ => k, fun c => ⟨by omega, fun _ => k, fun c => by omega⟩⟩⟩)
theorem ct_hasPlaceL {p n : Int} (hn : sc 97 = n) (hp : 0 ≤ p ∧ p < n) (h8 : n ≤ 8) (k : Q (some (vI 1)) (sc, ar)) : Ev d M_Order_hasPlace (0, [some (vO 6), some (vI p)], [], (sc, ar)) Q :=
  Ev.deep (Nat.zero_le d) (sg_Order_hasPlace_0l ⟨by omega, fun c => by omega, fun c => ⟨by omega, by omega, fun c => by omega, fun c => ⟨by omega, fun c => by omega, fun _ => k⟩⟩⟩)
theorem ct_lengthT (k : Q (some (vI (sc 49))) (sc, ar)) : Ev d M_Order_length (0, [some (vO 3)], [], (sc, ar)) Q := Ev.deep (Nat.zero_le d) (sg_Order_length_0t k)
theorem ct_lengthL (k : Q (some (vI (sc 97))) (sc, ar)) : Ev d M_Order_length (0, [some (vO 6)], [], (sc, ar)) Q := Ev.deep (Nat.zero_le d) (sg_Order_length_0l k)
theorem ct_taskAtT {p n : Int} (hn : sc 49 = n) (hp : 0 ≤ p ∧ p < n) (h8 : n ≤ 8) (k : Q (some (vI (ar 48 p.toNat))) (sc, ar)) : Ev (d + 1) M_Order_taskAt (0, [some (vO 3), some (vI p)], [], (sc, ar)) Q :=
  Ev.deep (Nat.le_add_left 1 d) (sg_Order_taskAt_0t (ct_hasPlaceT hn hp h8 (sg_Order_taskAt_5t ⟨by omega, fun c => by omega, fun _ => ⟨by omega, by omega, k⟩⟩)))
theorem ct_taskAtT0 {p n : Int} (hn : sc 49 = n) (hr : inR p) (hp : ¬ (0 ≤ p ∧ p < n)) (h8 : 0 ≤ n ∧ n ≤ 8) (k : Q (some (vI (-9))) (sc, ar)) : Ev (d + 1) M_Order_taskAt (0, [some (vO 3), some (vI p)], [], (sc, ar)) Q :=
  Ev.deep (Nat.le_add_left 1 d) (sg_Order_taskAt_0t (ct_hasPlaceT0 hn hr hp h8 (sg_Order_taskAt_5t ⟨by omega, fun _ => k, fun c => absurd rfl c⟩)))
theorem ct_taskAtL {p n : Int} (hn : sc 97 = n) (hp : 0 ≤ p ∧ p < n) (h8 : n ≤ 8) (k : Q (some (vI (ar 96 p.toNat))) (sc, ar)) : Ev (d + 1) M_Order_taskAt (0, [some (vO 6), some (vI p)], [], (sc, ar)) Q :=
  Ev.deep (Nat.le_add_left 1 d) (sg_Order_taskAt_0l (ct_hasPlaceL hn hp h8 (sg_Order_taskAt_5l ⟨by omega, fun c => by omega, fun _ => ⟨by omega, by omega, k⟩⟩)))
theorem ct_clearT (k : Q none (up sc 49 0, ar)) : Ev d M_Order_clear (0, [some (vO 3)], [], (sc, ar)) Q := Ev.deep (Nat.zero_le d) (sg_Order_clear_0t k)
theorem ct_clearL (k : Q none (up sc 97 0, ar)) : Ev d M_Order_clear (0, [some (vO 6)], [], (sc, ar)) Q := Ev.deep (Nat.zero_le d) (sg_Order_clear_0l k)
theorem ct_addT {t : Int} (h : 0 ≤ sc 49 ∧ sc 49 < 8) (k : Q none (up sc 49 (sc 49 + 1), up ar 48 (up (ar 48) (sc 49).toNat t))) : Ev d M_Order_add (0, [some (vO 3), some (vI t)], [], (sc, ar)) Q :=
  Ev.deep (Nat.zero_le d) (sg_Order_add_0t ⟨by omega, fun c => by omega, fun _ => ⟨by omega, fun c => by omega, fun _ => ⟨by omega, by omega, k⟩⟩⟩)
theorem ct_addL {t : Int} (h : 0 ≤ sc 97 ∧ sc 97 < 8) (k : Q none (up sc 97 (sc 97 + 1), up ar 96 (up (ar 96) (sc 97).toNat t))) : Ev d M_Order_add (0, [some (vO 6), some (vI t)], [], (sc, ar)) Q :=
  Ev.deep (Nat.zero_le d) (sg_Order_add_0l ⟨by omega, fun c => by omega, fun _ => ⟨by omega, fun c => by omega, fun _ => ⟨by omega, by omega, k⟩⟩⟩)
/-- a row written from its start on -/
def wr (f : Nat → Int) (g : Nat → Int) : Nat → Nat → Int
  | 0 => f
  | n + 1 => up (wr f g n) n (g n)
theorem wr_at (f g : Nat → Int) : ∀ (n i : Nat), wr f g n i = if i < n then g i else f i
  | 0, i => by simp [wr]
  | n + 1, i => by
    simp only [wr, up, wr_at f g n i]
    by_cases h : i = n
    · subst h; simp
    · by_cases h2 : i < n
      · simp [h, h2, show i < n + 1 by omega]
      · simp [h, h2, show ¬ i < n + 1 by omega]
theorem wr_congr {f g g2 : Nat → Int} : ∀ (n : Nat), (∀ i, i < n → g i = g2 i) → wr f g n = wr f g2 n
  | 0, _ => rfl
  | n + 1, h => by
    simp only [wr]
    rw [wr_congr n (fun i hi => h i (by omega)), h n (by omega)]
theorem lp_restart {c : Int} (hc : c ≤ 8) (f : Nat → Int) (s0 : Nat → Int) (a0 : Nat → Nat → Int) (k : Q none (up s0 49 c, up a0 48 (wr f (fun i => (i : Int)) c.toNat))) : ∀ (j : Nat) (i : Int), 0 ≤ i → i + j = c → Ev 1 M_Order_restart (6, [some (vO 3), some (vI c), some (vI i)], [], (up s0 49 i, up a0 48 (wr f (fun i => (i : Int)) i.toNat))) Q := by
  intro j
  induction j with
  | zero =>
    intro i hi hj
    have : i = c := by omega
    subst this
    exact sg_Order_restart_6 ⟨by omega, by omega, fun _ => k, fun c => by omega⟩
  | succ j ih =>
    intro i hi hj
    refine sg_Order_restart_6 ⟨by omega, by omega, fun c => by omega, fun c => ct_addT (by rw [up_eq]; omega) (sg_Order_restart_16 ?_)⟩
    have := ih (i + 1) (by omega) (by omega)
    rw [tn_succ hi] at this
    simp only [up_eq, up_up]
    simp only [wr] at this
    rw [show ((i.toNat : Nat) : Int) = i by omega] at this
    exact this
theorem ct_restart {c : Int} (hc : 0 ≤ c ∧ c ≤ 8) (k : Q none (up sc 49 c, up ar 48 (wr (ar 48) (fun i => (i : Int)) c.toNat))) : Ev (d + 1) M_Order_restart (0, [some (vO 3), some (vI c), none], [], (sc, ar)) Q := by
  refine Ev.deep (Nat.le_add_left 1 d) (sg_Order_restart_0 (ct_clearT (sg_Order_restart_4 ?_)))
  have := lp_restart hc.2 (ar 48) sc ar k c.toNat 0 (by omega) (by omega)
  simp only [Int.toNat_zero, wr, up_id] at this
  exact this
theorem lp_become {c : Int} (hc : c ≤ 8) (f : Nat → Int) (s0 : Nat → Int) (a0 : Nat → Nat → Int) (hl : s0 97 = c) (k : Q none (up s0 49 c, up a0 48 (wr f (a0 96) c.toNat))) : ∀ (j : Nat) (i : Int), 0 ≤ i → i + j = c → Ev 2 M_Order_become (6, [some (vO 3), some (vO 6), some (vI i)], [], (up s0 49 i, up a0 48 (wr f (a0 96) i.toNat))) Q := by
  intro j
  induction j with
  | zero =>
    intro i hi hj
    have : i = c := by omega
    subst this
    refine sg_Order_become_6 (ct_lengthL (sg_Order_become_11 ⟨by omega, by rw [up_ne _ _ (by decide)]; omega, fun _ => k, fun c => ?_⟩))
    rw [up_ne _ _ (by decide)] at c
    omega
  | succ j ih =>
    intro i hi hj
    have e97 : up s0 49 i 97 = c := by rw [up_ne _ _ (by decide)]; exact hl
    refine sg_Order_become_6 (ct_lengthL (sg_Order_become_11 ⟨by omega, by rw [e97]; omega, fun c => by omega, fun c => ct_taskAtL e97 (by omega) hc (sg_Order_become_20 (ct_addT (by rw [up_eq]; omega) (sg_Order_become_23 ?_)))⟩))
    have := ih (i + 1) (by omega) (by omega)
    rw [tn_succ hi] at this
    simp only [up_eq, up_up, up_ne a0 _ (show (96 : Nat) ≠ 48 by decide)]
    simp only [wr] at this
    exact this
theorem ct_become {c : Int} (hc : 0 ≤ c ∧ c ≤ 8) (hl : sc 97 = c) (k : Q none (up sc 49 c, up ar 48 (wr (ar 48) (ar 96) c.toNat))) : Ev (d + 2) M_Order_become (0, [some (vO 3), some (vO 6), none], [], (sc, ar)) Q := by
  refine Ev.deep (Nat.le_add_left 2 d) (sg_Order_become_0 (ct_clearT (sg_Order_become_4 ?_)))
  have := lp_become hc.2 (ar 48) sc ar hl k c.toNat 0 (by omega) (by omega)
  simp only [Int.toNat_zero, wr, up_id] at this
  exact this
end CTA
end
section
/-! BITS of small sets, sums, orders -/
theorem bt_and : ∀ s : Nat, s < 256 → ∀ t : Nat, t < 8 → bAnd (s : Int) (bShl 1 (t : Int)) = if s.testBit t = true then ((2 ^ t : Nat) : Int) else 0 := by decide +kernel
theorem bt_or : ∀ s : Nat, s < 256 → ∀ t : Nat, t < 8 → bOr (s : Int) (bShl 1 (t : Int)) = ((s ||| 2 ^ t : Nat) : Int) := by decide +kernel
theorem bt_shr : ∀ s : Nat, s < 256 → ∀ t : Nat, t < 8 → bAnd (bShr (s : Int) (t : Int)) 1 = if s.testBit t = true then 1 else 0 := by decide +kernel
theorem bt_shl : ∀ t : Nat, t < 9 → bShl 1 (t : Int) = ((2 ^ t : Nat) : Int) := by decide +kernel
theorem bt_lt : ∀ s : Nat, s < 256 → ∀ t : Nat, t < 8 → s ||| 2 ^ t < 256 := by decide +kernel
theorem bt_gt : ∀ s : Nat, s < 256 → ∀ t : Nat, t < 8 → s.testBit t = false → s < s ||| 2 ^ t := by decide +kernel
theorem bt_all : ∀ n : Nat, n < 9 → ∀ s : Nat, s < 256 → s < 2 ^ n - 1 → ∃ t, t < n ∧ s.testBit t = false := by decide +kernel
theorem bt_in : ∀ n : Nat, n < 9 → ∀ s : Nat, s < 256 → s < 2 ^ n → ∀ t : Nat, t < n → s ||| 2 ^ t < 2 ^ n := by decide +kernel
theorem bt_top : ∀ n : Nat, n < 9 → ∀ t : Nat, t < n → (2 ^ n - 1).testBit t = true := by decide +kernel
theorem bt_2 : ∀ n : Nat, n < 9 → 2 ^ n ≤ 256 ∧ 1 ≤ 2 ^ n := by decide +kernel
theorem bt_or_test (s t u : Nat) : (s ||| 2 ^ t).testBit u = (s.testBit u || decide (t = u)) := by
  rw [Nat.testBit_or, Nat.testBit_two_pow]
theorem bt_ne {s t : Nat} (hs : s < 256) (ht : t < 8) : bAnd (s : Int) (bShl 1 (t : Int)) ≠ 0 ↔ s.testBit t = true := by
  rw [bt_and s hs t ht]
  have : 0 < 2 ^ t := Nat.two_pow_pos t
  generalize 2 ^ t = u at this ⊢
  cases h : s.testBit t
  · simp
  · simp only [if_true]
    constructor
    · intro _; trivial
    · intro _; omega
theorem bt_inR {s t : Nat} (hs : s < 256) (ht : t < 8) : inR (bAnd (s : Int) (bShl 1 (t : Int))) := by
  rw [bt_and s hs t ht]
  have : 2 ^ t ≤ 2 ^ 8 := Nat.pow_le_pow_right (by decide) (by omega)
  generalize 2 ^ t = u at this ⊢
  split <;> omega
theorem bs_ne {s t : Nat} (hs : s < 256) (ht : t < 8) : bAnd (bShr (s : Int) (t : Int)) 1 ≠ 0 ↔ s.testBit t = true := by
  rw [bt_shr s hs t ht]
  cases h : s.testBit t <;> simp
theorem bs_inR {s t : Nat} (hs : s < 256) (ht : t < 8) : inR (bAnd (bShr (s : Int) (t : Int)) 1) := by
  rw [bt_shr s hs t ht]
  split <;> omega
/-! sums -/
theorem sm_add (f g : Nat → Int) : ∀ n, sm (fun i => f i + g i) n = sm f n + sm g n
  | 0 => rfl
  | n + 1 => by
    have := sm_add f g n
    show sm _ n + (f n + g n) = (sm f n + f n) + (sm g n + g n)
    omega
theorem sm_zero : ∀ n, sm (fun _ => 0) n = 0
  | 0 => rfl
  | n + 1 => by
    have := sm_zero n
    show sm _ n + 0 = 0
    omega
theorem sm_swap (f : Nat → Nat → Int) (m : Nat) : ∀ n, sm (fun i => sm (fun j => f i j) m) n = sm (fun j => sm (fun i => f i j) n) m
  | 0 => by
    show (0 : Int) = sm (fun _ => 0) m
    rw [sm_zero]
  | n + 1 => by
    show sm _ n + _ = sm (fun j => sm (fun i => f i j) n + f n j) m
    rw [sm_swap f m n, sm_add]
theorem sm_one {f : Nat → Int} {k : Nat} : ∀ n, k < n → (∀ i, i < n → i ≠ k → f i = 0) → sm f n = f k
  | 0, h, _ => by omega
  | n + 1, h, z => by
    show sm f n + f n = f k
    by_cases e : n = k
    · subst e
      rw [sm_congr (g := fun _ => 0) n (fun i hi => z i (by omega) (by omega)), sm_zero]
      omega
    · rw [sm_one n (by omega) (fun i hi hk => z i (by omega) hk), z n (by omega) e]
      omega
/-! a one to one row of n numbers below n has each of them -/
theorem pig : ∀ (n : Nat) (f : Nat → Nat), (∀ i, i < n → f i < n) → (∀ i j, i < n → j < n → f i = f j → i = j) → ∀ t, t < n → ∃ i, i < n ∧ f i = t
  | 0, _, _, _, t, ht => by omega
  | n + 1, f, h1, h2, t, ht => by
    have ih := pig n (fun i => if f i = n then f n else f i)
      (fun i hi => by
        try dsimp only
        have a := h1 i (by omega)
        have b := h1 n (by omega)
        split
        next e =>
          have : f n ≠ n := fun q => by
            have := h2 i n (by omega) (by omega) (e.trans q.symm)
            omega
          omega
        next e => omega)
      (fun i j hi hj e => by
        try dsimp only at e
        split at e
        next e1 =>
          split at e
          next e2 => exact h2 i j (by omega) (by omega) (e1.trans e2.symm)
          next e2 =>
            have := h2 n j (by omega) (by omega) e
            omega
        next e1 =>
          split at e
          next e2 =>
            have := h2 i n (by omega) (by omega) e
            omega
          next e2 => exact h2 i j (by omega) (by omega) e)
    by_cases ha : f n = t
    · exact ⟨n, by omega, ha⟩
    · by_cases hn : t = n
      · subst hn
        have hb : f t < t := by
          have := h1 t (by omega)
          omega
        obtain ⟨i, hi, e⟩ := ih (f t) hb
        try dsimp only at e
        split at e
        next e1 => exact ⟨i, by omega, e1⟩
        next e1 =>
          have := h2 i t (by omega) (by omega) e
          omega
      · obtain ⟨i, hi, e⟩ := ih t (by omega)
        try dsimp only at e
        split at e
        next e1 => exact absurd e ha
        next e1 => exact ⟨i, by omega, e⟩
/-- an order has each task -/
theorem OD.has {N : Nat} {f : Nat → Int} (h : OD (N : Int) f) {t : Int} (h0 : 0 ≤ t) (h1 : t < N) : ∃ p : Nat, p < N ∧ f p = t := by
  obtain ⟨i, hi, e⟩ := pig N (fun i => (f i).toNat) (fun i hi => by
      have := h.1 i (by omega)
      try dsimp only
      omega) (fun i j hi hj e => by
      have a := h.1 i (by omega)
      have b := h.1 j (by omega)
      try dsimp only at e
      exact h.2 i j (by omega) (by omega) (by omega)) t.toNat (by omega)
  have := h.1 i (by omega)
  try dsimp only at e
  exact ⟨i, hi, by omega⟩
/-- a sum over the tasks is one over the places -/
theorem sm_perm {N : Nat} {f : Nat → Int} (h : OD (N : Int) f) (F : Nat → Int) : sm F N = sm (fun p => F (f p).toNat) N := by
  have e1 : sm (fun p => F (f p).toNat) N = sm (fun p => sm (fun b => if (f p).toNat = b then F b else 0) N) N := by
    apply sm_congr
    intro p hp
    have := h.1 p (by omega)
    rw [sm_one (k := (f p).toNat) N (by omega) (fun i hi hne => if_neg (Ne.symm hne)), if_pos rfl]
  have e2 : sm F N = sm (fun b => sm (fun p => if (f p).toNat = b then F b else 0) N) N := by
    apply sm_congr
    intro b hb
    obtain ⟨p, hp, e⟩ := h.has (t := (b : Int)) (by omega) (by omega)
    rw [sm_one (k := p) N hp (fun i hi hne => if_neg (fun q => hne (h.2 i p (by omega) (by omega) (by
      have := h.1 i (by omega)
      omega)))), if_pos (by omega)]
  rw [e1, e2, sm_swap]
/-! which cells are kept by what only looks -/
def pS (i : Nat) : Bool := i == 10 || i == 49 || i == 177 || i == 999
def pA (a : Nat) : Bool := a == 0 || a == 16 || a == 32 || a == 48 || a == 178 || a == 179 || a == 180 || a == 181 || a == 999
def Pe (sc : Nat → Int) (ar : Nat → Nat → Int) (sc2 : Nat → Int) (ar2 : Nat → Nat → Int) : Prop := (∀ i, pS i = true → sc2 i = sc i) ∧ ∀ a, pA a = true → ar2 a = ar a
theorem Pe.rf {sc : Nat → Int} {ar : Nat → Nat → Int} : Pe sc ar sc ar := ⟨fun _ _ => rfl, fun _ _ => rfl⟩
theorem Pe.tr {sc sc2 sc3 : Nat → Int} {ar ar2 ar3 : Nat → Nat → Int} (h : Pe sc ar sc2 ar2) (h2 : Pe sc2 ar2 sc3 ar3) : Pe sc ar sc3 ar3 := ⟨fun i hi => (h2.1 i hi).trans (h.1 i hi), fun a ha => (h2.2 a ha).trans (h.2 a ha)⟩
theorem Pe.s {sc sc2 : Nat → Int} {ar ar2 : Nat → Nat → Int} (h : Pe sc ar sc2 ar2) (i : Nat) (v : Int) (hi : pS i = false := by decide) : Pe sc ar (up sc2 i v) ar2 := ⟨fun j hj => by
    rw [up_ne _ _ (fun e => by rw [e, hi] at hj; cases hj)]
    exact h.1 j hj, h.2⟩
theorem Pe.a {sc sc2 : Nat → Int} {ar ar2 : Nat → Nat → Int} (h : Pe sc ar sc2 ar2) (a : Nat) (f : Nat → Int) (ha : pA a = false := by decide) : Pe sc ar sc2 (up ar2 a f) := ⟨h.1, fun j hj => by
    rw [up_ne _ _ (fun e => by rw [e, ha] at hj; cases hj)]
    exact h.2 j hj⟩
/-- the class's state, the reference's -/
def IX (N : Nat) (tm nd ch od : Nat → Int) (sc : Nat → Int) (ar : Nat → Nat → Int) : Prop := sc 10 = (N : Int) ∧ sc 49 = (N : Int) ∧ ar 0 = tm ∧ ar 16 = nd ∧ ar 32 = ch ∧ ar 48 = od
def IM (N : Nat) (tm nd ch od : Nat → Int) (sc : Nat → Int) (ar : Nat → Nat → Int) : Prop := sc 177 = (N : Int) ∧ ar 178 = tm ∧ ar 179 = nd ∧ ar 180 = ch ∧ ar 181 = od
theorem IX.pe {N : Nat} {tm nd ch od : Nat → Int} {sc sc2 : Nat → Int} {ar ar2 : Nat → Nat → Int} (h : IX N tm nd ch od sc ar) (p : Pe sc ar sc2 ar2) : IX N tm nd ch od sc2 ar2 :=
  ⟨(p.1 10 rfl).trans h.1, (p.1 49 rfl).trans h.2.1, (p.2 0 rfl).trans h.2.2.1, (p.2 16 rfl).trans h.2.2.2.1, (p.2 32 rfl).trans h.2.2.2.2.1, (p.2 48 rfl).trans h.2.2.2.2.2⟩
theorem IM.pe {N : Nat} {tm nd ch od : Nat → Int} {sc sc2 : Nat → Int} {ar ar2 : Nat → Nat → Int} (h : IM N tm nd ch od sc ar) (p : Pe sc ar sc2 ar2) : IM N tm nd ch od sc2 ar2 :=
  ⟨(p.1 177 rfl).trans h.1, (p.2 178 rfl).trans h.2.1, (p.2 179 rfl).trans h.2.2.1, (p.2 180 rfl).trans h.2.2.2.1, (p.2 181 rfl).trans h.2.2.2.2⟩
/-- what a state's numbers are -/
def VV (N : Nat) (tm nd ch od : Nat → Int) : Prop := N ≤ 8 ∧ (∀ i : Nat, i < 8 → 0 ≤ tm i ∧ tm i ≤ 20) ∧ (∀ i : Nat, i < 8 → N ≤ i → tm i = 0) ∧ R9 nd ∧ (∀ a b : Nat, a < 8 → b < 8 → (N ≤ a ∨ N ≤ b ∨ a = b) → nd (8 * a + b) = 0) ∧ (∀ i : Nat, i < 64 → 0 ≤ ch i ∧ ch i ≤ 8) ∧ (∀ a : Nat, a < 8 → sm (fun x => ch (8 * a + x)) 8 ≤ 8) ∧ OD (N : Int) od
end
section
/-! THE LEAST ORDER over sets of tasks: the numbers -/
def G (nd : Nat → Int) (N t s : Nat) : Int := sm (fun b => if s.testBit b = true then 0 else nd (8 * t + b)) N
def mnA (P : Nat → Bool) (F : Nat → Int) : Nat → Int
  | 0 => 1000000
  | i + 1 => if P i = true then (if F i < mnA P F i then F i else mnA P F i) else mnA P F i
def nin (s t : Nat) : Bool := !s.testBit t
def dpF (nd : Nat → Int) (N : Nat) (f : Nat → Int) (s t : Nat) : Int := f (s ||| 2 ^ t) + G nd N t s
def dpV (nd : Nat → Int) (N : Nat) (f : Nat → Int) (s : Nat) : Int := if s = 2 ^ N - 1 then 0 else mnA (nin s) (dpF nd N f s) N
def dp (nd : Nat → Int) (N : Nat) (f0 : Nat → Int) : Nat → Nat → Int
  | 0 => f0
  | j + 1 => up (dp nd N f0 j) (2 ^ N - 1 - j) (dpV nd N (dp nd N f0 j) (2 ^ N - 1 - j))
theorem R9.at {nd : Nat → Int} (h : R9 nd) {a b : Nat} (ha : a < 8) (hb : b < 8) : 0 ≤ nd (8 * a + b) ∧ nd (8 * a + b) ≤ 9 := h _ (by omega)
theorem G_bd {nd : Nat → Int} (h : R9 nd) {N t : Nat} (hN : N ≤ 8) (ht : t < 8) (s : Nat) : 0 ≤ G nd N t s ∧ G nd N t s ≤ 72 := by
  have := sm_bd (f := fun b => if s.testBit b = true then 0 else nd (8 * t + b)) (b := 9) N (fun i hi => by
    have := h.at ht (show i < 8 by omega)
    try dsimp only
    split <;> omega)
  unfold G
  omega
theorem mnA_le {P : Nat → Bool} {F : Nat → Int} : ∀ (n i : Nat), i < n → P i = true → mnA P F n ≤ F i
  | 0, i, h, _ => by omega
  | n + 1, i, h, hp => by
    simp only [mnA]
    by_cases e : i = n
    · subst e
      rw [if_pos hp]
      split <;> omega
    · have := mnA_le (P := P) (F := F) n i (by omega) hp
      split
      · split <;> omega
      · exact this
theorem mnA_ge {P : Nat → Bool} {F : Nat → Int} {b : Int} (hb : b ≤ 1000000) : ∀ (n : Nat), (∀ i, i < n → P i = true → b ≤ F i) → b ≤ mnA P F n
  | 0, _ => hb
  | n + 1, h => by
    have ih := mnA_ge hb n (fun i hi => h i (by omega))
    simp only [mnA]
    split
    next hp =>
      have := h n (by omega) hp
      split <;> omega
    next => exact ih
theorem mnA_at {P : Nat → Bool} {F : Nat → Int} : ∀ (n : Nat), (∃ i, i < n ∧ P i = true ∧ F i < 1000000) → ∃ i, i < n ∧ P i = true ∧ mnA P F n = F i
  | 0, h => by obtain ⟨i, hi, _⟩ := h; omega
  | n + 1, h => by
    simp only [mnA]
    by_cases hp : P n = true
    · rw [if_pos hp]
      by_cases hlt : F n < mnA P F n
      · rw [if_pos hlt]
        exact ⟨n, by omega, hp, rfl⟩
      · rw [if_neg hlt]
        by_cases hx : ∃ i, i < n ∧ P i = true ∧ F i < 1000000
        · obtain ⟨i, h1, h2, h3⟩ := mnA_at n hx
          exact ⟨i, by omega, h2, h3⟩
        · obtain ⟨i, h1, h2, h3⟩ := h
          have hi : i = n := by
            by_cases e : i = n
            · exact e
            · exact absurd ⟨i, by omega, h2, h3⟩ hx
          subst hi
          have : mnA P F i = 1000000 := by
            have hge := mnA_ge (P := P) (F := F) (Int.le_refl 1000000) i (fun k hk hpk => by
              rcases Int.lt_or_le (F k) 1000000 with q | q
              · exact absurd ⟨k, hk, hpk, q⟩ hx
              · exact q)
            omega
          omega
    · rw [if_neg hp]
      obtain ⟨i, h1, h2, h3⟩ := h
      have : i ≠ n := fun e => by subst e; exact hp h2
      obtain ⟨i, h1, h2, h3⟩ := mnA_at n ⟨i, by omega, h2, h3⟩
      exact ⟨i, by omega, h2, h3⟩
theorem mnA_congr {P : Nat → Bool} {F F2 : Nat → Int} : ∀ (n : Nat), (∀ i, i < n → P i = true → F i = F2 i) → mnA P F n = mnA P F2 n
  | 0, _ => rfl
  | n + 1, h => by
    have ih := mnA_congr n (fun i hi => h i (by omega))
    simp only [mnA]
    by_cases hp : P n = true
    · rw [if_pos hp, if_pos hp, ih, h n (by omega) hp]
    · rw [if_neg hp, if_neg hp, ih]
theorem nin_iff {s t : Nat} : nin s t = true ↔ s.testBit t = false := by
  unfold nin
  cases s.testBit t <;> simp
theorem dpV_congr {nd : Nat → Int} {N : Nat} (hN : N ≤ 8) {f g : Nat → Int} {s : Nat} (hs : s < 256) (h : ∀ u, s < u → f u = g u) : dpV nd N f s = dpV nd N g s := by
  unfold dpV
  split
  · rfl
  · exact mnA_congr N (fun t ht hp => by
      unfold dpF
      rw [h _ (bt_gt s hs t (by omega) (nin_iff.mp hp))])
theorem dp_bd {nd : Nat → Int} (hR : R9 nd) {N : Nat} (hN : N ≤ 8) {f0 : Nat → Int} : ∀ (j : Nat), j ≤ 2 ^ N → ∀ s, s < 2 ^ N → 2 ^ N - 1 < s + j → 0 ≤ dp nd N f0 j s ∧ dp nd N f0 j s ≤ 72 * (2 ^ N - 1 - s : Nat) := by
  have h2 := bt_2 N (by omega)
  intro j
  induction j with
  | zero => intro hj s hs h; omega
  | succ j ih =>
    intro hj s hs h
    have ih := ih (by omega)
    simp only [dp]
    by_cases e : s = 2 ^ N - 1 - j
    · rw [← e, up_eq]
      unfold dpV
      split
      next e2 => omega
      next e2 =>
        have hs256 : s < 256 := by omega
        obtain ⟨t, ht, hb⟩ := bt_all N (by omega) s hs256 (by omega)
        have hgt := bt_gt s hs256 t (by omega) hb
        have hin := bt_in N (by omega) s hs256 hs t ht
        have hle := mnA_le (P := nin s) (F := dpF nd N (dp nd N f0 j) s) N t ht (nin_iff.mpr hb)
        have hv := ih (s ||| 2 ^ t) hin (by omega)
        have hG := G_bd hR hN (show t < 8 by omega) s
        have hge := mnA_ge (P := nin s) (F := dpF nd N (dp nd N f0 j) s) (b := 0) (by omega) N (fun i hi hp => by
          have hb2 := nin_iff.mp hp
          have hgt2 := bt_gt s hs256 i (by omega) hb2
          have hin2 := bt_in N (by omega) s hs256 hs i hi
          have hv2 := ih (s ||| 2 ^ i) hin2 (by omega)
          have hG2 := G_bd hR hN (show i < 8 by omega) s
          unfold dpF
          omega)
        refine ⟨hge, Int.le_trans hle ?_⟩
        unfold dpF
        omega
    · rw [up_ne _ _ e]
      exact ih s hs (by omega)
theorem dp_base {nd : Nat → Int} {N : Nat} (hN : N ≤ 8) {f0 g0 : Nat → Int} : ∀ (j : Nat), j ≤ 2 ^ N → ∀ s, 2 ^ N - 1 < s + j → s < 2 ^ N → dp nd N f0 j s = dp nd N g0 j s := by
  have h2 := bt_2 N (by omega)
  intro j
  induction j with
  | zero => intro hj s h hs; omega
  | succ j ih =>
    intro hj s h hs
    have ih := ih (by omega)
    simp only [dp]
    by_cases e : s = 2 ^ N - 1 - j
    · rw [← e, up_eq, up_eq]
      unfold dpV
      split
      · rfl
      · exact mnA_congr N (fun t ht hp => by
          unfold dpF
          have hb := nin_iff.mp hp
          rw [ih _ (by have := bt_gt s (by omega) t (by omega) hb; omega) (bt_in N (by omega) s (by omega) hs t ht)])
    · rw [up_ne _ _ e, up_ne _ _ e]
      exact ih s (by omega) hs
theorem dp_rec {nd : Nat → Int} {N : Nat} (hN : N ≤ 8) {f0 : Nat → Int} : ∀ (j : Nat), j ≤ 2 ^ N → ∀ s, 2 ^ N - 1 < s + j → s < 2 ^ N → dp nd N f0 j s = dpV nd N (dp nd N f0 j) s := by
  have h2 := bt_2 N (by omega)
  intro j
  induction j with
  | zero => intro hj s h hs; omega
  | succ j ih =>
    intro hj s h hs
    have ih := ih (by omega)
    have same : ∀ u, 2 ^ N - 1 - j < u → dp nd N f0 (j + 1) u = dp nd N f0 j u := fun u hu => by
      simp only [dp]
      exact up_ne _ _ (by omega)
    by_cases e : s = 2 ^ N - 1 - j
    · have e1 : dp nd N f0 (j + 1) s = dpV nd N (dp nd N f0 j) s := by
        simp only [dp]
        rw [← e, up_eq]
      rw [e1]
      exact dpV_congr hN (by omega) (fun u hu => (same u (by omega)).symm)
    · rw [same s (by omega), ih s (by omega) hs]
      exact dpV_congr hN (by omega) (fun u hu => (same u (by omega)).symm)
/-- the least guess behind a set -/
def LV (nd : Nat → Int) (N s : Nat) : Int := dp nd N (fun _ => 0) (2 ^ N) s
theorem LV_of {nd : Nat → Int} {N : Nat} (hN : N ≤ 8) (f0 : Nat → Int) {s : Nat} (hs : s < 2 ^ N) : dp nd N f0 (2 ^ N) s = LV nd N s := by
  have := bt_2 N (by omega)
  exact dp_base hN _ (Nat.le_refl _) s (by omega) hs
theorem LV_bd {nd : Nat → Int} (hR : R9 nd) {N s : Nat} (hN : N ≤ 8) (hs : s < 2 ^ N) : 0 ≤ LV nd N s ∧ LV nd N s ≤ 18360 := by
  have := bt_2 N (by omega)
  have := dp_bd hR hN (f0 := fun _ => 0) (2 ^ N) (Nat.le_refl _) s hs (by omega)
  unfold LV
  omega
def lF (nd : Nat → Int) (N s t : Nat) : Int := LV nd N (s ||| 2 ^ t) + G nd N t s
theorem LV_rec {nd : Nat → Int} {N : Nat} (hN : N ≤ 8) {s : Nat} (hs : s < 2 ^ N - 1) : LV nd N s = mnA (nin s) (lF nd N s) N := by
  have h2 := bt_2 N (by omega)
  have := dp_rec hN (nd := nd) (f0 := fun _ => 0) (2 ^ N) (Nat.le_refl _) s (by omega) (by omega)
  unfold LV
  rw [this]
  unfold dpV
  rw [if_neg (by omega)]
  rfl
theorem LV_ex {nd : Nat → Int} (hR : R9 nd) {N : Nat} (hN : N ≤ 8) {s : Nat} (hs : s < 2 ^ N - 1) : ∃ t, t < N ∧ s.testBit t = false ∧ lF nd N s t = LV nd N s := by
  have h2 := bt_2 N (by omega)
  obtain ⟨t, ht, hb⟩ := bt_all N (by omega) s (by omega) hs
  have hin := bt_in N (by omega) s (by omega) (by omega) t ht
  obtain ⟨i, h1, h3, h4⟩ := mnA_at (P := nin s) (F := lF nd N s) N ⟨t, ht, nin_iff.mpr hb, by
    have := LV_bd hR hN hin
    have := G_bd hR hN (show t < 8 by omega) s
    unfold lF
    omega⟩
  exact ⟨i, h1, nin_iff.mp h3, by rw [LV_rec hN hs, h4]⟩
/-- the first of i, i + 1, .. (j of them); 0 if there is none -/
def ff (P : Nat → Bool) : Nat → Nat → Nat
  | 0, _ => 0
  | j + 1, i => if P i = true then i else ff P j (i + 1)
theorem ff_ok {P : Nat → Bool} : ∀ (j i : Nat), (∃ t, i ≤ t ∧ t < i + j ∧ P t = true) → P (ff P j i) = true ∧ i ≤ ff P j i ∧ ff P j i < i + j
  | 0, i, h => by obtain ⟨t, h1, h2, _⟩ := h; omega
  | j + 1, i, h => by
    simp only [ff]
    by_cases hp : P i = true
    · rw [if_pos hp]
      exact ⟨hp, by omega, by omega⟩
    · rw [if_neg hp]
      obtain ⟨t, h1, h2, h3⟩ := h
      have : t ≠ i := fun e => by subst e; exact hp h3
      have := ff_ok j (i + 1) ⟨t, by omega, by omega, h3⟩
      exact ⟨this.1, by omega, by omega⟩
/-- the same, sought from the end -/
def lw (P : Nat → Bool) (N : Nat) : Nat → Int
  | 0 => -9
  | j + 1 => if P (N - 1 - j) = true then ((N - 1 - j : Nat) : Int) else lw P N j
theorem lw_ff {P : Nat → Bool} {N : Nat} : ∀ (j i : Nat), i + j = N → (∃ t, i ≤ t ∧ t < N ∧ P t = true) → lw P N j = (ff P j i : Int)
  | 0, i, h, e => by obtain ⟨t, h1, h2, _⟩ := e; omega
  | j + 1, i, h, e => by
    simp only [lw, ff]
    have hi : N - 1 - j = i := by omega
    rw [hi]
    by_cases hp : P i = true
    · rw [if_pos hp, if_pos hp]
    · rw [if_neg hp, if_neg hp]
      obtain ⟨t, h1, h2, h3⟩ := e
      have : t ≠ i := fun e => by subst e; exact hp h3
      exact lw_ff j (i + 1) (by omega) ⟨t, by omega, h2, h3⟩
def tqP (nd : Nat → Int) (N s t : Nat) : Bool := nin s t && decide (lF nd N s t = LV nd N s)
def tq (nd : Nat → Int) (N s : Nat) : Nat := ff (tqP nd N s) N 0
theorem tqP_iff {nd : Nat → Int} {N s t : Nat} : tqP nd N s t = true ↔ s.testBit t = false ∧ lF nd N s t = LV nd N s := by
  unfold tqP
  rw [Bool.and_eq_true, nin_iff, decide_eq_true_eq]
theorem tq_ex {nd : Nat → Int} (hR : R9 nd) {N : Nat} (hN : N ≤ 8) {s : Nat} (hs : s < 2 ^ N - 1) : ∃ t, 0 ≤ t ∧ t < N ∧ tqP nd N s t = true := by
  obtain ⟨t, h1, h2, h3⟩ := LV_ex hR hN hs
  exact ⟨t, by omega, h1, tqP_iff.mpr ⟨h2, h3⟩⟩
theorem tq_ok {nd : Nat → Int} (hR : R9 nd) {N : Nat} (hN : N ≤ 8) {s : Nat} (hs : s < 2 ^ N - 1) : tq nd N s < N ∧ s.testBit (tq nd N s) = false := by
  obtain ⟨t, h1, h2, h3⟩ := tq_ex hR hN hs
  have := ff_ok (P := tqP nd N s) N 0 ⟨t, h1, by omega, h3⟩
  have h4 := tqP_iff.mp this.1
  exact ⟨by unfold tq; omega, h4.1⟩
def setR (nd : Nat → Int) (N : Nat) : Nat → Nat
  | 0 => 0
  | p + 1 => setR nd N p ||| 2 ^ tq nd N (setR nd N p)
def LO (nd : Nat → Int) (N : Nat) (p : Nat) : Int := (tq nd N (setR nd N p) : Int)
def cnt (s : Nat) : Nat := (List.range 8).countP (fun t => s.testBit t)
theorem bt_cnt : ∀ s : Nat, s < 256 → ∀ t : Nat, t < 8 → s.testBit t = false → cnt (s ||| 2 ^ t) = cnt s + 1 := by decide +kernel
theorem bt_cntall : ∀ n : Nat, n < 9 → cnt (2 ^ n - 1) = n := by decide +kernel
theorem setR_ok {nd : Nat → Int} (hR : R9 nd) {N : Nat} (hN : N ≤ 8) : ∀ p, p ≤ N → setR nd N p < 2 ^ N ∧ cnt (setR nd N p) = p ∧ (p < N → setR nd N p < 2 ^ N - 1) ∧ ∀ t, (setR nd N p).testBit t = true ↔ ∃ q, q < p ∧ tq nd N (setR nd N q) = t := by
  have h2 := bt_2 N (by omega)
  have fin : ∀ s p, s < 2 ^ N → cnt s = p → p < N → s < 2 ^ N - 1 := by
    intro s p h1 h3 h4
    rcases Nat.lt_or_ge s (2 ^ N - 1) with q | q
    · exact q
    · have : s = 2 ^ N - 1 := by omega
      rw [this, bt_cntall N (by omega)] at h3
      omega
  intro p
  induction p with
  | zero =>
    intro _
    have c0 : cnt 0 = 0 := by decide +kernel
    exact ⟨by simp only [setR]; omega, c0, fin 0 0 (by omega) c0, fun t => by simp [setR]⟩
  | succ p ih =>
    intro hp
    obtain ⟨a, b, c, e⟩ := ih (by omega)
    have hlt := c (by omega)
    obtain ⟨h3, h4⟩ := tq_ok hR hN hlt
    have h5 : setR nd N (p + 1) < 2 ^ N := bt_in N (by omega) _ (by omega) a _ h3
    have h6 : cnt (setR nd N (p + 1)) = p + 1 := by
      simp only [setR]
      rw [bt_cnt _ (by omega) _ (by omega) h4, b]
    refine ⟨h5, h6, fin _ _ h5 h6, fun t => ?_⟩
    simp only [setR]
    rw [bt_or_test, Bool.or_eq_true, e t, decide_eq_true_eq]
    constructor
    · rintro (⟨q, hq, hh⟩ | hh)
      · exact ⟨q, by omega, hh⟩
      · exact ⟨p, by omega, hh⟩
    · rintro ⟨q, hq, hh⟩
      by_cases e : q = p
      · subst e
        exact Or.inr hh
      · exact Or.inl ⟨q, by omega, hh⟩
theorem LO_od {nd : Nat → Int} (hR : R9 nd) {N : Nat} (hN : N ≤ 8) : OD (N : Int) (LO nd N) := by
  have tk : ∀ p, p < N → tq nd N (setR nd N p) < N ∧ (setR nd N p).testBit (tq nd N (setR nd N p)) = false := fun p hp => tq_ok hR hN ((setR_ok hR hN p (by omega)).2.2.1 hp)
  have lt : ∀ q p, q < p → p < N → tq nd N (setR nd N q) ≠ tq nd N (setR nd N p) := by
    intro q p hq hp e
    have h1 := ((setR_ok hR hN p (by omega)).2.2.2 (tq nd N (setR nd N p))).mpr ⟨q, hq, e⟩
    rw [(tk p hp).2] at h1
    cases h1
  refine ⟨fun i hi => ?_, fun i j hi hj e => ?_⟩
  · have := (tk i (by omega)).1
    unfold LO
    omega
  · unfold LO at e
    rcases Nat.lt_trichotomy i j with q | q | q
    · exact absurd (by omega) (lt i j q (by omega))
    · exact q
    · exact absurd (by omega) (lt j i q (by omega))
theorem OD.congr {n : Int} {f g : Nat → Int} (h : OD n f) (e : ∀ i : Nat, (i : Int) < n → g i = f i) : OD n g := by
  refine ⟨fun i hi => ?_, fun i j hi hj q => ?_⟩
  · rw [e i hi]
    exact h.1 i hi
  · rw [e i hi, e j hj] at q
    exact h.2 i j hi hj q
/-! the guess of an order, in both ways -/
def ndo (nd od : Nat → Int) (p q : Nat) : Int := nd (8 * (od p).toNat + (od q).toNat)
def rowG (nd od : Nat → Int) (p q : Nat) : Int := if p < q then ndo nd od p q else 0
def GS (nd od : Nat → Int) (N : Nat) : Int := sm (fun p => sm (rowG nd od p) N) N
def setO (od : Nat → Int) : Nat → Nat
  | 0 => 0
  | p + 1 => setO od p ||| 2 ^ (od p).toNat
theorem setO_ok {N : Nat} (hN : N ≤ 8) {od : Nat → Int} (h : OD (N : Int) od) : ∀ p, p ≤ N → setO od p < 256 ∧ ∀ t, (setO od p).testBit t = true ↔ ∃ q, q < p ∧ (od q).toNat = t := by
  intro p
  induction p with
  | zero => intro _; exact ⟨by simp [setO], fun t => by simp [setO]⟩
  | succ p ih =>
    intro hp
    obtain ⟨a, e⟩ := ih (by omega)
    have hb := h.1 p (by omega)
    refine ⟨bt_lt _ a _ (by omega), fun t => ?_⟩
    simp only [setO]
    rw [bt_or_test, Bool.or_eq_true, e t, decide_eq_true_eq]
    constructor
    · rintro (⟨q, hq, hh⟩ | hh)
      · exact ⟨q, by omega, hh⟩
      · exact ⟨p, by omega, hh⟩
    · rintro ⟨q, hq, hh⟩
      by_cases e : q = p
      · subst e
        exact Or.inr hh
      · exact Or.inl ⟨q, by omega, hh⟩
theorem GS_eq {N : Nat} {tm nd ch od : Nat → Int} (hV : VV N tm nd ch od) : sm (fun p => G nd N (od p).toNat (setO od p)) N = GS nd od N := by
  obtain ⟨hN, -, -, hR, hz, -, -, ho⟩ := hV
  apply sm_congr
  intro p hp
  unfold G
  rw [sm_perm ho]
  apply sm_congr
  intro q hq
  have hp1 := ho.1 p (by omega)
  have hq1 := ho.1 q (by omega)
  have hs := (setO_ok hN ho p (by omega)).2 (od q).toNat
  show (if (setO od p).testBit (od q).toNat = true then 0 else nd (8 * (od p).toNat + (od q).toNat)) = rowG nd od p q
  unfold rowG ndo
  by_cases e : (setO od p).testBit (od q).toNat = true
  · rw [if_pos e]
    obtain ⟨r, hr, hh⟩ := hs.mp e
    have hr1 := ho.1 r (by omega)
    have : r = q := ho.2 r q (by omega) (by omega) (by omega)
    rw [if_neg (by omega)]
  · rw [if_neg e]
    by_cases e2 : p < q
    · rw [if_pos e2]
    · rw [if_neg e2]
      have : q = p := by
        rcases Nat.lt_or_ge q p with w | w
        · exact absurd (hs.mpr ⟨q, w, rfl⟩) e
        · omega
      subst this
      exact hz _ _ (by omega) (by omega) (Or.inr (Or.inr rfl))
end
section
/-! THE LEAST ORDER: the class's search and the reference's -/
theorem ci (i : Nat) : ((i + 1 : Nat) : Int) = (i : Int) + 1 := rfl
theorem mnA_top {P : Nat → Bool} {F : Nat → Int} : ∀ n, mnA P F n ≤ 1000000
  | 0 => Int.le_refl _
  | n + 1 => by
    have := mnA_top (P := P) (F := F) n
    simp only [mnA]
    split
    · split <;> omega
    · exact this
/-- the reference's least of some, with -9 for none yet -/
def md (P : Nat → Bool) (F : Nat → Int) : Nat → Int
  | 0 => -9
  | i + 1 => if P i = true then (if md P F i = -9 then F i else if md P F i ≤ F i then md P F i else F i) else md P F i
theorem md_mn {P : Nat → Bool} {F : Nat → Int} : ∀ n, (∀ i, i < n → P i = true → 0 ≤ F i ∧ F i < 1000000) → ((∀ i, i < n → P i = false) ∧ md P F n = -9 ∧ mnA P F n = 1000000) ∨ (0 ≤ md P F n ∧ md P F n = mnA P F n ∧ ∃ i, i < n ∧ P i = true)
  | 0, _ => Or.inl ⟨fun i h => by omega, rfl, rfl⟩
  | n + 1, h => by
    simp only [md, mnA]
    rcases md_mn n (fun i hi => h i (by omega)) with ⟨a, b, c⟩ | ⟨a, b, i, hi, hp⟩
    · cases hp : P n
      · refine Or.inl ⟨fun i hi => ?_, by simpa using b, by simpa using c⟩
        by_cases e : i = n
        · rw [e]; exact hp
        · exact a i (by omega)
      · have := h n (by omega) hp
        refine Or.inr ?_
        rw [b, c]
        simp only [if_true]
        rw [if_pos (by omega)]
        exact ⟨this.1, rfl, n, by omega, hp⟩
    · refine Or.inr ?_
      cases hq : P n
      · exact ⟨by simpa using a, by simpa using b, i, by omega, hp⟩
      · have := h n (by omega) hq
        simp only [if_true]
        rw [if_neg (by omega)]
        refine ⟨by split <;> omega, ?_, n, by omega, hq⟩
        split
        · rw [if_neg (by omega)]; exact b
        · rw [if_pos (by omega)]
section LEAST
variable {sc : Nat → Int} {ar : Nat → Nat → Int} {Q : Option mV → mH → Prop} {d : Nat} {N : Nat} {nd : Nat → Int}
theorem lp_gwn {t s : Nat} (hN : N ≤ 8) (ht : t < N) (hs : s < 256) (hnd : ar 16 = nd) (base : Int) (k : Q (some (vI (base + G nd N t s))) (sc, ar)) : ∀ j i : Nat, i + j = N → Ev 2 M_Least_guessWithNext (17, [some (vO 5), some (vI t), some (vI s), some (vI N), some (vO 1), some (vI (base + sm (fun b => if s.testBit b = true then 0 else nd (8 * t + b)) i)), some (vI i)], [], (sc, ar)) Q := by
  intro j
  induction j with
  | zero =>
    intro i hi
    have : i = N := by omega
    subst this
    exact sg_Least_guessWithNext_17 ⟨by omega, by omega, fun _ => k, fun c => by omega⟩
  | succ j ih =>
    intro i hi
    have h1 := ih (i + 1) (by omega)
    refine sg_Least_guessWithNext_17 ⟨by omega, by omega, fun c => by omega, fun _ => ⟨bt_inR hs (by omega), fun c => ?_, fun c => ?_⟩⟩
    · have hb := (bt_ne hs (by omega)).mp c
      simp only [sm, if_pos hb, Int.add_zero] at h1
      exact h1
    · have hb : ¬ s.testBit i = true := fun q => c ((bt_ne hs (by omega)).mpr q)
      refine ct_getN (by omega) (by omega) (sg_Least_guessWithNext_42 ?_)
      simp only [sm, if_neg hb] at h1
      rw [hnd, show (8 * (t : Int) + (i : Int)).toNat = 8 * t + i by omega, Int.add_assoc]
      exact h1
theorem ct_gwn {t s : Nat} (hN : N ≤ 8) (ht : t < N) (hs : s < 256) (hnd : ar 16 = nd) (k : Q (some (vI (ar 80 (s ||| 2 ^ t) + G nd N t s))) (sc, ar)) : Ev (d + 2) M_Least_guessWithNext (0, [some (vO 5), some (vI t), some (vI s), some (vI N), some (vO 1), none, none], [], (sc, ar)) Q := by
  refine Ev.deep (Nat.le_add_left 2 d) (sg_Least_guessWithNext_0 ?_)
  rw [bt_or s hs t (by omega)]
  have hlt := bt_lt s hs t (by omega)
  have hl : mLen (sc, ar) 80 = 256 := rfl
  refine ct_valueOf rfl (by omega) (by rw [hl]; omega) (by rw [hl]; omega) (sg_Least_guessWithNext_12 ?_)
  have := lp_gwn (Q := Q) hN ht hs hnd (ar 80 (s ||| 2 ^ t)) k N 0 (by omega)
  simp only [sm, Int.add_zero] at this
  rw [Int.toNat_natCast]
  exact this
theorem lp_leastAfter {s : Nat} (hN : N ≤ 8) (hs : s < 256) (hnd : ar 16 = nd) (hF : ∀ t, t < N → s.testBit t = false → 0 ≤ dpF nd N (ar 80) s t ∧ dpF nd N (ar 80) s t ≤ 1000000) (k : Q (some (vI (mnA (nin s) (dpF nd N (ar 80) s) N))) (sc, ar)) : ∀ j i : Nat, i + j = N → Ev 3 M_Least_leastAfter (7, [some (vO 5), some (vI s), some (vI N), some (vO 1), some (vI (mnA (nin s) (dpF nd N (ar 80) s) i)), some (vI i)], [], (sc, ar)) Q := by
  intro j
  induction j with
  | zero =>
    intro i hi
    have : i = N := by omega
    subst this
    exact sg_Least_leastAfter_7 ⟨by omega, by omega, fun _ => k, fun c => by omega⟩
  | succ j ih =>
    intro i hi
    have h1 := ih (i + 1) (by omega)
    refine sg_Least_leastAfter_7 ⟨by omega, by omega, fun c => by omega, fun _ => ⟨bt_inR hs (by omega), fun c => ?_, fun c => ?_⟩⟩
    · have hb := (bt_ne hs (by omega)).mp c
      have hp : nin s i = false := by unfold nin; rw [hb]; rfl
      simp only [mnA, hp] at h1
      exact h1
    · have hb : s.testBit i = false := by
        cases h : s.testBit i
        · rfl
        · exact absurd ((bt_ne hs (by omega)).mpr h) c
      have hp := nin_iff.mpr hb
      have hv := hF i (by omega) hb
      have ht := mnA_top (P := nin s) (F := dpF nd N (ar 80) s) i
      have hg := mnA_ge (P := nin s) (F := dpF nd N (ar 80) s) (b := 0) (by omega) i (fun t htt hpp => (hF t (by omega) (nin_iff.mp hpp)).1)
      simp only [mnA, hp, if_true] at h1
      have e : dpF nd N (ar 80) s i = ar 80 (s ||| 2 ^ i) + G nd N i s := rfl
      rw [e] at hv h1
      refine ct_gwn hN (by omega) hs hnd (sg_Least_leastAfter_33 ⟨by omega, by omega, ?_⟩)
      exact h1
theorem ct_leastAfter {s : Nat} (hN : N ≤ 8) (hs : s < 256) (hnd : ar 16 = nd) (hF : ∀ t, t < N → s.testBit t = false → 0 ≤ dpF nd N (ar 80) s t ∧ dpF nd N (ar 80) s t ≤ 1000000) (k : Q (some (vI (mnA (nin s) (dpF nd N (ar 80) s) N))) (sc, ar)) : Ev (d + 3) M_Least_leastAfter (0, [some (vO 5), some (vI s), some (vI N), some (vO 1), none, none], [], (sc, ar)) Q :=
  Ev.deep (Nat.le_add_left 3 d) (sg_Least_leastAfter_0 (lp_leastAfter hN hs hnd hF k N 0 (by omega)))
theorem lp_leastGuess {f0 : Nat → Int} (hR : R9 nd) (hN : N ≤ 8) (hnd : ar 16 = nd) (k : Q (some (vI (LV nd N 0))) (sc, up ar 80 (dp nd N f0 (2 ^ N)))) : ∀ r j : Nat, j + r = 2 ^ N → Ev 4 M_Least_leastGuess (9, [some (vO 5), some (vI N), some (vO 1), some (vI ((2 ^ N : Nat) - 1 : Int)), some (vI ((2 ^ N : Nat) - 1 - j : Int))], [], (sc, up ar 80 (dp nd N f0 j))) Q := by
  have h2 := bt_2 N (by omega)
  intro r
  induction r with
  | zero =>
    intro j hj
    have : j = 2 ^ N := by omega
    subst this
    refine sg_Least_leastGuess_9 ⟨by omega, fun _ => ?_, fun c => by omega⟩
    rw [up_eq]
    rw [show (0 : Int).toNat = 0 from rfl, LV_of hN f0 (by omega)]
    exact k
  | succ r ih =>
    intro j hj
    have h1 := ih (j + 1) (by omega)
    obtain ⟨s, hs⟩ : ∃ s : Nat, s = 2 ^ N - 1 - j := ⟨_, rfl⟩
    have es : ((2 ^ N : Nat) - 1 - j : Int) = (s : Int) := by omega
    rw [es]
    have hs256 : s < 256 := by omega
    have fin : ∀ v, v = dpV nd N (dp nd N f0 j) s → Ev 4 M_Least_leastGuess (48, [some (vO 5), some (vI N), some (vO 1), some (vI ((2 ^ N : Nat) - 1 : Int)), some (vI s)], [vI v, vI s, vA 80], (sc, up ar 80 (dp nd N f0 j))) Q := by
      intro v hv
      refine sg_Least_leastGuess_48 ⟨by omega, by omega, ?_⟩
      rw [up_eq, up_up, Int.toNat_natCast, hv, show (s : Int) + (-1) = (2 ^ N : Nat) - 1 - ((j + 1 : Nat) : Int) by omega]
      simp only [dp] at h1
      rw [← hs] at h1
      exact h1
    refine sg_Least_leastGuess_9 ⟨by omega, fun c => by omega, fun _ => ⟨by omega, fun c => by omega, fun _ => ⟨by omega, by omega, fun c => ?_, fun c => ?_⟩⟩⟩
    · have hF : ∀ t, t < N → s.testBit t = false → 0 ≤ dpF nd N (dp nd N f0 j) s t ∧ dpF nd N (dp nd N f0 j) s t ≤ 1000000 := by
        intro t ht hb
        have hgt := bt_gt s hs256 t (by omega) hb
        have hin := bt_in N (by omega) s hs256 (by omega) t ht
        have hv := dp_bd hR hN (f0 := f0) j (by omega) (s ||| 2 ^ t) hin (by omega)
        have hG := G_bd hR hN (show t < 8 by omega) s
        unfold dpF
        omega
      refine ct_leastAfter (nd := nd) hN hs256 (by rw [up_ne _ _ (by decide)]; exact hnd) (by rw [up_eq]; exact hF) (fin _ ?_)
      rw [up_eq]
      unfold dpV
      rw [if_neg (by omega)]
    · refine fin 0 ?_
      unfold dpV
      rw [if_pos (by omega)]
theorem ct_leastGuess (hR : R9 nd) (hN : N ≤ 8) (hnd : ar 16 = nd) (k : ∀ f : Nat → Int, (∀ s, s < 2 ^ N → f s = LV nd N s) → Q (some (vI (LV nd N 0))) (sc, up ar 80 f)) : Ev (d + 4) M_Least_leastGuess (0, [some (vO 5), some (vI N), some (vO 1), none, none], [], (sc, ar)) Q := by
  refine Ev.deep (Nat.le_add_left 4 d) (sg_Least_leastGuess_0 ?_)
  rw [bt_shl N (by omega)]
  have := lp_leastGuess (sc := sc) (ar := ar) (Q := Q) (f0 := ar 80) hR hN hnd (k _ (fun s hs => LV_of hN _ hs)) (2 ^ N) 0 (by omega)
  simp only [dp, up_id] at this
  rw [show ((2 ^ N : Nat) - 1 - ((0 : Nat) : Int) : Int) = (2 ^ N : Nat) - 1 by omega] at this
  exact this
theorem lp_firstOfLeast {s : Nat} (hN : N ≤ 8) (hs : s < 2 ^ N) (hR : R9 nd) (hnd : ar 16 = nd) (hf : ∀ u, u < 2 ^ N → ar 80 u = LV nd N u) {v : Nat} (k : Q (some (vI (v : Nat))) (sc, ar)) : ∀ j i : Nat, i + j = N → ff (tqP nd N s) j i = v → Ev 3 M_Least_firstOfLeast (3, [some (vO 5), some (vI s), some (vI N), some (vO 1), some (vI i)], [], (sc, ar)) Q := by
  have h2 := bt_2 N (by omega)
  have hs256 : s < 256 := by omega
  intro j
  induction j with
  | zero =>
    intro i hi hv
    have : i = N := by omega
    subst this
    simp only [ff] at hv
    subst hv
    exact sg_Least_firstOfLeast_3 ⟨by omega, by omega, fun _ => k, fun c => by omega⟩
  | succ j ih =>
    intro i hi hv
    simp only [ff] at hv
    refine sg_Least_firstOfLeast_3 ⟨by omega, by omega, fun c => by omega, fun _ => ⟨bt_inR hs256 (by omega), fun c => ?_, fun c => ?_⟩⟩
    · have hb := (bt_ne hs256 (by omega)).mp c
      rw [if_neg (fun q => by rw [(tqP_iff.mp q).1] at hb; cases hb)] at hv
      exact ih (i + 1) (by omega) hv
    · have hb : s.testBit i = false := by
        cases h : s.testBit i
        · rfl
        · exact absurd ((bt_ne hs256 (by omega)).mpr h) c
      have hin := bt_in N (by omega) s hs256 hs i (by omega)
      have hv1 := LV_bd hR hN hin
      have hv2 := LV_bd hR hN hs
      have hG := G_bd hR hN (show i < 8 by omega) s
      have hl : mLen (sc, ar) 80 = 256 := rfl
      refine ct_gwn hN (by omega) hs256 hnd (sg_Least_firstOfLeast_27 (ct_valueOf rfl (by omega) (by rw [hl]; omega) (by rw [hl]; omega) (sg_Least_firstOfLeast_35 ?_)))
      rw [hf _ hin, Int.toNat_natCast, hf _ hs]
      refine ⟨by omega, by omega, fun c => ?_, fun c => ?_⟩
      · rw [if_neg (fun q => c (tqP_iff.mp q).2)] at hv
        exact ih (i + 1) (by omega) hv
      · have hp : tqP nd N s i = true := tqP_iff.mpr ⟨hb, Classical.not_not.mp c⟩
        rw [if_pos hp] at hv
        subst hv
        exact k
theorem ct_firstOfLeast {s : Nat} (hN : N ≤ 8) (hs : s < 2 ^ N) (hR : R9 nd) (hnd : ar 16 = nd) (hf : ∀ u, u < 2 ^ N → ar 80 u = LV nd N u) (k : Q (some (vI (tq nd N s : Nat))) (sc, ar)) : Ev (d + 3) M_Least_firstOfLeast (0, [some (vO 5), some (vI s), some (vI N), some (vO 1), none], [], (sc, ar)) Q :=
  Ev.deep (Nat.le_add_left 3 d) (sg_Least_firstOfLeast_0 (lp_firstOfLeast hN hs hR hnd hf k N 0 (by omega) rfl))
theorem lp_find (hN : N ≤ 8) (hR : R9 nd) {s0 : Nat → Int} {a0 : Nat → Nat → Int} (hnd : a0 16 = nd) (hf : ∀ u, u < 2 ^ N → a0 80 u = LV nd N u) {f : Nat → Int} (k : Q (some (vO 6)) (up s0 97 N, up a0 96 (wr f (LO nd N) N))) : ∀ j p : Nat, p + j = N → Ev 5 M_Least_find (19, [some (vO 5), some (vI N), some (vO 1), some (vI (setR nd N p : Nat)), some (vI p), none], [], (up s0 97 p, up a0 96 (wr f (LO nd N) p))) Q := by
  have h2 := bt_2 N (by omega)
  intro j
  induction j with
  | zero =>
    intro p hp
    have : p = N := by omega
    subst this
    exact sg_Least_find_19 ⟨by omega, by omega, fun _ => k, fun c => by omega⟩
  | succ j ih =>
    intro p hp
    have h1 := ih (p + 1) (by omega)
    have hset := setR_ok hR hN p (by omega)
    have htq := tq_ok hR hN (hset.2.2.1 (by omega))
    refine sg_Least_find_19 ⟨by omega, by omega, fun c => by omega, fun _ => ct_firstOfLeast hN hset.1 hR (by rw [up_ne _ _ (by decide)]; exact hnd) (by rw [up_ne _ _ (by decide)]; exact hf) (sg_Least_find_32 (ct_addL (by rw [up_eq]; omega) (sg_Least_find_43 ?_)))⟩
    rw [bt_or _ (by omega) _ (by omega)]
    simp only [up_eq, up_up, Int.toNat_natCast]
    simp only [setR, wr] at h1
    exact h1
theorem ct_find (hR : R9 nd) (hN : N ≤ 8) (hnd : ar 16 = nd) (k : ∀ f : Nat → Int, Q (some (vO 6)) (up sc 97 N, up (up ar 80 f) 96 (wr (ar 96) (LO nd N) N))) : Ev (d + 5) M_Least_find (0, [some (vO 5), some (vI N), some (vO 1), none, none, none], [], (sc, ar)) Q := by
  refine Ev.deep (Nat.le_add_left 5 d) (sg_Least_find_0 (ct_leastGuess hR hN hnd (fun f hf => sg_Least_find_6 (ct_clearL (sg_Least_find_14 ?_)))))
  have := lp_find (Q := Q) (s0 := sc) (a0 := up ar 80 f) (f := ar 96) hN hR (by rw [up_ne _ _ (by decide)]; exact hnd) (by rw [up_eq]; exact hf) (k f) N 0 (by omega)
  simp only [setR, wr] at this
  rw [show up (up ar 80 f) 96 (ar 96) = up ar 80 f by
    rw [show ar 96 = up ar 80 f 96 from (up_ne _ _ (by decide)).symm, up_id]] at this
  exact this
/-! the reference -/
theorem lp_guessed {t s : Nat} (hN : N ≤ 8) (ht : t < N) (hs : s < 256) (hn : sc 177 = (N : Int)) (hnd : ar 179 = nd) (hz : nd (8 * t + t) = 0) (k : Q (some (vI (G nd N t s))) (sc, ar)) : ∀ j i : Nat, i + j = N → Ev 0 M_Md_guessed (5, [some (vO 11), some (vI t), some (vI s), some (vI (sm (fun b => if s.testBit b = true then 0 else nd (8 * t + b)) i)), some (vI i)], [], (sc, ar)) Q := by
  intro j
  induction j with
  | zero =>
    intro i hi
    have : i = N := by omega
    subst this
    exact sg_Md_guessed_5 ⟨by omega, by omega, fun _ => k, fun c => by omega⟩
  | succ j ih =>
    intro i hi
    have h1 := ih (i + 1) (by omega)
    refine sg_Md_guessed_5 ⟨by omega, by omega, fun c => by omega, fun _ => ⟨bs_inR hs (by omega), fun c => ?_, fun c => ⟨by omega, by omega, fun c2 => ?_, fun c2 => ⟨by omega, by omega, ?_⟩⟩⟩⟩
    · have hb := (bs_ne hs (by omega)).mp c
      simp only [sm, if_pos hb] at h1
      exact h1
    · have hb : ¬ s.testBit i = true := fun q => c ((bs_ne hs (by omega)).mpr q)
      have : i = t := by omega
      subst this
      simp only [sm, if_neg hb, hz] at h1
      exact h1
    · have hb : ¬ s.testBit i = true := fun q => c ((bs_ne hs (by omega)).mpr q)
      simp only [sm, if_neg hb] at h1
      rw [hnd, show (8 * (t : Int) + (i : Int)).toNat = 8 * t + i by omega]
      exact h1
theorem ct_guessed {t s : Nat} (hN : N ≤ 8) (ht : t < N) (hs : s < 256) (hn : sc 177 = (N : Int)) (hnd : ar 179 = nd) (hz : nd (8 * t + t) = 0) (k : Q (some (vI (G nd N t s))) (sc, ar)) : Ev d M_Md_guessed (0, [some (vO 11), some (vI t), some (vI s), none, none], [], (sc, ar)) Q :=
  Ev.deep (Nat.zero_le d) (sg_Md_guessed_0 (lp_guessed hN ht hs hn hnd hz k N 0 (by omega)))
end LEAST
end
section
/-! THE LEAST ORDER: the reference; guesses and places of the told order, both -/
section LEASTM
variable {sc : Nat → Int} {ar : Nat → Nat → Int} {Q : Option mV → mH → Prop} {d : Nat} {N : Nat} {nd : Nat → Int}
def mv (nd : Nat → Int) (N : Nat) (g : Nat → Int) (s i : Nat) : Int := if s = 2 ^ N - 1 then 0 else md (nin s) (dpF nd N g s) i
theorem lp_leastOfI {a0 : Nat → Nat → Int} {g : Nat → Int} {s : Nat} (hN : N ≤ 8) (hs : s < 2 ^ N) (hn : sc 177 = (N : Int)) (hnd : a0 179 = nd) (hz : ∀ t, t < N → nd (8 * t + t) = 0) (hF : ∀ t, t < N → s.testBit t = false → 0 ≤ dpF nd N g s t ∧ dpF nd N g s t < 1000000) (k : Ev 1 M_Md_leastOf (11, [some (vO 11), some (vI ((2 ^ N : Nat) - 1 : Int)), some (vI ((s : Int) + (-1))), none, none], [], (sc, up a0 182 (up g s (mv nd N g s N)))) Q) :
    ∀ j i : Nat, i + j = N → Ev 1 M_Md_leastOf (34, [some (vO 11), some (vI ((2 ^ N : Nat) - 1 : Int)), some (vI s), some (vI i), none], [], (sc, up a0 182 (up g s (mv nd N g s i)))) Q := by
  have h2 := bt_2 N (by omega)
  have hs256 : s < 256 := by omega
  intro j
  induction j with
  | zero =>
    intro i hi
    have : i = N := by omega
    subst this
    exact sg_Md_leastOf_34 ⟨by omega, by omega, fun _ => k, fun c => by omega⟩
  | succ j ih =>
    intro i hi
    have h1 := ih (i + 1) (by omega)
    refine sg_Md_leastOf_34 ⟨by omega, by omega, fun c => by omega, fun _ => ⟨bs_inR hs256 (by omega), fun c => ?_, fun c => ?_⟩⟩
    · have hb := (bs_ne hs256 (by omega)).mp c
      have hp : nin s i = false := by unfold nin; rw [hb]; rfl
      have e : mv nd N g s (i + 1) = mv nd N g s i := by
        unfold mv
        simp [md, hp]
      rw [e] at h1
      exact h1
    · have hb : s.testBit i = false := by
        cases h : s.testBit i
        · rfl
        · exact absurd ((bs_ne hs256 (by omega)).mpr h) c
      have hp := nin_iff.mpr hb
      have hne : s ≠ 2 ^ N - 1 := fun e => by
        rw [e, bt_top N (by omega) i (by omega)] at hb
        cases hb
      have hgt := bt_gt s hs256 i (by omega) hb
      have hlt := bt_lt s hs256 i (by omega)
      have hv := hF i (by omega) hb
      have em : mv nd N g s i = md (nin s) (dpF nd N g s) i := if_neg hne
      have em1 : mv nd N g s (i + 1) = if md (nin s) (dpF nd N g s) i = -9 then dpF nd N g s i else if md (nin s) (dpF nd N g s) i ≤ dpF nd N g s i then md (nin s) (dpF nd N g s) i else dpF nd N g s i := by
        unfold mv
        rw [if_neg hne]
        simp only [md, hp, if_true]
      have hm := md_mn (P := nin s) (F := dpF nd N g s) i (fun t ht hpp => hF t (by omega) (nin_iff.mp hpp))
      have htop := mnA_top (P := nin s) (F := dpF nd N g s) i
      have hmr : -9 ≤ md (nin s) (dpF nd N g s) i ∧ md (nin s) (dpF nd N g s) i ≤ 1000000 := by
        rcases hm with ⟨_, a, _⟩ | ⟨a, b, _⟩ <;> omega
      refine ct_guessed hN (by omega) hs256 hn (by rw [up_ne _ _ (by decide)]; exact hnd) (hz i (by omega)) (sg_Md_leastOf_56 ?_)
      rw [bt_or s hs256 i (by omega)]
      simp only [up_eq, up_up, Int.toNat_natCast]
      rw [up_ne g _ (show s ||| 2 ^ i ≠ s by omega), show G nd N i s + g (s ||| 2 ^ i) = dpF nd N g s i from Int.add_comm _ _, em]
      rw [em1] at h1
      refine ⟨by omega, by omega, by omega, by omega, by omega, fun c => ⟨by omega, by omega, ?_⟩, fun c => ⟨by omega, by omega, by omega, by omega, fun c2 => ⟨by omega, by omega, by omega, by omega, ?_⟩, fun c2 => ⟨by omega, by omega, ?_⟩⟩⟩
      · rw [if_pos c] at h1
        exact h1
      · rw [if_neg c, if_pos c2] at h1
        exact h1
      · rw [if_neg c, if_neg c2] at h1
        exact h1
theorem lp_leastOf {f0 : Nat → Int} {a0 : Nat → Nat → Int} (hR : R9 nd) (hN : N ≤ 8) (hn : sc 177 = (N : Int)) (hnd : a0 179 = nd) (hz : ∀ t, t < N → nd (8 * t + t) = 0) (k : Q (some (vI (LV nd N 0))) (sc, up a0 182 (dp nd N f0 (2 ^ N)))) : ∀ r j : Nat, j + r = 2 ^ N → Ev 1 M_Md_leastOf (11, [some (vO 11), some (vI ((2 ^ N : Nat) - 1 : Int)), some (vI ((2 ^ N : Nat) - 1 - j : Int)), none, none], [], (sc, up a0 182 (dp nd N f0 j))) Q := by
  have h2 := bt_2 N (by omega)
  intro r
  induction r with
  | zero =>
    intro j hj
    have : j = 2 ^ N := by omega
    subst this
    refine sg_Md_leastOf_11 ⟨by omega, fun _ => ?_, fun c => by omega⟩
    rw [up_eq]
    rw [show (0 : Int).toNat = 0 from rfl, LV_of hN f0 (by omega)]
    exact k
  | succ r ih =>
    intro j hj
    have h1 := ih (j + 1) (by omega)
    obtain ⟨s, hs⟩ : ∃ s : Nat, s = 2 ^ N - 1 - j := ⟨_, rfl⟩
    have es : ((2 ^ N : Nat) - 1 - j : Int) = (s : Int) := by omega
    rw [es]
    have hs256 : s < 256 := by omega
    have hF : ∀ t, t < N → s.testBit t = false → 0 ≤ dpF nd N (dp nd N f0 j) s t ∧ dpF nd N (dp nd N f0 j) s t < 1000000 := by
      intro t ht hb
      have hgt := bt_gt s hs256 t (by omega) hb
      have hin := bt_in N (by omega) s hs256 (by omega) t ht
      have hv := dp_bd hR hN (f0 := f0) j (by omega) (s ||| 2 ^ t) hin (by omega)
      have hG := G_bd hR hN (show t < 8 by omega) s
      unfold dpF
      omega
    have eN : mv nd N (dp nd N f0 j) s N = dpV nd N (dp nd N f0 j) s := by
      unfold mv dpV
      split
      · rfl
      next hne =>
        rcases md_mn (P := nin s) (F := dpF nd N (dp nd N f0 j) s) N (fun t ht hpp => hF t ht (nin_iff.mp hpp)) with ⟨a, _, _⟩ | ⟨_, b, _⟩
        · obtain ⟨t, ht, hb⟩ := bt_all N (by omega) s hs256 (by omega)
          have := a t ht
          rw [nin_iff.mpr hb] at this
          cases this
        · exact b
    have fin : ∀ v, v = mv nd N (dp nd N f0 j) s 0 → Ev 1 M_Md_leastOf (34, [some (vO 11), some (vI ((2 ^ N : Nat) - 1 : Int)), some (vI s), some (vI 0), none], [], (sc, up a0 182 (up (dp nd N f0 j) s v))) Q := by
      intro v hv
      rw [hv]
      refine lp_leastOfI hN (by omega) hn hnd hz hF ?_ N 0 (by omega)
      rw [eN, show (s : Int) + (-1) = (2 ^ N : Nat) - 1 - ((j + 1 : Nat) : Int) by omega]
      simp only [dp] at h1
      rw [← hs] at h1
      exact h1
    refine sg_Md_leastOf_11 ⟨by omega, fun c => by omega, fun _ => ⟨by omega, by omega, fun c => ⟨by omega, by omega, ?_⟩, fun c => ⟨by omega, by omega, ?_⟩⟩⟩
    · simp only [up_eq, up_up, Int.toNat_natCast]
      refine fin _ ?_
      unfold mv
      rw [if_neg (by omega)]
      rfl
    · simp only [up_eq, up_up, Int.toNat_natCast]
      refine fin _ ?_
      unfold mv
      rw [if_pos (by omega)]
theorem ct_leastOf (hR : R9 nd) (hN : N ≤ 8) (hn : sc 177 = (N : Int)) (hnd : ar 179 = nd) (hz : ∀ t, t < N → nd (8 * t + t) = 0) (k : ∀ f : Nat → Int, (∀ s, s < 2 ^ N → f s = LV nd N s) → Q (some (vI (LV nd N 0))) (sc, up ar 182 f)) : Ev (d + 1) M_Md_leastOf (0, [some (vO 11), none, none, none, none], [], (sc, ar)) Q := by
  refine Ev.deep (Nat.le_add_left 1 d) (sg_Md_leastOf_0 ?_)
  rw [hn, bt_shl N (by omega)]
  have := lp_leastOf (sc := sc) (a0 := ar) (Q := Q) (f0 := ar 182) hR hN hn hnd hz (k _ (fun s hs => LV_of hN _ hs)) (2 ^ N) 0 (by omega)
  simp only [dp, up_id] at this
  rw [show ((2 ^ N : Nat) - 1 - ((0 : Nat) : Int) : Int) = (2 ^ N : Nat) - 1 by omega] at this
  exact this
theorem lp_leastRowI {s p : Nat} (hR : R9 nd) (hN : N ≤ 8) (hs : s < 2 ^ N) (hn : sc 177 = (N : Int)) (hnd : ar 179 = nd) (hz : ∀ t, t < N → nd (8 * t + t) = 0) (hf : ∀ u, u < 2 ^ N → ar 182 u = LV nd N u) (hp : p < 8) (k : Ev 2 M_Md_leastRow (9, [some (vO 11), some (vI (bOr s (bShl 1 (lw (tqP nd N s) N N)))), some (vI ((p : Int) + 1)), none, none], [], (sc, up ar 188 (up (ar 188) p (lw (tqP nd N s) N N)))) Q) :
    ∀ r j : Nat, j + r = N → Ev 2 M_Md_leastRow (28, [some (vO 11), some (vI s), some (vI p), some (vI (lw (tqP nd N s) N j)), some (vI ((N : Int) - 1 - j))], [], (sc, ar)) Q := by
  have h2 := bt_2 N (by omega)
  have hs256 : s < 256 := by omega
  intro r
  induction r with
  | zero =>
    intro j hj
    have : j = N := by omega
    subst this
    refine sg_Md_leastRow_28 ⟨by omega, fun _ => ⟨by omega, by omega, ?_⟩, fun c => by omega⟩
    exact k
  | succ r ih =>
    intro j hj
    have h1 := ih (j + 1) (by omega)
    obtain ⟨t, ht⟩ : ∃ t : Nat, t = N - 1 - j := ⟨_, rfl⟩
    rw [show (N : Int) - 1 - j = (t : Int) by omega]
    rw [show (N : Int) - 1 - ((j + 1 : Nat) : Int) = (t : Int) + (-1) by omega] at h1
    simp only [lw] at h1
    rw [← ht] at h1
    refine sg_Md_leastRow_28 ⟨by omega, fun c => by omega, fun _ => ⟨bs_inR hs256 (by omega), fun c => ?_, fun c => ?_⟩⟩
    · have hb := (bs_ne hs256 (by omega)).mp c
      rw [if_neg (fun q => by rw [(tqP_iff.mp q).1] at hb; cases hb)] at h1
      exact h1
    · have hb : s.testBit t = false := by
        cases h : s.testBit t
        · rfl
        · exact absurd ((bs_ne hs256 (by omega)).mpr h) c
      have hlt := bt_lt s hs256 t (by omega)
      have hin := bt_in N (by omega) s hs256 hs t (by omega)
      have hv1 := LV_bd hR hN hin
      have hv2 := LV_bd hR hN hs
      have hG := G_bd hR hN (show t < 8 by omega) s
      refine ct_guessed hN (by omega) hs256 hn hnd (hz t (by omega)) (sg_Md_leastRow_49 ?_)
      rw [bt_or s hs256 t (by omega)]
      simp only [Int.toNat_natCast]
      rw [hf _ hin, hf _ hs, Int.add_comm]
      refine ⟨by omega, by omega, by omega, by omega, by omega, by omega, fun c => ?_, fun c => ?_⟩
      · rw [if_neg (fun q => c (tqP_iff.mp q).2)] at h1
        exact h1
      · rw [if_pos (tqP_iff.mpr ⟨hb, Classical.not_not.mp c⟩)] at h1
        exact h1
theorem lp_leastRow (hN : N ≤ 8) (hR : R9 nd) {a0 : Nat → Nat → Int} (hn : sc 177 = (N : Int)) (hnd : a0 179 = nd) (hz : ∀ t, t < N → nd (8 * t + t) = 0) (hf : ∀ u, u < 2 ^ N → a0 182 u = LV nd N u) {f : Nat → Int} (k : Q none (sc, up a0 188 (wr f (LO nd N) N))) : ∀ j p : Nat, p + j = N → Ev 2 M_Md_leastRow (9, [some (vO 11), some (vI (setR nd N p : Nat)), some (vI p), none, none], [], (sc, up a0 188 (wr f (LO nd N) p))) Q := by
  have h2 := bt_2 N (by omega)
  intro j
  induction j with
  | zero =>
    intro p hp
    have : p = N := by omega
    subst this
    exact sg_Md_leastRow_9 ⟨by omega, by omega, fun _ => k, fun c => by omega⟩
  | succ j ih =>
    intro p hp
    have h1 := ih (p + 1) (by omega)
    have hset := setR_ok hR hN p (by omega)
    have hlt := hset.2.2.1 (by omega)
    have htq := tq_ok hR hN hlt
    obtain ⟨t, t1, t2, t3⟩ := tq_ex hR hN hlt
    have elw : lw (tqP nd N (setR nd N p)) N N = (tq nd N (setR nd N p) : Int) := lw_ff N 0 (by omega) ⟨t, t1, by omega, t3⟩
    refine sg_Md_leastRow_9 ⟨by omega, by omega, fun c => by omega, fun _ => ?_⟩
    have := lp_leastRowI (sc := sc) (ar := up a0 188 (wr f (LO nd N) p)) (Q := Q) (p := p) hR hN hset.1 hn (by rw [up_ne _ _ (by decide)]; exact hnd) hz (by rw [up_ne _ _ (by decide)]; exact hf) (by omega) (by
      rw [elw, bt_or _ (by omega) _ (by omega)]
      simp only [up_eq, up_up]
      simp only [setR, wr] at h1
      exact h1) N 0 (by omega)
    simp only [lw] at this
    rw [hn]
    rw [show (N : Int) - 1 - ((0 : Nat) : Int) = (N : Int) - 1 by omega] at this
    exact this
theorem ct_leastRow (hR : R9 nd) (hN : N ≤ 8) (hn : sc 177 = (N : Int)) (hnd : ar 179 = nd) (hz : ∀ t, t < N → nd (8 * t + t) = 0) (k : ∀ f : Nat → Int, Q none (sc, up (up ar 182 f) 188 (wr (ar 188) (LO nd N) N))) : Ev (d + 2) M_Md_leastRow (0, [some (vO 11), none, none, none, none], [], (sc, ar)) Q := by
  refine Ev.deep (Nat.le_add_left 2 d) (sg_Md_leastRow_0 (ct_leastOf hR hN hn hnd hz (fun f hf => sg_Md_leastRow_4 ?_)))
  have := lp_leastRow (sc := sc) (Q := Q) (a0 := up ar 182 f) (f := ar 188) hN hR hn (by rw [up_ne _ _ (by decide)]; exact hnd) hz (by rw [up_eq]; exact hf) (k f) N 0 (by omega)
  simp only [setR, wr] at this
  rw [show up (up ar 182 f) 188 (ar 188) = up ar 182 f by
    rw [show ar 188 = up ar 182 f 188 from (up_ne _ _ (by decide)).symm, up_id]] at this
  exact this
/-! the told order's guess -/
theorem lp_guessI {od : Nat → Int} {p : Nat} (hN : N ≤ 8) (hn : sc 49 = (N : Int)) (hod : ar 48 = od) (hnd : ar 16 = nd) (ho : OD (N : Int) od) (hp : p < N) (base : Int) (k : Ev 2 M_Order_guessOf (4, [some (vO 3), some (vO 1), some (vI (base + sm (rowG nd od p) N)), some (vI ((p : Int) + 1)), none], [], (sc, ar)) Q) :
    ∀ j q : Nat, q + j = N → p < q → Ev 2 M_Order_guessOf (17, [some (vO 3), some (vO 1), some (vI (base + sm (rowG nd od p) q)), some (vI p), some (vI q)], [], (sc, ar)) Q := by
  intro j
  induction j with
  | zero =>
    intro q hq _
    have : q = N := by omega
    subst this
    exact sg_Order_guessOf_17 ⟨by omega, by omega, fun _ => k, fun c => by omega⟩
  | succ j ih =>
    intro q hq hpq
    have h1 := ih (q + 1) (by omega) (by omega)
    have o1 := ho.1 p (by omega)
    have o2 := ho.1 q (by omega)
    refine sg_Order_guessOf_17 ⟨by omega, by omega, fun c => by omega, fun _ => ct_taskAtT hn (by omega) (by omega) (sg_Order_guessOf_33 (ct_taskAtT hn (by omega) (by omega) (sg_Order_guessOf_39 (ct_getN (by rw [hod]; simp only [Int.toNat_natCast]; omega) (by rw [hod]; simp only [Int.toNat_natCast]; omega) (sg_Order_guessOf_42 ?_)))))⟩
    simp only [Int.toNat_natCast, hod, hnd]
    rw [show (8 * od p + od q).toNat = 8 * (od p).toNat + (od q).toNat by omega, Int.add_assoc]
    simp only [sm, rowG, if_pos hpq, ndo] at h1
    exact h1
theorem sm_low {f : Nat → Int} : ∀ n, (∀ i, i < n → f i = 0) → sm f n = 0
  | 0, _ => rfl
  | n + 1, h => by
    have := sm_low n (fun i hi => h i (by omega))
    have := h n (by omega)
    show sm f n + f n = 0
    omega
theorem lp_guess {od : Nat → Int} (hN : N ≤ 8) (hn : sc 49 = (N : Int)) (hod : ar 48 = od) (hnd : ar 16 = nd) (ho : OD (N : Int) od) (k : Q (some (vI (GS nd od N))) (sc, ar)) : ∀ j p : Nat, p + j = N → Ev 2 M_Order_guessOf (4, [some (vO 3), some (vO 1), some (vI (sm (fun p => sm (rowG nd od p) N) p)), some (vI p), none], [], (sc, ar)) Q := by
  intro j
  induction j with
  | zero =>
    intro p hp
    have : p = N := by omega
    subst this
    exact sg_Order_guessOf_4 ⟨by omega, by omega, fun _ => k, fun c => by omega⟩
  | succ j ih =>
    intro p hp
    have h1 := ih (p + 1) (by omega)
    refine sg_Order_guessOf_4 ⟨by omega, by omega, fun c => by omega, fun _ => ?_⟩
    have := lp_guessI hN hn hod hnd ho (show p < N by omega) (sm (fun p => sm (rowG nd od p) N) p) h1 (N - (p + 1)) (p + 1) (by omega) (by omega)
    rw [sm_low (f := rowG nd od p) (p + 1) (fun i hi => by unfold rowG; rw [if_neg (by omega)]), Int.add_zero] at this
    exact this
theorem ct_guessOf {od : Nat → Int} (hN : N ≤ 8) (hn : sc 49 = (N : Int)) (hod : ar 48 = od) (hnd : ar 16 = nd) (ho : OD (N : Int) od) (k : Q (some (vI (GS nd od N))) (sc, ar)) : Ev (d + 2) M_Order_guessOf (0, [some (vO 3), some (vO 1), none, none, none], [], (sc, ar)) Q :=
  Ev.deep (Nat.le_add_left 2 d) (sg_Order_guessOf_0 (lp_guess hN hn hod hnd ho k N 0 (by omega)))
theorem lp_guessM {tm ch od : Nat → Int} (hV : VV N tm nd ch od) (hn : sc 177 = (N : Int)) (hod : ar 181 = od) (hnd : ar 179 = nd) (k : Q (some (vI (GS nd od N))) (sc, ar)) : ∀ j p : Nat, p + j = N → Ev 1 M_Md_guessOf (6, [some (vO 11), some (vI (sm (fun p => G nd N (od p).toNat (setO od p)) p)), some (vI (setO od p : Nat)), some (vI p)], [], (sc, ar)) Q := by
  have hG := GS_eq hV
  obtain ⟨hN, -, -, hR, hz, -, -, ho⟩ := hV
  intro j
  induction j with
  | zero =>
    intro p hp
    have : p = N := by omega
    subst this
    refine sg_Md_guessOf_6 ⟨by omega, by omega, fun _ => ?_, fun c => by omega⟩
    rw [hG]
    exact k
  | succ j ih =>
    intro p hp
    have h1 := ih (p + 1) (by omega)
    have o1 := ho.1 p (by omega)
    have hs := (setO_ok hN ho p (by omega)).1
    refine sg_Md_guessOf_6 ⟨by omega, by omega, fun c => by omega, fun _ => ⟨by omega, by omega, ?_⟩⟩
    rw [hod, Int.toNat_natCast]
    obtain ⟨t, ht⟩ : ∃ t : Nat, t = (od p).toNat := ⟨_, rfl⟩
    rw [show od p = (t : Int) by omega]
    refine ct_guessed hN (by omega) hs hn hnd (hz t t (by omega) (by omega) (Or.inr (Or.inr rfl))) (sg_Md_guessOf_26 ⟨by omega, by omega, ?_⟩)
    rw [hod, Int.toNat_natCast, show od p = (t : Int) by omega, bt_or _ hs _ (by omega)]
    simp only [sm, setO] at h1
    rw [← ht] at h1
    exact h1
theorem ct_guessM {tm ch od : Nat → Int} (hV : VV N tm nd ch od) (hn : sc 177 = (N : Int)) (hod : ar 181 = od) (hnd : ar 179 = nd) (k : Q (some (vI (GS nd od N))) (sc, ar)) : Ev (d + 1) M_Md_guessOf (0, [some (vO 11), none, none, none], [], (sc, ar)) Q :=
  Ev.deep (Nat.le_add_left 1 d) (sg_Md_guessOf_0 (lp_guessM hV hn hod hnd k N 0 (by omega)))
/-! a task's place -/
theorem lp_placeOf {od : Nat → Int} {t : Int} {p : Nat} (hN : N ≤ 8) (hn : sc 49 = (N : Int)) (hod : ar 48 = od) (ho : OD (N : Int) od) (ht : inR t) (hp : p < N) (he : od p = t) (k : Q (some (vI p)) (sc, ar)) : ∀ j i : Nat, i + j = N → i ≤ p → Ev 0 M_Order_placeOf (2, [some (vO 3), some (vI t), some (vI i)], [], (sc, ar)) Q := by
  intro j
  induction j with
  | zero => intro i hi hp; omega
  | succ j ih =>
    intro i hi hip
    have o1 := ho.1 i (by omega)
    refine sg_Order_placeOf_2 ⟨by omega, by omega, fun c => by omega, fun _ => ⟨by omega, fun c => by omega, fun _ => ⟨by omega, by omega, by rw [hod, Int.toNat_natCast]; omega, ht, fun c => ?_, fun c => ?_⟩⟩⟩
    · rw [hod, Int.toNat_natCast] at c
      have : i ≠ p := fun e => c (by rw [e]; exact he)
      exact ih (i + 1) (by omega) (by omega)
    · rw [hod, Int.toNat_natCast] at c
      have : i = p := ho.2 i p (by omega) (by omega) ((Classical.not_not.mp c).trans he.symm)
      subst this
      exact k
theorem ct_placeOf {od : Nat → Int} {t : Int} {p : Nat} (hN : N ≤ 8) (hn : sc 49 = (N : Int)) (hod : ar 48 = od) (ho : OD (N : Int) od) (ht : inR t) (hp : p < N) (he : od p = t) (k : Q (some (vI p)) (sc, ar)) : Ev d M_Order_placeOf (0, [some (vO 3), some (vI t), none], [], (sc, ar)) Q :=
  Ev.deep (Nat.zero_le d) (sg_Order_placeOf_0 (lp_placeOf hN hn hod ho ht hp he k N 0 (by omega) (by omega)))
theorem lp_placeM {od : Nat → Int} {t : Int} {p : Nat} (hN : N ≤ 8) (hn : sc 177 = (N : Int)) (hod : ar 181 = od) (ho : OD (N : Int) od) (ht : inR t) (hp : p < N) (he : od p = t) (k : Q (some (vI p)) (sc, ar)) : ∀ j i : Nat, i + j = N → ∀ x : Int, (p < i → x = p) → Ev 0 M_Md_placeOf (4, [some (vO 11), some (vI t), some (vI x), some (vI i)], [], (sc, ar)) Q := by
  intro j
  induction j with
  | zero =>
    intro i hi x hx
    have : i = N := by omega
    subst this
    have := hx hp
    subst this
    exact sg_Md_placeOf_4 ⟨by omega, by omega, fun _ => k, fun c => by omega⟩
  | succ j ih =>
    intro i hi x hx
    have o1 := ho.1 i (by omega)
    refine sg_Md_placeOf_4 ⟨by omega, by omega, fun c => by omega, fun _ => ⟨by omega, by omega, by rw [hod, Int.toNat_natCast]; omega, ht, fun c => ?_, fun c => ?_⟩⟩
    · rw [hod, Int.toNat_natCast] at c
      have : i ≠ p := fun e => c (by rw [e]; exact he)
      exact ih (i + 1) (by omega) x (fun h => hx (by omega))
    · rw [hod, Int.toNat_natCast] at c
      have : i = p := ho.2 i p (by omega) (by omega) ((Classical.not_not.mp c).trans he.symm)
      subst this
      exact ih (i + 1) (by omega) i (fun h => rfl)
theorem ct_placeM {od : Nat → Int} {t : Int} {p : Nat} (hN : N ≤ 8) (hn : sc 177 = (N : Int)) (hod : ar 181 = od) (ho : OD (N : Int) od) (ht : inR t) (hp : p < N) (he : od p = t) (k : Q (some (vI p)) (sc, ar)) : Ev d M_Md_placeOf (0, [some (vO 11), some (vI t), none, none], [], (sc, ar)) Q :=
  Ev.deep (Nat.zero_le d) (sg_Md_placeOf_0 (lp_placeM hN hn hod ho ht hp he k N 0 (by omega) 0 (fun h => by omega)))
end LEASTM
end
section
/-! BESIDE one another; rows filled -/
section BESIDE
variable {sc : Nat → Int} {ar : Nat → Nat → Int} {Q : Option mV → mH → Prop} {d : Nat} {N : Nat} {tm nd ch od : Nat → Int}
theorem lp_fillI {a n : Nat} (ha : aK a = 0) (h9 : a ≠ 999) (hl : ∀ (s : Nat → Int) (r : Nat → Nat → Int), mLen (s, r) a = (n : Int)) (hn : n < 1000) (f : Nat → Int) (v : Int) (k : Q none (sc, up ar a (wr f (fun _ => v) n))) : ∀ j i : Nat, i + j = n → Ev 0 M_Arr_fillI (5, [some (vA a), some (vI v), some (vI i), some (vI n)], [], (sc, up ar a (wr f (fun _ => v) i))) Q := by
  intro j
  induction j with
  | zero =>
    intro i hi
    have : i = n := by omega
    subst this
    exact sg_Arr_fillI_5 ⟨by omega, by omega, fun _ => k, fun c => by omega⟩
  | succ j ih =>
    intro i hi
    have h1 := ih (i + 1) (by omega)
    refine sg_Arr_fillI_5 ⟨by omega, by omega, fun c => by omega, fun _ => ⟨ha, h9, by omega, by rw [hl]; omega, ?_⟩⟩
    simp only [up_eq, up_up, Int.toNat_natCast]
    simp only [wr] at h1
    exact h1
theorem ct_fillI {a n : Nat} (ha : aK a = 0) (h9 : a ≠ 999) (hl : ∀ (s : Nat → Int) (r : Nat → Nat → Int), mLen (s, r) a = (n : Int)) (hn : n < 1000) (v : Int) (k : Q none (sc, up ar a (wr (ar a) (fun _ => v) n))) : Ev d M_Arr_fillI (0, [some (vA a), some (vI v), none, none], [], (sc, ar)) Q := by
  refine Ev.deep (Nat.zero_le d) (sg_Arr_fillI_0 ⟨by omega, ?_⟩)
  have := lp_fillI ha h9 hl hn (ar a) v k n 0 (by omega)
  simp only [wr, up_id] at this
  rw [hl]
  exact this
theorem lp_fillL {a n : Nat} (ha : aK a = 1) (h9 : a ≠ 999) (hl : ∀ (s : Nat → Int) (r : Nat → Nat → Int), mLen (s, r) a = (n : Int)) (hn : n < 1000) (f : Nat → Int) (v : Int) (k : Q none (sc, up ar a (wr f (fun _ => v) n))) : ∀ j i : Nat, i + j = n → Ev 0 M_Arr_fillL (6, [some (vA a), some (vL v), none, some (vI i), some (vI n)], [], (sc, up ar a (wr f (fun _ => v) i))) Q := by
  intro j
  induction j with
  | zero =>
    intro i hi
    have : i = n := by omega
    subst this
    exact sg_Arr_fillL_6 ⟨by omega, by omega, fun _ => k, fun c => by omega⟩
  | succ j ih =>
    intro i hi
    have h1 := ih (i + 1) (by omega)
    refine sg_Arr_fillL_6 ⟨by omega, by omega, fun c => by omega, fun _ => ⟨ha, h9, by omega, by rw [hl]; omega, ?_⟩⟩
    simp only [up_eq, up_up, Int.toNat_natCast]
    simp only [wr] at h1
    exact h1
theorem ct_fillL {a n : Nat} (ha : aK a = 1) (h9 : a ≠ 999) (hl : ∀ (s : Nat → Int) (r : Nat → Nat → Int), mLen (s, r) a = (n : Int)) (hn : n < 1000) (v : Int) (k : Q none (sc, up ar a (wr (ar a) (fun _ => v) n))) : Ev d M_Arr_fillL (0, [some (vA a), some (vL v), none, none, none], [], (sc, ar)) Q := by
  refine Ev.deep (Nat.zero_le d) (sg_Arr_fillL_0 ⟨by omega, ?_⟩)
  have := lp_fillL ha h9 hl hn (ar a) v k n 0 (by omega)
  simp only [wr, up_id] at this
  rw [hl]
  exact this
def mxB (nd od : Nat → Int) (E : Nat → Int) (p : Nat) : Nat → Int
  | 0 => 0
  | q + 1 => if ndo nd od p q ≤ 0 then mxB nd od E p q else if mxB nd od E p q < E q then E q else mxB nd od E p q
def EB (tm nd od : Nat → Int) : Nat → Nat → Int
  | 0 => fun _ => 0
  | p + 1 => up (EB tm nd od p) p (mxB nd od (EB tm nd od p) p p + tm (od p).toNat)
def mxF (f : Nat → Int) : Nat → Int
  | 0 => 0
  | i + 1 => if mxF f i < f i then f i else mxF f i
theorem mxB_congr {E E2 : Nat → Int} {p : Nat} : ∀ n, (∀ q, q < n → E q = E2 q) → mxB nd od E p n = mxB nd od E2 p n
  | 0, _ => rfl
  | n + 1, h => by
    simp only [mxB]
    rw [mxB_congr n (fun q hq => h q (by omega)), h n (by omega)]
theorem mxF_congr {E E2 : Nat → Int} : ∀ n, (∀ q, q < n → E q = E2 q) → mxF E n = mxF E2 n
  | 0, _ => rfl
  | n + 1, h => by
    simp only [mxF]
    rw [mxF_congr n (fun q hq => h q (by omega)), h n (by omega)]
theorem mxB_bd {E : Nat → Int} {p : Nat} {b : Int} (hb : 0 ≤ b) : ∀ n, (∀ q, q < n → 0 ≤ E q ∧ E q ≤ b) → 0 ≤ mxB nd od E p n ∧ mxB nd od E p n ≤ b
  | 0, _ => ⟨Int.le_refl _, hb⟩
  | n + 1, h => by
    have := mxB_bd (p := p) hb n (fun q hq => h q (by omega))
    have := h n (by omega)
    simp only [mxB]
    split
    · omega
    · split <;> omega
theorem mxF_bd {E : Nat → Int} {b : Int} (hb : 0 ≤ b) : ∀ n, (∀ q, q < n → 0 ≤ E q ∧ E q ≤ b) → 0 ≤ mxF E n ∧ mxF E n ≤ b
  | 0, _ => ⟨Int.le_refl _, hb⟩
  | n + 1, h => by
    have := mxF_bd hb n (fun q hq => h q (by omega))
    have := h n (by omega)
    simp only [mxF]
    split <;> omega
theorem mxF_ge {E : Nat → Int} : ∀ n, 0 ≤ mxF E n
  | 0 => Int.le_refl _
  | n + 1 => by
    have := mxF_ge (E := E) n
    simp only [mxF]
    split <;> omega
theorem mxF_more {E : Nat → Int} {n : Nat} : ∀ m, n ≤ m → (∀ q, n ≤ q → q < m → E q = 0) → mxF E m = mxF E n
  | 0, h, _ => by
    have : n = 0 := by omega
    subst this
    rfl
  | m + 1, h, z => by
    by_cases e : n = m + 1
    · rw [e]
    · simp only [mxF]
      rw [mxF_more m (by omega) (fun q h1 h2 => z q h1 (by omega)), z m (by omega) (by omega), if_neg]
      have := mxF_ge (E := E) n
      omega
theorem EB_zero : ∀ p i, p ≤ i → EB tm nd od p i = 0
  | 0, i, _ => rfl
  | p + 1, i, h => by
    simp only [EB]
    rw [up_ne _ _ (by omega)]
    exact EB_zero p i (by omega)
theorem EB_keep {q : Nat} : ∀ p, q < p → EB tm nd od p q = EB tm nd od (q + 1) q
  | 0, h => by omega
  | p + 1, h => by
    by_cases e : q = p
    · subst e; rfl
    · have : EB tm nd od (p + 1) q = EB tm nd od p q := by
        simp only [EB]
        exact up_ne _ _ e
      rw [this]
      exact EB_keep p (by omega)
/-- the end of the task at a place -/
def EF (tm nd od : Nat → Int) (p : Nat) : Int := EB tm nd od (p + 1) p
theorem EF_of {p q : Nat} (h : q < p) : EB tm nd od p q = EF tm nd od q := EB_keep p h
theorem EF_rec (p : Nat) : EF tm nd od p = mxB nd od (EF tm nd od) p p + tm (od p).toNat := by
  show EB tm nd od (p + 1) p = _
  simp only [EB]
  rw [up_eq, mxB_congr p (fun q hq => EF_of hq)]
theorem EF_bd (hV : VV N tm nd ch od) : ∀ n, n ≤ N → ∀ p, p < n → 0 ≤ EF tm nd od p ∧ EF tm nd od p ≤ 20 * (p + 1 : Nat) := by
  obtain ⟨hN, ht, -, hR, hz, -, -, ho⟩ := hV
  intro n
  induction n with
  | zero => intro _ p h; omega
  | succ n ih =>
    intro hn p hp
    by_cases e : p = n
    · subst e
      have o1 := ho.1 p (by omega)
      have t1 := ht (od p).toNat (by omega)
      have := mxB_bd (nd := nd) (od := od) (E := EF tm nd od) (p := p) (b := 20 * (p : Nat)) (by omega) p (fun q hq => by
        have := ih (by omega) q (by omega)
        omega)
      rw [EF_rec]
      omega
    · exact ih (by omega) p (by omega)
theorem lp_bReckonI {p : Nat} (hV : VV N tm nd ch od) (hI : IX N tm nd ch od sc ar) (hp : p < N) (hg : ∀ q, q < p → ar 128 q = EF tm nd od q) (k : ∀ x7 : Int, Ev 2 M_Beside_reckon (11, [some (vO 8), some (vO 3), some (vO 1), some (vA 0), some (vI ((p : Int) + 1)), none, none, none], [], (sc, up ar 128 (up (ar 128) p (EF tm nd od p)))) Q) :
    ∀ j q : Nat, q + j = p → Ev 2 M_Beside_reckon (41, [some (vO 8), some (vO 3), some (vO 1), some (vA 0), some (vI p), some (vI (od p)), some (vI (mxB nd od (EF tm nd od) p q)), some (vI q)], [], (sc, ar)) Q := by
  obtain ⟨hN, ht, -, hR, hz, -, -, ho⟩ := id hV
  obtain ⟨i1, i2, i3, i4, i5, i6⟩ := hI
  have o1 := ho.1 p (by omega)
  have hb := EF_bd hV N (Nat.le_refl _)
  intro j
  induction j with
  | zero =>
    intro q hq
    have : q = p := by omega
    subst this
    have hl : mLen (sc, ar) 0 = 8 := rfl
    refine sg_Beside_reckon_41 ⟨by omega, by omega, fun _ => ct_valueOf rfl (by omega) (by rw [hl]; omega) (by rw [hl]; omega) (sg_Beside_reckon_97 ⟨by omega, by omega, ?_⟩), fun c => by omega⟩
    rw [i3, Int.toNat_natCast, ← EF_rec]
    exact k 0
  | succ j ih =>
    intro q hq
    have h1 := ih (q + 1) (by omega)
    have o2 := ho.1 q (by omega)
    have b1 := hb q (by omega)
    have b2 := mxB_bd (nd := nd) (od := od) (E := EF tm nd od) (p := p) (b := 200) (by omega) q (fun r hr => by
      have := hb r (by omega)
      omega)
    have hnr : 0 ≤ ndo nd od p q ∧ ndo nd od p q ≤ 9 := hR.at (show (od p).toNat < 8 by omega) (show (od q).toNat < 8 by omega)
    refine sg_Beside_reckon_41 ⟨by omega, by omega, fun c => by omega, fun _ => ct_taskAtT i2 (by omega) (by omega) (sg_Beside_reckon_57 (ct_getN (by omega) (by rw [i6, Int.toNat_natCast]; omega) (sg_Beside_reckon_60 ?_)))⟩
    rw [i6, i4, Int.toNat_natCast, show (8 * od p + od q).toNat = 8 * (od p).toNat + (od q).toNat by omega, hg q (by omega), show nd (8 * (od p).toNat + (od q).toNat) = ndo nd od p q from rfl]
    simp only [mxB] at h1
    refine ⟨by omega, fun c => ?_, fun c => ⟨by omega, by omega, by omega, by omega, ?_⟩⟩
    · rw [if_pos c] at h1
      exact h1
    · rw [if_neg c] at h1
      exact h1
theorem lp_bReckon {a0 : Nat → Nat → Int} (hV : VV N tm nd ch od) (hI : IX N tm nd ch od sc a0) (k : ∀ g : Nat → Int, (∀ i, i < 8 → g i = EB tm nd od N i) → Q none (sc, up a0 128 g)) : ∀ j p : Nat, p + j = N → ∀ g : Nat → Int, (∀ i, i < 8 → g i = EB tm nd od p i) → Ev 2 M_Beside_reckon (11, [some (vO 8), some (vO 3), some (vO 1), some (vA 0), some (vI p), none, none, none], [], (sc, up a0 128 g)) Q := by
  obtain ⟨hN, ht, -, hR, hz, -, -, ho⟩ := id hV
  have hI2 : ∀ g, IX N tm nd ch od sc (up a0 128 g) := fun g => hI.pe (Pe.rf.a 128 g)
  obtain ⟨i1, i2, i3, i4, i5, i6⟩ := id hI
  intro j
  induction j with
  | zero =>
    intro p hp g hg
    have : p = N := by omega
    subst this
    refine sg_Beside_reckon_11 (ct_lengthT (sg_Beside_reckon_17 ⟨by omega, by omega, fun _ => k g hg, fun c => by omega⟩))
  | succ j ih =>
    intro p hp g hg
    have j6 := (hI2 g).2.2.2.2.2
    refine sg_Beside_reckon_11 (ct_lengthT (sg_Beside_reckon_17 ⟨by omega, by omega, fun c => by omega, fun _ => ⟨by omega, fun c => by omega, fun _ => ct_taskAtT i2 (by omega) (by omega) (sg_Beside_reckon_33 ?_)⟩⟩))
    rw [j6, Int.toNat_natCast]
    refine lp_bReckonI (p := p) hV (hI2 g) (by omega) (fun q hq => by rw [up_eq, hg q (by omega)]; exact EF_of hq) (fun _ => ?_) p 0 (by omega)
    rw [up_eq, up_up]
    refine ih (p + 1) (by omega) _ (fun i hi => ?_)
    simp only [EB]
    by_cases e : i = p
    · subst e
      rw [up_eq, up_eq, mxB_congr i (fun q hq => EF_of hq), EF_rec]
    · rw [up_ne _ _ e, up_ne _ _ e]
      exact hg i hi
theorem ct_bReckon (hV : VV N tm nd ch od) (hI : IX N tm nd ch od sc ar) (k : ∀ g : Nat → Int, (∀ p, p < N → g p = EF tm nd od p) → (∀ p, N ≤ p → p < 8 → g p = 0) → Q none (sc, up ar 128 g)) : Ev (d + 2) M_Beside_reckon (0, [some (vO 8), some (vO 3), some (vO 1), some (vA 0), none, none, none, none], [], (sc, ar)) Q := by
  refine Ev.deep (Nat.le_add_left 2 d) (sg_Beside_reckon_0 (ct_fillI (n := 8) rfl (by decide) (fun _ _ => rfl) (by decide) 0 (sg_Beside_reckon_8 ?_)))
  exact lp_bReckon hV hI (fun g hg => k g (fun p hp => (hg p (by have := hV.1; omega)).trans (EF_of hp)) (fun p hp h8 => (hg p h8).trans (EB_zero N p hp))) N 0 (by omega) _ (fun i hi => by
    rw [wr_at, if_pos hi]
    rfl)
theorem lp_latest {g : Nat → Int} (hg : ar 128 = g) (hb : ∀ i, i < 8 → 0 ≤ g i ∧ g i ≤ 200) (k : Q (some (vI (mxF g 8))) (sc, ar)) : ∀ j i : Nat, i + j = 8 → Ev 0 M_Beside_latest (13, [some (vO 8), some (vI (mxF g i)), some (vA 128), some (vI 8), some (vI i), none], [], (sc, ar)) Q := by
  intro j
  induction j with
  | zero =>
    intro i hi
    have : i = 8 := by omega
    subst this
    exact sg_Beside_latest_13 ⟨by omega, by omega, fun _ => k, fun c => by omega⟩
  | succ j ih =>
    intro i hi
    have h1 := ih (i + 1) (by omega)
    have b1 := hb i (by omega)
    have b2 := mxF_bd (E := g) (b := 200) (by omega) i (fun q hq => hb q (by omega))
    refine sg_Beside_latest_13 ⟨by omega, by omega, fun c => by omega, fun _ => ⟨by omega, by omega, by omega, by rw [hg, Int.toNat_natCast]; omega, ?_⟩⟩
    rw [hg, Int.toNat_natCast]
    simp only [mxF] at h1
    exact h1
theorem ct_latest {g : Nat → Int} (hg : ar 128 = g) (hb : ∀ i, i < 8 → 0 ≤ g i ∧ g i ≤ 200) (k : Q (some (vI (mxF g 8))) (sc, ar)) : Ev d M_Beside_latest (0, [some (vO 8), none, none, none, none, none], [], (sc, ar)) Q :=
  Ev.deep (Nat.zero_le d) (sg_Beside_latest_0 (lp_latest hg hb k 8 0 (by omega)))
/-! the reference -/
theorem lp_besideMI {p : Nat} {a0 : Nat → Nat → Int} {g : Nat → Int} {x1 : Int} (hV : VV N tm nd ch od) (hI : IM N tm nd ch od sc a0) (hp : p < N) (hx : inR x1) (hg : ∀ q, q < p → g (od q).toNat = EF tm nd od q) (k : Ev 0 M_Md_beside (4, [some (vO 11), some (vI (if x1 < EF tm nd od p then EF tm nd od p else x1)), some (vI ((p : Int) + 1)), none, none, none], [], (sc, up a0 187 (up g (od p).toNat (EF tm nd od p)))) Q) :
    ∀ j q : Nat, q + j = p → Ev 0 M_Md_beside (25, [some (vO 11), some (vI x1), some (vI p), some (vI (od p)), some (vI (mxB nd od (EF tm nd od) p q)), some (vI q)], [], (sc, up a0 187 g)) Q := by
  obtain ⟨hN, ht, -, hR, hz, -, -, ho⟩ := id hV
  obtain ⟨i1, i3, i4, i5, i6⟩ := hI.pe (Pe.rf.a 187 g)
  have o1 := ho.1 p (by omega)
  have hb := EF_bd hV N (Nat.le_refl _)
  intro j
  induction j with
  | zero =>
    intro q hq
    have : q = p := by omega
    subst this
    have b1 := hb q (by omega)
    have e : mxB nd od (EF tm nd od) q q + tm (od q).toNat = EF tm nd od q := (EF_rec q).symm
    refine sg_Md_beside_25 ⟨by omega, by omega, fun _ => ?_, fun c => by omega⟩
    simp only [up_eq, up_up]
    rw [i3, e]
    refine ⟨by omega, by omega, by omega, by omega, by omega, by omega, by omega, hx, fun c => ?_, fun c => ⟨by omega, by omega, ?_⟩⟩
    · rw [if_neg (by omega)] at k
      exact k
    · rw [if_pos (by omega)] at k
      exact k
  | succ j ih =>
    intro q hq
    have h1 := ih (q + 1) (by omega)
    have o2 := ho.1 q (by omega)
    have b1 := hb q (by omega)
    have b2 := mxB_bd (nd := nd) (od := od) (E := EF tm nd od) (p := p) (b := 200) (by omega) q (fun r hr => by
      have := hb r (by omega)
      omega)
    have hnr : 0 ≤ ndo nd od p q ∧ ndo nd od p q ≤ 9 := hR.at (show (od p).toNat < 8 by omega) (show (od q).toNat < 8 by omega)
    refine sg_Md_beside_25 ⟨by omega, by omega, fun c => by omega, fun _ => ?_⟩
    rw [i6, i4, Int.toNat_natCast, show (8 * od p + od q).toNat = 8 * (od p).toNat + (od q).toNat by omega, up_eq, hg q (by omega), show nd (8 * (od p).toNat + (od q).toNat) = ndo nd od p q from rfl]
    simp only [mxB] at h1
    refine ⟨by omega, by omega, by omega, by omega, by omega, fun c => ?_, fun c => ⟨by omega, by omega, by omega, by omega, by omega, by omega, fun c2 => ?_, fun c2 => ⟨by omega, by omega, by omega, by omega, ?_⟩⟩⟩
    · rw [if_pos c] at h1
      exact h1
    · rw [if_neg c, if_neg (by omega)] at h1
      exact h1
    · rw [if_neg c, if_pos (by omega)] at h1
      exact h1
theorem lp_besideM {a0 : Nat → Nat → Int} (hV : VV N tm nd ch od) (hI : IM N tm nd ch od sc a0) (k : ∀ g : Nat → Int, (∀ p, p < N → g (od p).toNat = EF tm nd od p) → Q (some (vI (mxF (EF tm nd od) N))) (sc, up a0 187 g)) : ∀ j p : Nat, p + j = N → ∀ g : Nat → Int, (∀ q, q < p → g (od q).toNat = EF tm nd od q) → Ev 0 M_Md_beside (4, [some (vO 11), some (vI (mxF (EF tm nd od) p)), some (vI p), none, none, none], [], (sc, up a0 187 g)) Q := by
  obtain ⟨hN, ht, -, hR, hz, -, -, ho⟩ := id hV
  have hb := EF_bd hV N (Nat.le_refl _)
  intro j
  induction j with
  | zero =>
    intro p hp g hg
    have : p = N := by omega
    subst this
    have i1 := hI.1
    exact sg_Md_beside_4 ⟨by omega, by omega, fun _ => k g hg, fun c => by omega⟩
  | succ j ih =>
    intro p hp g hg
    obtain ⟨i1, i3, i4, i5, i6⟩ := hI.pe (Pe.rf.a 187 g)
    have b2 := mxF_bd (E := EF tm nd od) (b := 200) (by omega) p (fun q hq => by
      have := hb q (by omega)
      omega)
    refine sg_Md_beside_4 ⟨by omega, by omega, fun c => by omega, fun _ => ⟨by omega, by omega, ?_⟩⟩
    rw [i6, Int.toNat_natCast]
    refine lp_besideMI hV hI (by omega) (by omega) hg ?_ p 0 (by omega)
    have := ih (p + 1) (by omega) (up g (od p).toNat (EF tm nd od p)) (fun q hq => by
      by_cases e : q = p
      · subst e
        rw [up_eq]
      · have o1 := ho.1 p (by omega)
        have o2 := ho.1 q (by omega)
        rw [up_ne _ _ (fun w => e (ho.2 q p (by omega) (by omega) (by omega)))]
        exact hg q (by omega))
    simp only [mxF] at this
    exact this
theorem ct_besideM (hV : VV N tm nd ch od) (hI : IM N tm nd ch od sc ar) (k : ∀ g : Nat → Int, (∀ p, p < N → g (od p).toNat = EF tm nd od p) → Q (some (vI (mxF (EF tm nd od) N))) (sc, up ar 187 g)) : Ev d M_Md_beside (0, [some (vO 11), none, none, none, none, none], [], (sc, ar)) Q := by
  refine Ev.deep (Nat.zero_le d) (sg_Md_beside_0 ?_)
  have := lp_besideM hV hI k N 0 (by omega) (ar 187) (fun q hq => by omega)
  rw [up_id] at this
  exact this
end BESIDE
end
section
/-! GOING BACK: the numbers of the mean, and least terms -/
def gc : Nat → Int → Int → Int
  | 0, x, _ => x
  | n + 1, x, y => if y = 0 then x else gc n y (x.tmod y)
def gD : Nat → Int → Int → Prop
  | 0, _, y => y = 0
  | n + 1, x, y => y = 0 ∨ gD n y (x.tmod y)
theorem tmod_lt {x y : Int} (hx : 0 ≤ x) (hy : 0 < y) : 0 ≤ x.tmod y ∧ x.tmod y < y ∧ x.tmod y ≤ x := by
  refine ⟨Int.tmod_nonneg _ hx, Int.tmod_lt_of_pos _ hy, ?_⟩
  rw [Int.tmod_eq_emod_of_nonneg hx]
  have h1 := Int.emod_add_mul_ediv x y
  have h2 : 0 ≤ x / y := Int.ediv_nonneg hx (by omega)
  have h3 : 0 ≤ y * (x / y) := Int.mul_nonneg (by omega) h2
  omega
theorem tmod_half {x y : Int} (hx : 0 ≤ x) (hy : 0 < y) (h : y ≤ x) : 2 * x.tmod y < x := by
  have h1 := tmod_lt hx hy
  rw [Int.tmod_eq_emod_of_nonneg hx] at h1 ⊢
  have h2 := Int.emod_add_mul_ediv x y
  have h3 : 1 ≤ x / y := by
    rw [Int.le_ediv_iff_mul_le hy]
    omega
  have h4 : y * 1 ≤ y * (x / y) := Int.mul_le_mul_of_nonneg_left h3 (by omega)
  omega
theorem gD_le : ∀ (n : Nat) (x y : Int), gD n x y → gD (n + 1) x y
  | 0, x, y, h => Or.inl h
  | n + 1, x, y, h => h.elim Or.inl (fun q => Or.inr (gD_le n _ _ q))
theorem gD_ok : ∀ (k : Nat) (x y : Int), 0 ≤ x → 0 ≤ y → y < (2 ^ k : Nat) → gD (2 * k) x y
  | 0, x, y, _, h0, h => by
    show y = 0
    simp at h
    omega
  | k + 1, x, y, hx, h0, h => by
    show gD (2 * k + 2) x y
    by_cases e : y = 0
    · exact Or.inl e
    · refine Or.inr ?_
      have h1 := tmod_lt hx (show 0 < y by omega)
      by_cases e2 : x.tmod y = 0
      · exact Or.inl e2
      · refine Or.inr ?_
        have h2 := tmod_lt h0 (show 0 < x.tmod y by omega)
        have h3 := tmod_half h0 (show 0 < x.tmod y by omega) (by omega)
        refine gD_ok k _ _ h1.1 h2.1 ?_
        have : (2 ^ (k + 1) : Nat) = 2 * 2 ^ k := by rw [Nat.pow_succ]; omega
        rw [this] at h
        generalize 2 ^ k = u at h ⊢
        omega
theorem gc_pos : ∀ (n : Nat) (x y : Int), 0 ≤ x → 0 ≤ y → (0 < x ∨ 0 < y) → gD n x y → 0 < gc n x y
  | 0, x, y, hx, hy, h, hd => by
    have : y = 0 := hd
    show 0 < x
    omega
  | n + 1, x, y, hx, hy, h, hd => by
    simp only [gc]
    by_cases e : y = 0
    · rw [if_pos e]; omega
    · rw [if_neg e]
      exact gc_pos n _ _ hy (tmod_lt hx (by omega)).1 (Or.inl (by omega)) (hd.resolve_left e)
theorem gc_le {b : Int} : ∀ (n : Nat) (x y : Int), 0 ≤ x → 0 ≤ y → x ≤ b → y ≤ b → gc n x y ≤ b
  | 0, x, y, _, _, h, _ => h
  | n + 1, x, y, hx, hy, h1, h2 => by
    simp only [gc]
    split
    · exact h1
    · have := tmod_lt hx (show 0 < y by omega)
      exact gc_le n _ _ hy this.1 h2 (by omega)
/-- a fraction in least terms, above or below -/
def toldF (a b u : Int) : Int := if u = 0 then b.tdiv (gc 80 a b) else a.tdiv (gc 80 a b)
section GCD
variable {sc : Nat → Int} {ar : Nat → Nat → Int} {Q : Option mV → mH → Prop} {d : Nat}
theorem lp_cd {a0 b0 : Int} : ∀ (n : Nat) (x y : Int) (s : Int), 0 ≤ s → s + n ≤ 100 → gD n x y → 0 ≤ x → 0 ≤ y → x < 1000000000000 → y < 1000000000000 → Q (some (vL (gc n x y))) (sc, ar) → Ev 0 M_Dt_commonDivisor (9, [some (vL a0), none, some (vL b0), none, some (vL x), none, some (vL y), none, some (vI s), none, none], [], (sc, ar)) Q
  | 0, x, y, s, h0, hs, hd, hx, hy, bx, b_y, k => by
    have hd : y = 0 := hd
    exact sg_Dt_commonDivisor_9 ⟨by omega, fun _ => k, fun _ => ⟨by omega, fun _ => k, fun c => absurd hd c⟩⟩
  | n + 1, x, y, s, h0, hs, hd, hx, hy, bx, b_y, k => by
    simp only [gc] at k
    refine sg_Dt_commonDivisor_9 ⟨by omega, fun c => by omega, fun _ => ⟨by omega, fun c => ?_, fun c => ⟨by omega, by omega, by omega, ?_⟩⟩⟩
    · rw [if_pos c] at k
      exact k
    · rw [if_neg c] at k
      have h1 := tmod_lt hx (show 0 < y by omega)
      exact lp_cd n y (x.tmod y) (s + 1) (by omega) (by omega) (hd.resolve_left c) hy h1.1 b_y (by omega) k
theorem gD80 {x y : Int} (hx : 0 ≤ x) (hy : 0 ≤ y) (h : y < 1000000000000) : gD 80 x y := gD_ok 40 x y hx hy (by
  have : (2 ^ 40 : Nat) = 1099511627776 := by decide +kernel
  rw [this]
  omega)
theorem ct_inLeast {a b u : Int} (ha : 0 ≤ a ∧ a < 1000000000000) (hb : 0 < b ∧ b < 1000000000000) (hu : inR u) (k : Q (some (vL (toldF a b u))) (sc, ar)) : Ev (d + 1) M_Dt_inLeastTerms (0, [some (vL a), none, some (vL b), none, some (vI u), none, none], [], (sc, ar)) Q := by
  have hd := gD80 ha.1 (show 0 ≤ b by omega) hb.2
  have hp := gc_pos 80 a b ha.1 (by omega) (Or.inr hb.1) hd
  have hl := gc_le (b := 1000000000000) 80 a b ha.1 (by omega) (by omega) (by omega)
  unfold toldF at k
  refine Ev.deep (Nat.le_add_left 1 d) (sg_Dt_inLeastTerms_0 (Ev.deep (Nat.le_refl 0) (sg_Dt_commonDivisor_0 (lp_cd 80 a b 0 (by omega) (by omega) hd ha.1 (by omega) ha.2 hb.2 (sg_Dt_inLeastTerms_5 ⟨by omega, fun _ => ⟨hu, fun c => ⟨by omega, by omega, hp, ?_⟩, fun c => ⟨by omega, by omega, hp, ?_⟩⟩, fun c => absurd hp c⟩)))))
  · rw [if_pos c] at k
    exact k
  · rw [if_neg c] at k
    exact k
theorem lp_told {a b u : Int} (ha : 0 ≤ a ∧ a < 1000000000000) (hb : 0 < b ∧ b < 1000000000000) (hu : inR u) (g : Int) (hg : 0 < g ∧ g ≤ 1000000000000) (k : Q (some (vL (if u = 0 then b.tdiv g else a.tdiv g))) (sc, ar)) : ∀ (n : Nat) (x y : Int), gD n x y → 0 ≤ x → 0 ≤ y → x < 1000000000000 → y < 1000000000000 → gc n x y = g → Ev 0 M_Md_told (6, [some (vL a), none, some (vL b), none, some (vI u), some (vL x), none, some (vL y), none, none, none], [], (sc, ar)) Q
  | 0, x, y, hd, hx, hy, bx, b_y, e => by
    have hd : y = 0 := hd
    have e : x = g := e
    subst e
    refine sg_Md_told_6 ⟨by omega, fun _ => ⟨hu, fun c => ⟨by omega, by omega, hg.1, ?_⟩, fun c => ⟨by omega, by omega, hg.1, ?_⟩⟩, fun c => absurd hd c⟩
    · rw [if_pos c] at k
      exact k
    · rw [if_neg c] at k
      exact k
  | n + 1, x, y, hd, hx, hy, bx, b_y, e => by
    simp only [gc] at e
    refine sg_Md_told_6 ⟨by omega, fun c => ?_, fun c => ⟨by omega, by omega, by omega, ?_⟩⟩
    · rw [if_pos c] at e
      subst e
      refine ⟨hu, fun c => ⟨by omega, by omega, hg.1, ?_⟩, fun c => ⟨by omega, by omega, hg.1, ?_⟩⟩
      · rw [if_pos c] at k
        exact k
      · rw [if_neg c] at k
        exact k
    · rw [if_neg c] at e
      have h1 := tmod_lt hx (show 0 < y by omega)
      exact lp_told ha hb hu g hg k n y (x.tmod y) (hd.resolve_left c) hy h1.1 b_y (by omega) e
theorem ct_told {a b u : Int} (ha : 0 ≤ a ∧ a < 1000000000000) (hb : 0 < b ∧ b < 1000000000000) (hu : inR u) (k : Q (some (vL (toldF a b u))) (sc, ar)) : Ev d M_Md_told (0, [some (vL a), none, some (vL b), none, some (vI u), none, none, none, none, none, none], [], (sc, ar)) Q := by
  have hd := gD80 ha.1 (show 0 ≤ b by omega) hb.2
  have hp := gc_pos 80 a b ha.1 (by omega) (Or.inr hb.1) hd
  have hl := gc_le (b := 1000000000000) 80 a b ha.1 (by omega) (by omega) (by omega)
  exact Ev.deep (Nat.zero_le d) (sg_Md_told_0 (lp_told ha hb hu _ ⟨hp, hl⟩ k 80 a b hd ha.1 (by omega) ha.2 hb.2 rfl))
end GCD
/-! the mean: AF p is what is spent on the mean from a place till going on from it, over all that is below -/
def tn (ch od : Nat → Int) (p q : Nat) : Int := ch (8 * (od p).toNat + (od q).toNat)
def fc (ch od : Nat → Int) (p : Nat) : Int := 10 - sm (tn ch od p) p
def BL (ch od : Nat → Int) : Nat → Int
  | 0 => 1
  | p + 1 => BL ch od p * fc ch od p
def PRd (ch od : Nat → Int) (a : Nat) : Nat → Int
  | 0 => 1
  | n + 1 => PRd ch od a n * fc ch od (a + n)
def PR (ch od : Nat → Int) (a b : Nat) : Int := PRd ch od a (b - a)
def sgS (ch od : Nat → Int) (A : Nat → Int) (p q n : Nat) : Int := sm (fun i => if q ≤ i then A i * PR ch od (i + 1) p else 0) n
def aV (ch od : Nat → Int) (c : Nat → Int) (A : Nat → Int) (p n : Nat) : Int := 10 * c p * BL ch od p + sm (fun q => tn ch od p q * sgS ch od A p q p) n
def AB (ch od : Nat → Int) (c : Nat → Int) : Nat → Nat → Int
  | 0 => fun _ => 0
  | p + 1 => up (AB ch od c p) p (aV ch od c (AB ch od c p) p p)
def AF (ch od : Nat → Int) (c : Nat → Int) (p : Nat) : Int := AB ch od c (p + 1) p
def TT (ch od : Nat → Int) (c : Nat → Int) (p : Nat) : Int := sm (fun i => AF ch od c i * PR ch od (i + 1) p) p
section MEANS
variable {N : Nat} {tm nd ch od : Nat → Int} {c : Nat → Int}
theorem PR_self (a : Nat) : PR ch od a a = 1 := by
  unfold PR
  rw [Nat.sub_self]
  rfl
theorem PR_succ {a b : Nat} (h : a ≤ b) : PR ch od a (b + 1) = PR ch od a b * fc ch od b := by
  unfold PR
  rw [show b + 1 - a = (b - a) + 1 by omega]
  simp only [PRd]
  rw [show a + (b - a) = b by omega]
theorem BL_PR {a : Nat} : ∀ b, a ≤ b → BL ch od b = BL ch od a * PR ch od a b
  | 0, h => by
    have : a = 0 := by omega
    subst this
    rw [PR_self, Int.mul_one]
  | b + 1, h => by
    by_cases e : a = b + 1
    · subst e
      rw [PR_self, Int.mul_one]
    · rw [PR_succ (by omega), ← Int.mul_assoc, ← BL_PR b (by omega)]
      rfl
theorem AB_keep {q : Nat} : ∀ p, q < p → AB ch od c p q = AF ch od c q
  | 0, h => by omega
  | p + 1, h => by
    by_cases e : q = p
    · subst e; rfl
    · have : AB ch od c (p + 1) q = AB ch od c p q := by
        simp only [AB]
        exact up_ne _ _ e
      rw [this]
      exact AB_keep p (by omega)
theorem sgS_congr {A A2 : Nat → Int} {p q n : Nat} (h : ∀ i, i < n → A i = A2 i) : sgS ch od A p q n = sgS ch od A2 p q n := by
  apply sm_congr
  intro i hi
  rw [h i hi]
theorem AF_rec (p : Nat) : AF ch od c p = aV ch od c (AF ch od c) p p := by
  show AB ch od c (p + 1) p = _
  simp only [AB]
  rw [up_eq]
  unfold aV
  congr 1
  apply sm_congr
  intro q hq
  rw [sgS_congr (fun i hi => AB_keep p hi)]
theorem tn_bd (hV : VV N tm nd ch od) {p q : Nat} (hp : p < N) (hq : q < N) : 0 ≤ tn ch od p q ∧ tn ch od p q ≤ 8 := by
  obtain ⟨hN, -, -, -, -, hc, -, ho⟩ := hV
  have o1 := ho.1 p (by omega)
  have o2 := ho.1 q (by omega)
  exact hc _ (by omega)
theorem sm_mono {f : Nat → Int} {n : Nat} : ∀ m, n ≤ m → (∀ i, i < m → 0 ≤ f i) → sm f n ≤ sm f m
  | 0, h, _ => by
    have : n = 0 := by omega
    subst this
    exact Int.le_refl _
  | m + 1, h, z => by
    by_cases e : n = m + 1
    · rw [e]; exact Int.le_refl _
    · have h1 := sm_mono (n := n) m (by omega) (fun i hi => z i (by omega))
      have h2 := z m (by omega)
      show sm f n ≤ sm f m + f m
      omega
theorem bk_bd (hV : VV N tm nd ch od) {p : Nat} (hp : p < N) : ∀ q, q ≤ N → 0 ≤ sm (tn ch od p) q ∧ sm (tn ch od p) q ≤ 8 := by
  intro q hq
  obtain ⟨hN, -, -, -, -, hc, hr, ho⟩ := id hV
  have o1 := ho.1 p (by omega)
  have h0 := (sm_bd (f := tn ch od p) (b := 8) q (fun i hi => tn_bd hV hp (by omega))).1
  have h1 := sm_mono (f := tn ch od p) N hq (fun i hi => (tn_bd hV hp hi).1)
  have h2 : sm (tn ch od p) N = sm (fun b => ch (8 * (od p).toNat + b)) N := (sm_perm ho (fun b => ch (8 * (od p).toNat + b))).symm
  have h3 := sm_mono (f := fun b => ch (8 * (od p).toNat + b)) (n := N) 8 hN (fun i hi => (hc _ (by omega)).1)
  have h4 := hr (od p).toNat (by omega)
  omega
theorem fc_bd (hV : VV N tm nd ch od) {p : Nat} (hp : p < N) : 2 ≤ fc ch od p ∧ fc ch od p ≤ 10 := by
  have := bk_bd hV hp p (by omega)
  unfold fc
  omega
theorem BL_bd (hV : VV N tm nd ch od) : ∀ p, p ≤ N → 1 ≤ BL ch od p ∧ BL ch od p ≤ (10 ^ p : Nat)
  | 0, _ => ⟨Int.le_refl _, Int.le_refl _⟩
  | p + 1, h => by
    have h1 := BL_bd hV p (by omega)
    have h2 := fc_bd hV (show p < N by omega)
    simp only [BL]
    have h3 : BL ch od p * 2 ≤ BL ch od p * fc ch od p := Int.mul_le_mul_of_nonneg_left h2.1 (by omega)
    have h4 : BL ch od p * fc ch od p ≤ BL ch od p * 10 := Int.mul_le_mul_of_nonneg_left h2.2 (by omega)
    have h5 : (10 ^ (p + 1) : Nat) = 10 * 10 ^ p := by rw [Nat.pow_succ]; omega
    rw [h5]
    generalize 10 ^ p = u at h1 ⊢
    omega
theorem PR_bd (hV : VV N tm nd ch od) {a : Nat} : ∀ b, a ≤ b → b ≤ N → 1 ≤ PR ch od a b
  | 0, h, _ => by
    have : a = 0 := by omega
    subst this
    rw [PR_self]
    exact Int.le_refl _
  | b + 1, h, hb => by
    by_cases e : a = b + 1
    · subst e
      rw [PR_self]
      exact Int.le_refl _
    · have h1 := PR_bd (a := a) hV b (by omega) (by omega)
      have h2 := fc_bd hV (show b < N by omega)
      rw [PR_succ (by omega)]
      have h3 : PR ch od a b * 2 ≤ PR ch od a b * fc ch od b := Int.mul_le_mul_of_nonneg_left h2.1 (by omega)
      omega
theorem BL_div (hV : VV N tm nd ch od) {a b : Nat} (h : a ≤ b) (hb : b ≤ N) : (BL ch od b).tdiv (BL ch od a) = PR ch od a b := by
  rw [BL_PR b h]
  exact Int.mul_tdiv_cancel_left _ (by have := BL_bd hV a (by omega); omega)
theorem sm_mulr (f : Nat → Int) (x : Int) : ∀ n, sm (fun i => f i * x) n = sm f n * x
  | 0 => by simp [sm]
  | n + 1 => by
    simp only [sm]
    rw [sm_mulr f x n, Int.add_mul]
theorem TT_succ (p : Nat) : TT ch od c (p + 1) = TT ch od c p * fc ch od p + AF ch od c p := by
  unfold TT
  simp only [sm]
  rw [PR_self, Int.mul_one, ← sm_mulr]
  congr 1
  apply sm_congr
  intro i hi
  rw [PR_succ (by omega), Int.mul_assoc]
theorem AF_bd (hV : VV N tm nd ch od) (hc : ∀ p, p < N → 0 ≤ c p ∧ c p ≤ 20) : ∀ p, p ≤ N → (∀ i, i < p → 0 ≤ AF ch od c i) ∧ 0 ≤ TT ch od c p ∧ TT ch od c p ≤ (20 * p * 10 ^ p : Nat)
  | 0, _ => ⟨fun i h => by omega, Int.le_refl _, Int.le_refl _⟩
  | p + 1, h => by
    obtain ⟨h1, h2, h3⟩ := AF_bd hV hc p (by omega)
    have hB := BL_bd hV p (by omega)
    have hcp := hc p (by omega)
    have hf := fc_bd hV (show p < N by omega)
    have hbk := bk_bd hV (show p < N by omega) p (by omega)
    have hs : ∀ q, q < p → 0 ≤ sgS ch od (AF ch od c) p q p ∧ sgS ch od (AF ch od c) p q p ≤ TT ch od c p := by
      intro q hq
      have hnn : ∀ i, i < p → 0 ≤ AF ch od c i * PR ch od (i + 1) p := fun i hi => Int.mul_nonneg (h1 i hi) (by have := PR_bd hV (a := i + 1) p (by omega) (by omega); omega)
      constructor
      · have := sm_le (f := fun _ => 0) (g := fun i => if q ≤ i then AF ch od c i * PR ch od (i + 1) p else 0) p (fun i hi => by
          try dsimp only
          split
          · exact hnn i hi
          · exact Int.le_refl _)
        rw [sm_zero] at this
        exact this
      · exact sm_le p (fun i hi => by
          try dsimp only
          split
          · exact Int.le_refl _
          · exact hnn i hi)
    have hS : 0 ≤ sm (fun q => tn ch od p q * sgS ch od (AF ch od c) p q p) p ∧ sm (fun q => tn ch od p q * sgS ch od (AF ch od c) p q p) p ≤ sm (tn ch od p) p * TT ch od c p := by
      constructor
      · have := sm_le (f := fun _ => 0) (g := fun q => tn ch od p q * sgS ch od (AF ch od c) p q p) p (fun q hq => Int.mul_nonneg (tn_bd hV (by omega) (by omega)).1 (hs q hq).1)
        rw [sm_zero] at this
        exact this
      · rw [← sm_mulr]
        exact sm_le p (fun q hq => Int.mul_le_mul_of_nonneg_left (hs q hq).2 (tn_bd hV (by omega) (by omega)).1)
    have hc1 : 0 ≤ 10 * c p * BL ch od p := Int.mul_nonneg (by omega) (by omega)
    have hc2 : 10 * c p * BL ch od p ≤ 200 * BL ch od p := Int.mul_le_mul_of_nonneg_right (by omega) (by omega)
    have hA : 0 ≤ AF ch od c p ∧ AF ch od c p ≤ 200 * BL ch od p + sm (tn ch od p) p * TT ch od c p := by
      rw [AF_rec]
      unfold aV
      omega
    refine ⟨fun i hi => ?_, ?_, ?_⟩
    · by_cases e : i = p
      · subst e; exact hA.1
      · exact h1 i (by omega)
    · rw [TT_succ]
      have := Int.mul_nonneg h2 (show 0 ≤ fc ch od p by omega)
      omega
    · rw [TT_succ]
      have e1 : TT ch od c p * fc ch od p + sm (tn ch od p) p * TT ch od c p = 10 * TT ch od c p := by
        rw [Int.mul_comm (sm (tn ch od p) p), ← Int.mul_add]
        unfold fc
        rw [show 10 - sm (tn ch od p) p + sm (tn ch od p) p = 10 by omega, Int.mul_comm]
      have e2 : (20 * (p + 1) * 10 ^ (p + 1) : Nat) = 10 * (20 * p * 10 ^ p) + 200 * 10 ^ p := by
        rw [Nat.pow_succ]
        generalize 10 ^ p = u
        rw [Nat.mul_add 20 p 1, Nat.add_mul, Nat.mul_comm u 10, ← Nat.mul_assoc, ← Nat.mul_assoc (20 * 1), Nat.mul_comm (20 * p) 10, Nat.mul_assoc 10]
      rw [e2]
      generalize 20 * p * 10 ^ p = w at h3 ⊢
      generalize 10 ^ p = u at hB ⊢
      omega
theorem TT_lt (hV : VV N tm nd ch od) (hc : ∀ p, p < N → 0 ≤ c p ∧ c p ≤ 20) : 0 ≤ TT ch od c N ∧ TT ch od c N < 1000000000000 := by
  obtain ⟨-, h1, h2⟩ := AF_bd hV hc N (Nat.le_refl _)
  refine ⟨h1, ?_⟩
  have hN := hV.1
  have h3 : 20 * N * 10 ^ N ≤ 20 * 8 * 10 ^ 8 := Nat.mul_le_mul (Nat.mul_le_mul_left 20 hN) (Nat.pow_le_pow_right (by decide) hN)
  have h4 : 20 * 8 * 10 ^ 8 = 16000000000 := by decide +kernel
  omega
theorem BL_lt (hV : VV N tm nd ch od) {p : Nat} (hp : p ≤ N) : 0 < BL ch od p ∧ BL ch od p < 1000000000000 := by
  have h1 := BL_bd hV p hp
  have hN := hV.1
  have h3 : 10 ^ p ≤ 10 ^ 8 := Nat.pow_le_pow_right (by decide) (by omega)
  have h4 : 10 ^ 8 = 100000000 := by decide +kernel
  omega
end MEANS
end
section
/-! GOING BACK: the class's reckoning and the reference's -/
section RET
variable {sc : Nat → Int} {ar : Nat → Nat → Int} {Q : Option mV → mH → Prop} {d : Nat} {N : Nat} {tm nd ch od : Nat → Int} {c : Nat → Int}
theorem lp_above : ∀ j i : Nat, i + j = 8 → Q (some (vL (sm (ar 112) 8))) (sc, ar) → Ev 0 M_Returns_above (14, [some (vO 7), some (vL (sm (ar 112) i)), none, some (vA 112), some (vI 8), some (vI i), none, none], [], (sc, ar)) Q := by
  intro j
  induction j with
  | zero =>
    intro i hi k
    have : i = 8 := by omega
    subst this
    exact sg_Returns_above_14 ⟨by omega, by omega, fun _ => k, fun c => by omega⟩
  | succ j ih =>
    intro i hi k
    have h1 := ih (i + 1) (by omega) k
    refine sg_Returns_above_14 ⟨by omega, by omega, fun c => by omega, fun _ => ⟨by omega, by omega, ?_⟩⟩
    exact h1
theorem ct_above (k : Q (some (vL (sm (ar 112) 8))) (sc, ar)) : Ev d M_Returns_above (0, [some (vO 7), none, none, none, none, none, none, none], [], (sc, ar)) Q :=
  Ev.deep (Nat.zero_le d) (sg_Returns_above_0 (lp_above 8 0 (by omega) k))
theorem lp_spent {q p : Nat} (hp : p < 8) (k : Q (some (vL (sm (fun i => if q ≤ i then ar 112 i else 0) p))) (sc, ar)) : ∀ j i : Nat, i + j = p → q ≤ i → Ev 0 M_Returns_spentFrom (9, [some (vO 7), some (vI q), some (vI p), some (vL (sm (fun i => if q ≤ i then ar 112 i else 0) i)), none, some (vI i)], [], (sc, ar)) Q := by
  intro j
  induction j with
  | zero =>
    intro i hi _
    have : i = p := by omega
    subst this
    exact sg_Returns_spentFrom_9 ⟨by omega, by omega, fun _ => k, fun c => by omega⟩
  | succ j ih =>
    intro i hi hq
    have h1 := ih (i + 1) (by omega) (by omega)
    refine sg_Returns_spentFrom_9 ⟨by omega, by omega, fun c => by omega, fun _ => ⟨by omega, fun c => by omega, fun _ => ⟨by omega, by omega, ?_⟩⟩⟩
    simp only [sm, if_pos hq] at h1
    exact h1
theorem ct_spent {q p : Nat} (hp : p < 8) (hq : q < p) (k : Q (some (vL (sm (fun i => if q ≤ i then ar 112 i else 0) p))) (sc, ar)) : Ev d M_Returns_spentFrom (0, [some (vO 7), some (vI q), some (vI p), none, none, none], [], (sc, ar)) Q := by
  refine Ev.deep (Nat.zero_le d) (sg_Returns_spentFrom_0 ⟨by omega, ?_⟩)
  rw [if_neg (by omega)]
  have := lp_spent hp k (p - q) q (by omega) (by omega)
  rw [sm_low q (fun i hi => by rw [if_neg (by omega)])] at this
  exact this
theorem lp_refine {f : Int} {p : Nat} {s0 : Nat → Int} {a0 : Nat → Nat → Int} (hf : inR f) (hp : p < 8) (g0 : Nat → Int) (k : ∀ g : Nat → Int, (∀ i, i < p → g i = g0 i * f) → (∀ i, p ≤ i → g i = g0 i) → Q none (s0, up a0 112 g)) : ∀ j i : Nat, i + j = p → ∀ g : Nat → Int, (∀ q, q < i → g q = g0 q * f) → (∀ q, i ≤ q → g q = g0 q) → Ev 0 M_Returns_refine (13, [some (vO 7), some (vI f), some (vI p), some (vI i)], [], (s0, up a0 112 g)) Q := by
  intro j
  induction j with
  | zero =>
    intro i hi g h1 h2
    have : i = p := by omega
    subst this
    exact sg_Returns_refine_13 ⟨by omega, by omega, fun _ => k g h1 h2, fun c => by omega⟩
  | succ j ih =>
    intro i hi g h1 h2
    refine sg_Returns_refine_13 ⟨by omega, by omega, fun c => by omega, fun _ => ⟨by omega, fun c => by omega, fun _ => ⟨by omega, by omega, hf, by omega, by omega, ?_⟩⟩⟩
    rw [up_eq, up_up, Int.toNat_natCast]
    refine ih (i + 1) (by omega) _ (fun q hq => ?_) (fun q hq => ?_)
    · by_cases e : q = i
      · subst e
        rw [up_eq, h2 q (by omega)]
      · rw [up_ne _ _ e]
        exact h1 q (by omega)
    · rw [up_ne _ _ (by omega)]
      exact h2 q (by omega)
theorem ct_refine {f : Int} {p : Nat} (hf : inR f) (hp : p < 8) (k : ∀ g : Nat → Int, (∀ i, i < p → g i = ar 112 i * f) → (∀ i, p ≤ i → g i = ar 112 i) → Q none (up sc 114 (sc 114 * f), up ar 112 g)) : Ev d M_Returns_refine (0, [some (vO 7), some (vI f), some (vI p), none], [], (sc, ar)) Q := by
  refine Ev.deep (Nat.zero_le d) (sg_Returns_refine_0 ⟨hf, ?_⟩)
  have := lp_refine hf hp (ar 112) k p 0 (by omega) (ar 112) (fun q hq => by omega) (fun q hq => rfl)
  rw [up_id] at this
  exact this
theorem lp_recktI {cs : Nat → Int} {p : Nat} {x5 : Int} (hV : VV N tm nd ch od) (hI : IX N tm nd ch od sc ar) (hp : p < N) (hb : sc 114 = BL ch od p) (hg : ∀ i, i < p → ar 112 i = AF ch od c i * PR ch od (i + 1) p) (hx : x5 = od p) (k : ∀ g : Nat → Int, (∀ i, i < p → g i = ar 112 i * fc ch od p) → (∀ i, p ≤ i → g i = ar 112 i) → Ev 2 M_Returns_reckon (16, [some (vO 7), some (vO 3), some (vO 2), some (vA 0), some (vI ((p : Int) + 1)), none, none, none, none, none, none], [], (up sc 114 (sc 114 * fc ch od p), up ar 112 (up g p (AF ch od c p)))) Q) :
    ∀ j q : Nat, q + j = p → Ev 2 M_Returns_reckon (64, [some (vO 7), some (vO 3), some (vO 2), some (vA 0), some (vI p), some (vI x5), some (vI (sm (tn ch od p) q)), some (vL (aV ch od c (AF ch od c) p q)), none, some (vI q), none], [], (sc, ar)) Q := by
  obtain ⟨hN, ht, -, hR, hz, -, -, ho⟩ := id hV
  obtain ⟨i1, i2, i3, i4, i5, i6⟩ := hI
  have o1 := ho.1 p (by omega)
  subst hx
  intro j
  induction j with
  | zero =>
    intro q hq
    have : q = p := by omega
    subst this
    have hf := fc_bd hV hp
    refine sg_Returns_reckon_64t ⟨by omega, by omega, fun _ => ?_, fun c => by omega⟩
    rw [← AF_rec]
    have e : 10 - sm (tn ch od q) q = fc ch od q := rfl
    rw [e]
    refine ct_refine (by omega) (by omega) (fun g h1 h2 => sg_Returns_reckon_126t ⟨by omega, by omega, ?_⟩)
    rw [up_eq, up_up, Int.toNat_natCast]
    exact k g h1 h2
  | succ j ih =>
    intro q hq
    have h1 := ih (q + 1) (by omega)
    have o2 := ho.1 q (by omega)
    have t1 := tn_bd hV (show p < N by omega) (show q < N by omega)
    refine sg_Returns_reckon_64t ⟨by omega, by omega, fun c => by omega, fun _ => ct_taskAtT i2 (by omega) (by omega) (sg_Returns_reckon_80t (ct_getC (by omega) (by rw [i6, Int.toNat_natCast]; omega) (sg_Returns_reckon_83t ?_)))⟩
    rw [i5, i6, Int.toNat_natCast, show (8 * od p + od q).toNat = 8 * (od p).toNat + (od q).toNat by omega, show ch (8 * (od p).toNat + (od q).toNat) = tn ch od p q from rfl]
    refine ⟨by omega, ct_spent (by omega) (by omega) (sg_Returns_reckon_105t ?_)⟩
    have e : sm (fun i => if q ≤ i then ar 112 i else 0) p = sgS ch od (AF ch od c) p q p := by
      apply sm_congr
      intro i hi
      rw [hg i hi]
    rw [e]
    unfold aV at h1 ⊢
    simp only [sm] at h1
    rw [Int.add_assoc]
    exact h1
theorem lp_reckt {cs : Nat → Int} {s0 : Nat → Int} {a0 : Nat → Nat → Int} (hV : VV N tm nd ch od) (hI : IX N tm nd ch od s0 a0) (hcs : a0 0 = cs) (hb : ∀ i : Nat, i < 8 → 0 ≤ cs i ∧ cs i ≤ 20) (hcc : ∀ p, p < N → c p = cs (od p).toNat) (k : ∀ g : Nat → Int, (∀ i, i < N → g i = AF ch od c i * PR ch od (i + 1) N) → (∀ i, N ≤ i → i < 8 → g i = 0) → Q none (up s0 114 (BL ch od N), up a0 112 g)) :
    ∀ j p : Nat, p + j = N → ∀ g : Nat → Int, (∀ i, i < p → g i = AF ch od c i * PR ch od (i + 1) p) → (∀ i, p ≤ i → i < 8 → g i = 0) → Ev 2 M_Returns_reckon (16, [some (vO 7), some (vO 3), some (vO 2), some (vA 0), some (vI p), none, none, none, none, none, none], [], (up s0 114 (BL ch od p), up a0 112 g)) Q := by
  obtain ⟨hN, ht, -, hR, hz, -, -, ho⟩ := id hV
  intro j
  induction j with
  | zero =>
    intro p hp g h1 h2
    have : p = N := by omega
    subst this
    have hI2 := hI.pe ((Pe.rf.s 114 (BL ch od p)).a 112 g)
    have i2 := hI2.2.1
    exact sg_Returns_reckon_16t (ct_lengthT (sg_Returns_reckon_22t ⟨by omega, by omega, fun _ => k g h1 h2, fun c => by omega⟩))
  | succ j ih =>
    intro p hp g h1 h2
    have hI2 := hI.pe ((Pe.rf.s 114 (BL ch od p)).a 112 g)
    obtain ⟨i1, i2, i3, i4, i5, i6⟩ := id hI2
    have o1 := ho.1 p (by omega)
    have hl : mLen (up s0 114 (BL ch od p), up a0 112 g) 0 = 8 := rfl
    refine sg_Returns_reckon_16t (ct_lengthT (sg_Returns_reckon_22t ⟨by omega, by omega, fun c => by omega, fun _ => ⟨by omega, fun c => by omega, fun _ => ct_taskAtT i2 (by omega) (by omega) (sg_Returns_reckon_38t (ct_valueOf rfl (by rw [i6, Int.toNat_natCast]; omega) (by rw [i6, Int.toNat_natCast, hl]; omega) (by rw [hl]; omega) (sg_Returns_reckon_57t ?_)))⟩⟩))
    rw [i6, Int.toNat_natCast, up_ne _ _ (show (0 : Nat) ≠ 112 by decide), hcs]
    have hcb := hb (od p).toNat (by omega)
    refine ⟨by omega, ?_⟩
    have e0 : 10 * up s0 114 (BL ch od p) 114 * cs (od p).toNat = aV ch od c (AF ch od c) p 0 := by
      rw [up_eq]
      unfold aV
      simp only [sm, Int.add_zero]
      rw [hcc p (by omega), Int.mul_assoc, Int.mul_comm (BL ch od p), ← Int.mul_assoc]
    rw [e0]
    refine lp_recktI (cs := cs) (c := c) hV hI2 (by omega) (up_eq _ _ _) (fun i hi => by rw [up_eq]; exact h1 i hi) rfl (fun g2 h3 h4 => ?_) p 0 (by omega)
    simp only [up_eq, up_up] at h3 h4 ⊢
    refine ih (p + 1) (by omega) _ (fun i hi => ?_) (fun i hi h8 => ?_)
    · by_cases e : i = p
      · subst e
        rw [up_eq, PR_self, Int.mul_one]
      · rw [up_ne _ _ e, h3 i (by omega), h1 i (by omega), Int.mul_assoc, ← PR_succ (by omega)]
    · rw [up_ne _ _ (by omega), h4 i (by omega)]
      exact h2 i (by omega) h8
theorem ct_reckt {cs : Nat → Int} (hV : VV N tm nd ch od) (hI : IX N tm nd ch od sc ar) (hcs : ar 0 = cs) (hb : ∀ i : Nat, i < 8 → 0 ≤ cs i ∧ cs i ≤ 20) (hcc : ∀ p, p < N → c p = cs (od p).toNat) (k : ∀ g : Nat → Int, sm g 8 = TT ch od c N → Q none (up sc 114 (BL ch od N), up ar 112 g)) : Ev (d + 2) M_Returns_reckon (0, [some (vO 7), some (vO 3), some (vO 2), some (vA 0), none, none, none, none, none, none, none], [], (sc, ar)) Q := by
  refine Ev.deep (Nat.le_add_left 2 d) (sg_Returns_reckon_0t (ct_fillL (n := 8) rfl (by decide) (fun _ _ => rfl) (by decide) 0 (sg_Returns_reckon_8t ?_)))
  have hN := hV.1
  exact lp_reckt hV hI hcs hb hcc (fun g h1 h2 => k g (by
    have e1 : sm g 8 = sm g N := by
      have key : ∀ m, N ≤ m → m ≤ 8 → sm g m = sm g N := by
        intro m hm
        induction hm with
        | refl => intro _; rfl
        | step hm ih =>
          intro h8
          simp only [sm]
          rw [ih (by omega), h2 _ hm (by omega), Int.add_zero]
      exact key 8 hN (Nat.le_refl _)
    rw [e1]
    exact sm_congr N (fun i hi => h1 i hi))) N 0 (by omega) _ (fun i hi => by omega) (fun i _ hi => by
      rw [wr_at, if_pos hi])
theorem lp_reckoI {cs : Nat → Int} {p : Nat} {x5 : Int} (hV : VV N tm nd ch od) (hI : IX N tm nd ch od sc ar) (hp : p < N) (hb : sc 114 = BL ch od p) (hg : ∀ i, i < p → ar 112 i = AF ch od c i * PR ch od (i + 1) p) (hx : x5 = od p) (k : ∀ g : Nat → Int, (∀ i, i < p → g i = ar 112 i * fc ch od p) → (∀ i, p ≤ i → g i = ar 112 i) → Ev 2 M_Returns_reckon (16, [some (vO 7), some (vO 3), some (vO 2), some (vA 113), some (vI ((p : Int) + 1)), none, none, none, none, none, none], [], (up sc 114 (sc 114 * fc ch od p), up ar 112 (up g p (AF ch od c p)))) Q) :
    ∀ j q : Nat, q + j = p → Ev 2 M_Returns_reckon (64, [some (vO 7), some (vO 3), some (vO 2), some (vA 113), some (vI p), some (vI x5), some (vI (sm (tn ch od p) q)), some (vL (aV ch od c (AF ch od c) p q)), none, some (vI q), none], [], (sc, ar)) Q := by
  obtain ⟨hN, ht, -, hR, hz, -, -, ho⟩ := id hV
  obtain ⟨i1, i2, i3, i4, i5, i6⟩ := hI
  have o1 := ho.1 p (by omega)
  subst hx
  intro j
  induction j with
  | zero =>
    intro q hq
    have : q = p := by omega
    subst this
    have hf := fc_bd hV hp
    refine sg_Returns_reckon_64o ⟨by omega, by omega, fun _ => ?_, fun c => by omega⟩
    rw [← AF_rec]
    have e : 10 - sm (tn ch od q) q = fc ch od q := rfl
    rw [e]
    refine ct_refine (by omega) (by omega) (fun g h1 h2 => sg_Returns_reckon_126o ⟨by omega, by omega, ?_⟩)
    rw [up_eq, up_up, Int.toNat_natCast]
    exact k g h1 h2
  | succ j ih =>
    intro q hq
    have h1 := ih (q + 1) (by omega)
    have o2 := ho.1 q (by omega)
    have t1 := tn_bd hV (show p < N by omega) (show q < N by omega)
    refine sg_Returns_reckon_64o ⟨by omega, by omega, fun c => by omega, fun _ => ct_taskAtT i2 (by omega) (by omega) (sg_Returns_reckon_80o (ct_getC (by omega) (by rw [i6, Int.toNat_natCast]; omega) (sg_Returns_reckon_83o ?_)))⟩
    rw [i5, i6, Int.toNat_natCast, show (8 * od p + od q).toNat = 8 * (od p).toNat + (od q).toNat by omega, show ch (8 * (od p).toNat + (od q).toNat) = tn ch od p q from rfl]
    refine ⟨by omega, ct_spent (by omega) (by omega) (sg_Returns_reckon_105o ?_)⟩
    have e : sm (fun i => if q ≤ i then ar 112 i else 0) p = sgS ch od (AF ch od c) p q p := by
      apply sm_congr
      intro i hi
      rw [hg i hi]
    rw [e]
    unfold aV at h1 ⊢
    simp only [sm] at h1
    rw [Int.add_assoc]
    exact h1
theorem lp_recko {cs : Nat → Int} {s0 : Nat → Int} {a0 : Nat → Nat → Int} (hV : VV N tm nd ch od) (hI : IX N tm nd ch od s0 a0) (hcs : a0 113 = cs) (hb : ∀ i : Nat, i < 8 → 0 ≤ cs i ∧ cs i ≤ 20) (hcc : ∀ p, p < N → c p = cs (od p).toNat) (k : ∀ g : Nat → Int, (∀ i, i < N → g i = AF ch od c i * PR ch od (i + 1) N) → (∀ i, N ≤ i → i < 8 → g i = 0) → Q none (up s0 114 (BL ch od N), up a0 112 g)) :
    ∀ j p : Nat, p + j = N → ∀ g : Nat → Int, (∀ i, i < p → g i = AF ch od c i * PR ch od (i + 1) p) → (∀ i, p ≤ i → i < 8 → g i = 0) → Ev 2 M_Returns_reckon (16, [some (vO 7), some (vO 3), some (vO 2), some (vA 113), some (vI p), none, none, none, none, none, none], [], (up s0 114 (BL ch od p), up a0 112 g)) Q := by
  obtain ⟨hN, ht, -, hR, hz, -, -, ho⟩ := id hV
  intro j
  induction j with
  | zero =>
    intro p hp g h1 h2
    have : p = N := by omega
    subst this
    have hI2 := hI.pe ((Pe.rf.s 114 (BL ch od p)).a 112 g)
    have i2 := hI2.2.1
    exact sg_Returns_reckon_16o (ct_lengthT (sg_Returns_reckon_22o ⟨by omega, by omega, fun _ => k g h1 h2, fun c => by omega⟩))
  | succ j ih =>
    intro p hp g h1 h2
    have hI2 := hI.pe ((Pe.rf.s 114 (BL ch od p)).a 112 g)
    obtain ⟨i1, i2, i3, i4, i5, i6⟩ := id hI2
    have o1 := ho.1 p (by omega)
    have hl : mLen (up s0 114 (BL ch od p), up a0 112 g) 113 = 8 := rfl
    refine sg_Returns_reckon_16o (ct_lengthT (sg_Returns_reckon_22o ⟨by omega, by omega, fun c => by omega, fun _ => ⟨by omega, fun c => by omega, fun _ => ct_taskAtT i2 (by omega) (by omega) (sg_Returns_reckon_38o (ct_valueOf rfl (by rw [i6, Int.toNat_natCast]; omega) (by rw [i6, Int.toNat_natCast, hl]; omega) (by rw [hl]; omega) (sg_Returns_reckon_57o ?_)))⟩⟩))
    rw [i6, Int.toNat_natCast, up_ne _ _ (show (113 : Nat) ≠ 112 by decide), hcs]
    have hcb := hb (od p).toNat (by omega)
    refine ⟨by omega, ?_⟩
    have e0 : 10 * up s0 114 (BL ch od p) 114 * cs (od p).toNat = aV ch od c (AF ch od c) p 0 := by
      rw [up_eq]
      unfold aV
      simp only [sm, Int.add_zero]
      rw [hcc p (by omega), Int.mul_assoc, Int.mul_comm (BL ch od p), ← Int.mul_assoc]
    rw [e0]
    refine lp_reckoI (cs := cs) (c := c) hV hI2 (by omega) (up_eq _ _ _) (fun i hi => by rw [up_eq]; exact h1 i hi) rfl (fun g2 h3 h4 => ?_) p 0 (by omega)
    simp only [up_eq, up_up] at h3 h4 ⊢
    refine ih (p + 1) (by omega) _ (fun i hi => ?_) (fun i hi h8 => ?_)
    · by_cases e : i = p
      · subst e
        rw [up_eq, PR_self, Int.mul_one]
      · rw [up_ne _ _ e, h3 i (by omega), h1 i (by omega), Int.mul_assoc, ← PR_succ (by omega)]
    · rw [up_ne _ _ (by omega), h4 i (by omega)]
      exact h2 i (by omega) h8
theorem ct_recko {cs : Nat → Int} (hV : VV N tm nd ch od) (hI : IX N tm nd ch od sc ar) (hcs : ar 113 = cs) (hb : ∀ i : Nat, i < 8 → 0 ≤ cs i ∧ cs i ≤ 20) (hcc : ∀ p, p < N → c p = cs (od p).toNat) (k : ∀ g : Nat → Int, sm g 8 = TT ch od c N → Q none (up sc 114 (BL ch od N), up ar 112 g)) : Ev (d + 2) M_Returns_reckon (0, [some (vO 7), some (vO 3), some (vO 2), some (vA 113), none, none, none, none, none, none, none], [], (sc, ar)) Q := by
  refine Ev.deep (Nat.le_add_left 2 d) (sg_Returns_reckon_0o (ct_fillL (n := 8) rfl (by decide) (fun _ _ => rfl) (by decide) 0 (sg_Returns_reckon_8o ?_)))
  have hN := hV.1
  exact lp_recko hV hI hcs hb hcc (fun g h1 h2 => k g (by
    have e1 : sm g 8 = sm g N := by
      have key : ∀ m, N ≤ m → m ≤ 8 → sm g m = sm g N := by
        intro m hm
        induction hm with
        | refl => intro _; rfl
        | step hm ih =>
          intro h8
          simp only [sm]
          rw [ih (by omega), h2 _ hm (by omega), Int.add_zero]
      exact key 8 hN (Nat.le_refl _)
    rw [e1]
    exact sm_congr N (fun i hi => h1 i hi))) N 0 (by omega) _ (fun i hi => by omega) (fun i _ hi => by
      rw [wr_at, if_pos hi])
theorem lp_reckOne {t : Nat} (ht : t < 8) {a0 : Nat → Nat → Int} {f : Nat → Int} (hV : VV N tm nd ch od) (hI : IX N tm nd ch od sc a0) (k : ∀ f g : Nat → Int, sm g 8 = TT ch od (fun p => if (od p).toNat = t then 1 else 0) N → Q none (up sc 114 (BL ch od N), up (up a0 113 f) 112 g)) : ∀ j i : Nat, i + j = 8 → Ev 3 M_Returns_reckonOne (3, [some (vO 7), some (vO 3), some (vO 2), some (vI t), some (vI i)], [], (sc, up a0 113 (wr f (fun i => if i = t then 1 else 0) i))) Q := by
  obtain ⟨hN, -, -, -, -, -, -, ho⟩ := id hV
  intro j
  induction j with
  | zero =>
    intro i hi
    have : i = 8 := by omega
    subst this
    refine sg_Returns_reckonOne_3 ⟨by omega, fun _ => ?_, fun c => by omega⟩
    refine ct_recko (c := fun p => if (od p).toNat = t then 1 else 0) hV (hI.pe (Pe.rf.a 113 _)) (up_eq _ _ _) (fun i hi => ?_) (fun p hp => ?_) (fun g hg => sg_Returns_reckonOne_44 (k _ g hg))
    · rw [wr_at, if_pos hi]
      split <;> omega
    · have := ho.1 p (by omega)
      rw [wr_at, if_pos (show (od p).toNat < 8 by omega)]
  | succ j ih =>
    intro i hi
    have h1 := ih (i + 1) (by omega)
    simp only [wr] at h1
    refine sg_Returns_reckonOne_3 ⟨by omega, fun c => by omega, fun _ => ⟨by omega, by omega, fun c => ⟨by omega, by omega, ?_⟩, fun c => ⟨by omega, by omega, ?_⟩⟩⟩
    · rw [if_neg (by omega)] at h1
      rw [up_eq, up_up, Int.toNat_natCast]
      exact h1
    · rw [if_pos (by omega)] at h1
      rw [up_eq, up_up, Int.toNat_natCast]
      exact h1
theorem ct_reckOne {t : Nat} (ht : t < 8) (hV : VV N tm nd ch od) (hI : IX N tm nd ch od sc ar) (k : ∀ f g : Nat → Int, sm g 8 = TT ch od (fun p => if (od p).toNat = t then 1 else 0) N → Q none (up sc 114 (BL ch od N), up (up ar 113 f) 112 g)) : Ev (d + 3) M_Returns_reckonOne (0, [some (vO 7), some (vO 3), some (vO 2), some (vI t), none], [], (sc, ar)) Q := by
  refine Ev.deep (Nat.le_add_left 3 d) (sg_Returns_reckonOne_0 ?_)
  have := lp_reckOne (f := ar 113) ht hV hI k 8 0 (by omega)
  simp only [wr, up_id] at this
  exact this
/-! the reference -/
theorem lp_mo109 {p q : Nat} {w u t base bk : Int} (hV : VV N tm nd ch od) (hp : p < N) (hq : q < p) (ht : 0 ≤ t ∧ t ≤ 8) (hA : ∀ i, i < p → ar 185 i = AF ch od c i) (hB : ∀ i, i ≤ p → ar 186 i = BL ch od i) (k : Ev 1 M_Md_meanOf (72, [some (vO 11), some (vI w), some (vI u), some (vI p), some (vI (od p)), some (vI bk), some (vL (base + t * sgS ch od (AF ch od c) p q p)), none, some (vI ((q : Int) + 1)), none, none], [], (sc, ar)) Q) :
    ∀ j i : Nat, i + j = p → q ≤ i → Ev 1 M_Md_meanOf (109, [some (vO 11), some (vI w), some (vI u), some (vI p), some (vI (od p)), some (vI bk), some (vL (base + t * sgS ch od (AF ch od c) p q i)), none, some (vI q), some (vI t), some (vI i)], [], (sc, ar)) Q := by
  have hN := hV.1
  intro j
  induction j with
  | zero =>
    intro i hi _
    have : i = p := by omega
    subst this
    exact sg_Md_meanOf_109 ⟨by omega, by omega, fun _ => k, fun c => by omega⟩
  | succ j ih =>
    intro i hi hqi
    have h1 := ih (i + 1) (by omega) (by omega)
    have b1 := BL_lt hV (show p ≤ N by omega)
    have b2 := BL_lt hV (show i + 1 ≤ N by omega)
    refine sg_Md_meanOf_109 ⟨by omega, by omega, fun c => by omega, fun _ => ?_⟩
    rw [show ((i : Int) + 1).toNat = i + 1 by omega, Int.toNat_natCast, Int.toNat_natCast, hA i (by omega), hB p (by omega), hB (i + 1) (by omega), BL_div hV (by omega) (by omega)]
    refine ⟨by omega, by omega, by omega, by omega, by omega, by omega, by omega, by omega, by omega, by omega, ?_⟩
    unfold sgS at h1 ⊢
    simp only [sm, if_pos hqi] at h1
    rw [Int.mul_add, ← Int.add_assoc, ← Int.mul_assoc] at h1
    exact h1
theorem lp_mo72 {p : Nat} {w u : Int} (hV : VV N tm nd ch od) (hI : IM N tm nd ch od sc ar) (hp : p < N) (hA : ∀ i, i < p → ar 185 i = AF ch od c i) (hB : ∀ i, i ≤ p → ar 186 i = BL ch od i) (k : Ev 1 M_Md_meanOf (9, [some (vO 11), some (vI w), some (vI u), some (vI ((p : Int) + 1)), none, none, none, none, none, none, none], [], (sc, up (up ar 185 (up (ar 185) p (AF ch od c p))) 186 (up (ar 186) (p + 1) (BL ch od (p + 1))))) Q) :
    ∀ j q : Nat, q + j = p → Ev 1 M_Md_meanOf (72, [some (vO 11), some (vI w), some (vI u), some (vI p), some (vI (od p)), some (vI (sm (tn ch od p) q)), some (vL (aV ch od c (AF ch od c) p q)), none, some (vI q), none, none], [], (sc, ar)) Q := by
  obtain ⟨hN, -, -, -, -, -, -, ho⟩ := id hV
  obtain ⟨i1, i3, i4, i5, i6⟩ := hI
  have o1 := ho.1 p (by omega)
  intro j
  induction j with
  | zero =>
    intro q hq
    have : q = p := by omega
    subst this
    have hf := fc_bd hV hp
    have e : 10 - sm (tn ch od q) q = fc ch od q := rfl
    refine sg_Md_meanOf_72 ⟨by omega, by omega, fun _ => ?_, fun c => by omega⟩
    rw [← AF_rec, e, show ((q : Int) + 1).toNat = q + 1 by omega, Int.toNat_natCast, hB q (by omega)]
    refine ⟨by omega, by omega, by omega, by omega, by omega, by omega, by omega, ?_⟩
    exact k
  | succ j ih =>
    intro q hq
    have h1 := ih (q + 1) (by omega)
    have o2 := ho.1 q (by omega)
    have t1 := tn_bd hV (show p < N by omega) (show q < N by omega)
    refine sg_Md_meanOf_72 ⟨by omega, by omega, fun c => by omega, fun _ => ?_⟩
    rw [i5, i6, Int.toNat_natCast, show (8 * od p + od q).toNat = 8 * (od p).toNat + (od q).toNat by omega, show ch (8 * (od p).toNat + (od q).toNat) = tn ch od p q from rfl]
    refine ⟨by omega, by omega, by omega, by omega, ?_⟩
    have := lp_mo109 (sc := sc) (ar := ar) (Q := Q) (c := c) (w := w) (u := u) (t := tn ch od p q) (base := aV ch od c (AF ch od c) p q) (bk := sm (tn ch od p) q + tn ch od p q) hV hp (show q < p by omega) t1 hA hB (by
      unfold aV at h1 ⊢
      simp only [sm] at h1
      rw [Int.add_assoc]
      exact h1) (p - q) q (by omega) (by omega)
    rw [show sgS ch od (AF ch od c) p q q = 0 from sm_low q (fun i hi => by rw [if_neg (by omega)]), Int.mul_zero, Int.add_zero] at this
    exact this
theorem lp_mo200 {w u : Int} (hV : VV N tm nd ch od) (hn : sc 177 = (N : Int)) (hc : ∀ p, p < N → 0 ≤ c p ∧ c p ≤ 20) (hu : inR u) (hA : ∀ i, i < N → ar 185 i = AF ch od c i) (hB : ∀ i, i ≤ N → ar 186 i = BL ch od i) (k : Q (some (vL (toldF (TT ch od c N) (BL ch od N) u))) (sc, ar)) : ∀ j i : Nat, i + j = N → Ev 1 M_Md_meanOf (200, [some (vO 11), some (vI w), some (vI u), some (vL (sm (fun i => AF ch od c i * PR ch od (i + 1) N) i)), none, some (vI i), none, none, none, none, none], [], (sc, ar)) Q := by
  have hN := hV.1
  intro j
  induction j with
  | zero =>
    intro i hi
    have : i = N := by omega
    subst this
    have b1 := BL_lt hV (show i ≤ i by omega)
    refine sg_Md_meanOf_200 ⟨by omega, by omega, fun _ => ?_, fun c => by omega⟩
    rw [hn, Int.toNat_natCast, hB i (by omega)]
    exact ⟨by omega, by omega, ct_told (TT_lt hV hc) b1 hu (sg_Md_meanOf_259 k)⟩
  | succ j ih =>
    intro i hi
    have h1 := ih (i + 1) (by omega)
    have b1 := BL_lt hV (show N ≤ N by omega)
    have b2 := BL_lt hV (show i + 1 ≤ N by omega)
    refine sg_Md_meanOf_200 ⟨by omega, by omega, fun c => by omega, fun _ => ?_⟩
    rw [hn, show ((i : Int) + 1).toNat = i + 1 by omega, Int.toNat_natCast, Int.toNat_natCast, hA i (by omega), hB N (by omega), hB (i + 1) (by omega), BL_div hV (by omega) (by omega)]
    refine ⟨by omega, by omega, by omega, by omega, by omega, by omega, by omega, by omega, by omega, ?_⟩
    simp only [sm] at h1
    exact h1
theorem lp_mo9 {w u : Int} {a0 : Nat → Nat → Int} (hV : VV N tm nd ch od) (hI : IM N tm nd ch od sc a0) (hw : inR w) (hu : inR u) (hc : ∀ p, p < N → (w = -9 → c p = tm (od p).toNat) ∧ (w ≠ -9 → (w ≠ od p → c p = 0) ∧ (w = od p → c p = 1))) (k : ∀ f g : Nat → Int, Q (some (vL (toldF (TT ch od c N) (BL ch od N) u))) (sc, up (up a0 185 f) 186 g)) :
    ∀ j p : Nat, p + j = N → ∀ f g : Nat → Int, (∀ i, i < p → f i = AF ch od c i) → (∀ i, i ≤ p → g i = BL ch od i) → Ev 1 M_Md_meanOf (9, [some (vO 11), some (vI w), some (vI u), some (vI p), none, none, none, none, none, none, none], [], (sc, up (up a0 185 f) 186 g)) Q := by
  obtain ⟨hN, htm, -, -, -, -, -, ho⟩ := id hV
  have hcb : ∀ p, p < N → 0 ≤ c p ∧ c p ≤ 20 := by
    intro p hp
    have h1 := hc p hp
    have o1 := ho.1 p (by omega)
    have t1 := htm (od p).toNat (by omega)
    by_cases e : w = -9
    · rw [h1.1 e]; exact t1
    · by_cases e2 : w = od p
      · rw [(h1.2 e).2 e2]; omega
      · rw [(h1.2 e).1 e2]; omega
  intro j
  induction j with
  | zero =>
    intro p hp f g h1 h2
    have : p = N := by omega
    subst this
    have i1 := (hI.pe ((Pe.rf.a 185 f).a 186 g)).1
    refine sg_Md_meanOf_9 ⟨by omega, by omega, fun _ => ?_, fun c => by omega⟩
    refine lp_mo200 (c := c) hV i1 hcb hu (fun i hi => ?_) (fun i hi => ?_) (k f g) p 0 (by omega)
    · rw [up_ne _ _ (by decide), up_eq]
      exact h1 i hi
    · rw [up_eq]
      exact h2 i hi
  | succ j ih =>
    intro p hp f g h1 h2
    have hI2 := hI.pe ((Pe.rf.a 185 f).a 186 g)
    obtain ⟨i1, i3, i4, i5, i6⟩ := id hI2
    have o1 := ho.1 p (by omega)
    have hcp := hc p (by omega)
    have t1 := htm (od p).toNat (by omega)
    have go : ∀ v, v = 10 * c p * BL ch od p → Ev 1 M_Md_meanOf (72, [some (vO 11), some (vI w), some (vI u), some (vI p), some (vI (od p)), some (vI 0), some (vL v), none, some (vI 0), none, none], [], (sc, up (up a0 185 f) 186 g)) Q := by
      intro v hv
      have := lp_mo72 (sc := sc) (ar := up (up a0 185 f) 186 g) (Q := Q) (c := c) (w := w) (u := u) hV hI2 (show p < N by omega) (fun i hi => by rw [up_ne _ _ (by decide), up_eq]; exact h1 i hi) (fun i hi => by rw [up_eq]; exact h2 i hi) (by
        rw [up_eq, up_ne _ _ (show (185 : Nat) ≠ 186 by decide), up_eq]
        have e : up (up (up (up a0 185 f) 186 g) 185 (up f p (AF ch od c p))) 186 (up g (p + 1) (BL ch od (p + 1))) = up (up a0 185 (up f p (AF ch od c p))) 186 (up g (p + 1) (BL ch od (p + 1))) := by
          funext i
          by_cases e1 : i = 186
          · subst e1; rw [up_eq, up_eq]
          · rw [up_ne _ _ e1, up_ne _ _ e1]
            by_cases e2 : i = 185
            · subst e2; rw [up_eq, up_eq]
            · rw [up_ne _ _ e2, up_ne _ _ e2, up_ne _ _ e1, up_ne _ _ e2]
        rw [e]
        refine ih (p + 1) (by omega) _ _ (fun i hi => ?_) (fun i hi => ?_)
        · by_cases e : i = p
          · subst e; rw [up_eq]
          · rw [up_ne _ _ e]; exact h1 i (by omega)
        · by_cases e : i = p + 1
          · subst e; rw [up_eq]
          · rw [up_ne _ _ e]; exact h2 i (by omega)) p 0 (by omega)
      unfold aV at this
      simp only [sm, Int.add_zero] at this
      rw [← hv] at this
      exact this
    refine sg_Md_meanOf_9 ⟨by omega, by omega, fun c => by omega, fun _ => ?_⟩
    rw [i6, i3, Int.toNat_natCast, up_eq, h2 p (by omega)]
    refine ⟨by omega, by omega, hw, fun e => ⟨hw, by omega, fun e2 => ⟨by omega, by omega, go _ ?_⟩, fun e2 => ⟨by omega, by omega, go _ ?_⟩⟩, fun e => ⟨by omega, by omega, by omega, by omega, by omega, go _ ?_⟩⟩
    · rw [(hcp.2 e).1 e2]
    · rw [(hcp.2 e).2 (Classical.not_not.mp e2)]
    · rw [hcp.1 (Classical.not_not.mp e)]
theorem ct_meanOf {w u : Int} (hV : VV N tm nd ch od) (hI : IM N tm nd ch od sc ar) (hw : inR w) (hu : inR u) (hc : ∀ p, p < N → (w = -9 → c p = tm (od p).toNat) ∧ (w ≠ -9 → (w ≠ od p → c p = 0) ∧ (w = od p → c p = 1))) (k : ∀ f g : Nat → Int, Q (some (vL (toldF (TT ch od c N) (BL ch od N) u))) (sc, up (up ar 185 f) 186 g)) : Ev (d + 1) M_Md_meanOf (0, [some (vO 11), some (vI w), some (vI u), none, none, none, none, none, none, none, none], [], (sc, ar)) Q := by
  refine Ev.deep (Nat.le_add_left 1 d) (sg_Md_meanOf_0 ?_)
  have := lp_mo9 (c := c) hV hI hw hu hc k N 0 (by omega) (ar 185) (up (ar 186) 0 1) (fun i hi => by omega) (fun i hi => by
    have : i = 0 := by omega
    subst this
    rw [up_eq]
    rfl)
  rw [up_id] at this
  exact this
end RET
end
section
/-! LEANING: the closure in steps, blocks and their numbers -/
def W0 (nd : Nat → Int) (a b : Nat) : Bool := decide (0 < nd (8 * a + b))
def WS (L : Nat → Nat → Bool) (m a b : Nat) : Bool := L a b || (L a m && L m b)
def WL (nd : Nat → Int) : Nat → Nat → Nat → Bool
  | 0 => W0 nd
  | m + 1 => WS (WL nd m) m
theorem WS_iff {L : Nat → Nat → Bool} {m a b : Nat} : WS L m a b = true ↔ L a b = true ∨ (L a m = true ∧ L m b = true) := by
  unfold WS
  rw [Bool.or_eq_true, Bool.and_eq_true]
theorem WS_col {L : Nat → Nat → Bool} {m a : Nat} : WS L m a m = L a m := by
  unfold WS
  cases L a m <;> simp
theorem WS_row {L : Nat → Nat → Bool} {m b : Nat} : WS L m m b = L m b := by
  unfold WS
  cases L m b <;> simp
section REL
variable {N : Nat} {nd : Nat → Int}
theorem WL_up {m a b : Nat} (h : WL nd m a b = true) : WL nd (m + 1) a b = true := WS_iff.mpr (Or.inl h)
theorem WL_le {m k a b : Nat} (hk : m ≤ k) (h : WL nd m a b = true) : WL nd k a b = true := by
  induction hk with
  | refl => exact h
  | step _ ih => exact WL_up ih
theorem WL_tr : ∀ (m x a b : Nat), x < m → WL nd m a x = true → WL nd m x b = true → WL nd m a b = true
  | 0, x, a, b, h, _, _ => by omega
  | m + 1, x, a, b, h, h1, h2 => by
    have ih := fun x a b => WL_tr m x a b
    refine WS_iff.mpr ?_
    by_cases e : x = m
    · subst e
      have e1 : WL nd x a x = true := by
        have : WS (WL nd x) x a x = true := h1
        rw [WS_col] at this
        exact this
      have e2 : WL nd x x b = true := by
        have : WS (WL nd x) x x b = true := h2
        rw [WS_row] at this
        exact this
      exact Or.inr ⟨e1, e2⟩
    · rcases WS_iff.mp h1 with a1 | ⟨a1, a2⟩ <;> rcases WS_iff.mp h2 with b1 | ⟨b1, b2⟩
      · exact Or.inl (ih x a b (by omega) a1 b1)
      · exact Or.inr ⟨ih x a m (by omega) a1 b1, b2⟩
      · exact Or.inr ⟨a1, ih x m b (by omega) a2 b1⟩
      · exact Or.inr ⟨a1, b2⟩
theorem WL_out (hz : ∀ a b : Nat, a < 8 → b < 8 → (N ≤ a ∨ N ≤ b ∨ a = b) → nd (8 * a + b) = 0) : ∀ (m a b : Nat), m ≤ 8 → a < 8 → b < 8 → (N ≤ a ∨ N ≤ b) → WL nd m a b = false
  | 0, a, b, _, ha, hb, h => by
    show W0 nd a b = false
    unfold W0
    rw [hz a b ha hb (by omega)]
    rfl
  | m + 1, a, b, hm, ha, hb, h => by
    show WS (WL nd m) m a b = false
    unfold WS
    rw [WL_out hz m a b (by omega) ha hb h]
    rcases h with h | h
    · rw [WL_out hz m a m (by omega) ha (by omega) (Or.inl h)]; rfl
    · rw [WL_out hz m m b (by omega) (by omega) hb (Or.inr h)]; simp
theorem WL_stop (hz : ∀ a b : Nat, a < 8 → b < 8 → (N ≤ a ∨ N ≤ b ∨ a = b) → nd (8 * a + b) = 0) : ∀ (m : Nat), N ≤ m → m ≤ 8 → ∀ a b, a < 8 → b < 8 → WL nd m a b = WL nd N a b := by
  intro m hm
  induction hm with
  | refl => intro _ a b _ _; rfl
  | step hm ih =>
    intro h8 a b ha hb
    rename_i k
    show WS (WL nd k) k a b = _
    unfold WS
    rw [WL_out hz k a k (by omega) ha (by omega) (Or.inr hm), ih (by omega) a b ha hb]
    simp
/-- the closure -/
def LL (nd : Nat → Int) (N a b : Nat) : Bool := WL nd N a b
def SB (nd : Nat → Int) (N a b : Nat) : Bool := decide (a = b) || (LL nd N a b && LL nd N b a)
theorem SB_iff {a b : Nat} : SB nd N a b = true ↔ a = b ∨ (LL nd N a b = true ∧ LL nd N b a = true) := by
  unfold SB
  rw [Bool.or_eq_true, Bool.and_eq_true, decide_eq_true_eq]
theorem LL_tr {x a b : Nat} (hx : x < N) (h1 : LL nd N a x = true) (h2 : LL nd N x b = true) : LL nd N a b = true := WL_tr N x a b hx h1 h2
theorem LL_nd {a b : Nat} (h : 0 < nd (8 * a + b)) : LL nd N a b = true := WL_le (Nat.zero_le N) (show W0 nd a b = true by unfold W0; simpa using h)
theorem SB_sy {a b : Nat} (h : SB nd N a b = true) : SB nd N b a = true := by
  rcases SB_iff.mp h with e | ⟨h1, h2⟩
  · exact SB_iff.mpr (Or.inl e.symm)
  · exact SB_iff.mpr (Or.inr ⟨h2, h1⟩)
theorem SB_tr {a b c : Nat} (hb : b < N) (h : SB nd N a b = true) (k : SB nd N b c = true) : SB nd N a c = true := by
  rcases SB_iff.mp h with e | ⟨h1, h2⟩
  · rw [e]; exact k
  · rcases SB_iff.mp k with e | ⟨k1, k2⟩
    · rw [← e]; exact h
    · exact SB_iff.mpr (Or.inr ⟨LL_tr hb h1 k1, LL_tr hb k2 h2⟩)
theorem LL_SB {a b c : Nat} (hb : b < N) (h : SB nd N a b = true) (k : LL nd N b c = true) : LL nd N a c = true := by
  rcases SB_iff.mp h with e | ⟨h1, _⟩
  · rw [e]; exact k
  · exact LL_tr hb h1 k
/-- out of a set of tasks there is a need, where something outside is leaned on -/
theorem WL_exit {B : Nat → Prop} : ∀ (m a u : Nat), m ≤ N → a < N → u < N → WL nd m a u = true → B a → ¬ B u → ∃ x y, x < N ∧ y < N ∧ B x ∧ ¬ B y ∧ 0 < nd (8 * x + y) ∧ (y = u ∨ LL nd N y u = true)
  | 0, a, u, _, ha, hu, h, hB, hBu => by
    have h : W0 nd a u = true := h
    unfold W0 at h
    exact ⟨a, u, ha, hu, hB, hBu, by simpa using h, Or.inl rfl⟩
  | m + 1, a, u, hm, ha, hu, h, hB, hBu => by
    rcases WS_iff.mp h with h | ⟨h1, h2⟩
    · exact WL_exit m a u (by omega) ha hu h hB hBu
    · rcases Classical.em (B m) with hb | hb
      · exact WL_exit m m u (by omega) (by omega) hu h2 hb hBu
      · obtain ⟨x, y, e1, e2, e3, e4, e5, e6⟩ := WL_exit m a m (by omega) ha (by omega) h1 hB hb
        have hmu : LL nd N m u = true := WL_le (by omega) h2
        refine ⟨x, y, e1, e2, e3, e4, e5, Or.inr ?_⟩
        rcases e6 with e6 | e6
        · rw [e6]; exact hmu
        · exact LL_tr (by omega) e6 hmu
/-- left: the tasks not numbered yet; what is numbered leans on nothing left -/
def closed (nd : Nat → Int) (N : Nat) (lf : Nat → Bool) : Prop := ∀ a b, a < N → b < N → lf a = false → LL nd N a b = true → lf b = false
/-- a task whose block leans on none left outside of it -/
def isC (nd : Nat → Int) (N : Nat) (lf : Nat → Bool) (t : Nat) : Prop := ∀ u, u < N → lf u = true → LL nd N t u = true → SB nd N t u = true
theorem isC_iff {lf : Nat → Bool} (hc : closed nd N lf) {t : Nat} (ht : t < N) : isC nd N lf t ↔ ∀ a b, a < N → b < N → SB nd N t a = true → SB nd N t b = false → lf b = true → ¬ 0 < nd (8 * a + b) := by
  constructor
  · intro h a b ha hb hsa hsb hl hn
    have := h b hb hl (LL_SB ha hsa (LL_nd hn))
    rw [hsb] at this
    cases this
  · intro h u hu hl hL
    cases hs : SB nd N t u with
    | true => rfl
    | false =>
      exfalso
      obtain ⟨x, y, e1, e2, e3, e4, e5, e6⟩ := WL_exit (B := fun z => SB nd N t z = true) N t u (Nat.le_refl _) ht hu hL (SB_iff.mpr (Or.inl rfl)) (by rw [hs]; decide)
      have hy : lf y = true := by
        cases hly : lf y with
        | true => rfl
        | false =>
          rcases e6 with e6 | e6
          · rw [e6] at hly
            rw [hl] at hly
            cases hly
          · rw [hc y u e2 hu hly e6] at hl
            cases hl
      exact h x y e1 e2 e3 (by
        cases h4 : SB nd N t y
        · rfl
        · exact absurd h4 e4) hy e5
def cn (P : Nat → Bool) : Nat → Nat
  | 0 => 0
  | n + 1 => cn P n + (if P n = true then 1 else 0)
theorem cn_le {P R : Nat → Bool} : ∀ n, (∀ i, i < n → P i = true → R i = true) → cn P n ≤ cn R n
  | 0, _ => Nat.le_refl _
  | n + 1, h => by
    have := cn_le n (fun i hi => h i (by omega))
    have h2 := h n (by omega)
    simp only [cn]
    cases hp : P n
    · simp only [Bool.false_eq_true, if_false]
      split <;> omega
    · rw [h2 hp]
      omega
theorem cn_lt {P R : Nat → Bool} {k : Nat} : ∀ n, k < n → (∀ i, i < n → P i = true → R i = true) → P k = false → R k = true → cn P n < cn R n
  | 0, h, _, _, _ => by omega
  | n + 1, h, hi, hp, hr => by
    simp only [cn]
    by_cases e : k = n
    · subst e
      have := cn_le (P := P) (R := R) k (fun i hh => hi i (by omega))
      rw [hp, hr]
      simp only [Bool.false_eq_true, if_false, if_true]
      omega
    · have := cn_lt (P := P) (R := R) n (by omega) (fun i hh => hi i (by omega)) hp hr
      have h2 := hi n (by omega)
      cases hpn : P n
      · simp only [Bool.false_eq_true, if_false]
        split <;> omega
      · rw [h2 hpn]
        omega
theorem cn_top {P : Nat → Bool} : ∀ n, cn P n ≤ n
  | 0 => Nat.le_refl _
  | n + 1 => by
    have := cn_top (P := P) n
    simp only [cn]
    split <;> omega
theorem cn_zero {P : Nat → Bool} : ∀ n, cn P n = 0 → ∀ i, i < n → P i = false
  | 0, _, i, h => by omega
  | n + 1, h, i, hi => by
    simp only [cn] at h
    by_cases e : i = n
    · subst e
      cases hp : P i
      · rfl
      · rw [hp] at h
        simp at h
    · exact cn_zero n (by omega) i (by omega)
/-- there is such a task, as long as any is left -/
theorem isC_ex {lf : Nat → Bool} : ∀ (k t : Nat), t < N → lf t = true → cn (fun v => lf v && (decide (v = t) || LL nd N t v)) N ≤ k → ∃ t, t < N ∧ lf t = true ∧ isC nd N lf t
  | k, t, ht, hl, hk => by
    rcases Classical.em (isC nd N lf t) with h | h
    · exact ⟨t, ht, hl, h⟩
    · have : ∃ u, u < N ∧ lf u = true ∧ LL nd N t u = true ∧ SB nd N t u = false := by
        rcases Classical.em (∃ u, u < N ∧ lf u = true ∧ LL nd N t u = true ∧ SB nd N t u = false) with q | q
        · exact q
        · exact absurd (fun u hu hlu hL => by
            cases hs : SB nd N t u
            · exact absurd ⟨u, hu, hlu, hL, hs⟩ q
            · rfl) h
      obtain ⟨u, hu, hlu, hL, hs⟩ := this
      have hn : ¬ (u = t ∨ LL nd N u t = true) := by
        rintro (e | e)
        · subst e
          rw [SB_iff.mpr (Or.inl rfl)] at hs
          cases hs
        · rw [SB_iff.mpr (Or.inr ⟨hL, e⟩)] at hs
          cases hs
      have hlt := cn_lt (P := fun v => lf v && (decide (v = u) || LL nd N u v)) (R := fun v => lf v && (decide (v = t) || LL nd N t v)) (k := t) N ht (fun i hi hp => by
        simp only [Bool.and_eq_true, Bool.or_eq_true, decide_eq_true_eq] at hp ⊢
        refine ⟨hp.1, Or.inr ?_⟩
        rcases hp.2 with e | e
        · rw [e]; exact hL
        · exact LL_tr hu hL e) (by
        rw [hl]
        simp only [Bool.true_and, Bool.or_eq_false_iff, decide_eq_false_iff_not]
        refine ⟨fun e => hn (Or.inl e.symm), ?_⟩
        cases q : LL nd N u t
        · rfl
        · exact absurd (Or.inr q) hn) (by
        rw [hl]
        simp)
      match k, hk with
      | 0, hk => omega
      | k + 1, hk => exact isC_ex k u hu hlu (by omega)
/-- rounds: (left, how many, numbers) -/
noncomputable def cP (nd : Nat → Int) (N : Nat) (lf : Nat → Bool) (t : Nat) : Bool := lf t && @decide (isC nd N lf t) (Classical.propDecidable _)
theorem cP_iff {lf : Nat → Bool} {t : Nat} : cP nd N lf t = true ↔ lf t = true ∧ isC nd N lf t := by
  unfold cP
  rw [Bool.and_eq_true, @decide_eq_true_eq _ (Classical.propDecidable _)]
noncomputable def nx (nd : Nat → Int) (N : Nat) (lf : Nat → Bool) : Nat := ff (cP nd N lf) N 0
noncomputable def bS (nd : Nat → Int) (N : Nat) : Nat → (Nat → Bool) × Nat × (Nat → Int)
  | 0 => (fun t => decide (t < N), 0, fun _ => -9)
  | r + 1 => if cn (bS nd N r).1 N = 0 then bS nd N r else (fun u => (bS nd N r).1 u && !SB nd N (nx nd N (bS nd N r).1) u, (bS nd N r).2.1 + 1, fun u => if SB nd N (nx nd N (bS nd N r).1) u = true then ((bS nd N r).2.1 : Int) else (bS nd N r).2.2 u)
theorem nx_ok {lf : Nat → Bool} (h : cn lf N ≠ 0) : nx nd N lf < N ∧ lf (nx nd N lf) = true ∧ isC nd N lf (nx nd N lf) := by
  have h1 : ∃ t, t < N ∧ lf t = true := by
    rcases Classical.em (∃ t, t < N ∧ lf t = true) with q | q
    · exact q
    · exfalso
      have hz : cn lf N ≤ cn (fun _ => false) N := cn_le N (fun i hi hp => absurd ⟨i, hi, hp⟩ q)
      have hf : ∀ n, cn (fun _ => false) n = 0 := by
        intro n
        induction n with
        | zero => rfl
        | succ n ih => simp only [cn, ih]; rfl
      rw [hf] at hz
      omega
  obtain ⟨t, ht, hl⟩ := h1
  obtain ⟨t, ht, hl, hc⟩ := isC_ex (nd := nd) N t ht hl (cn_top N)
  have := ff_ok (P := cP nd N lf) N 0 ⟨t, by omega, by omega, cP_iff.mpr ⟨hl, hc⟩⟩
  have h3 := cP_iff.mp this.1
  exact ⟨by unfold nx; omega, h3.1, h3.2⟩
theorem bS_ok : ∀ r, closed nd N (bS nd N r).1 ∧ (∀ u, N ≤ u → (bS nd N r).1 u = false) ∧ cn (bS nd N r).1 N + r ≤ N + (if cn (bS nd N r).1 N = 0 then r else 0) ∧ (∀ u, u < N → ((bS nd N r).1 u = true ↔ (bS nd N r).2.2 u = -9)) ∧ (∀ u, u < N → (bS nd N r).1 u = false → 0 ≤ (bS nd N r).2.2 u) ∧ (bS nd N r).2.1 ≤ r
  | 0 => by
    refine ⟨fun a b ha hb h => by simp only [bS, decide_eq_false_iff_not] at h; omega, fun u hu => by simp only [bS, decide_eq_false_iff_not]; omega, ?_, fun u hu => by simp [bS, hu], fun u hu h => by simp only [bS, decide_eq_false_iff_not] at h; omega, Nat.le_refl _⟩
    have := cn_top (P := (bS nd N 0).1) N
    split <;> omega
  | r + 1 => by
    obtain ⟨h1, h2, h3, h4, h5, h6⟩ := bS_ok r
    by_cases e : cn (bS nd N r).1 N = 0
    · have eb : bS nd N (r + 1) = bS nd N r := by
        show (if cn (bS nd N r).1 N = 0 then _ else _) = _
        exact if_pos e
      rw [eb]
      refine ⟨h1, h2, ?_, h4, h5, by omega⟩
      rw [if_pos e]
      omega
    · have eb : bS nd N (r + 1) = (fun u => (bS nd N r).1 u && !SB nd N (nx nd N (bS nd N r).1) u, (bS nd N r).2.1 + 1, fun u => if SB nd N (nx nd N (bS nd N r).1) u = true then ((bS nd N r).2.1 : Int) else (bS nd N r).2.2 u) := by
        show (if cn (bS nd N r).1 N = 0 then _ else _) = _
        exact if_neg e
      rw [eb]
      obtain ⟨n1, n2, n3⟩ := nx_ok (nd := nd) e
      dsimp only
      refine ⟨fun a b ha hb hla hL => ?_, fun u hu => ?_, ?_, fun u hu => ?_, fun u hu hlu => ?_, by omega⟩
      · rw [Bool.and_eq_false_iff] at hla ⊢
        cases hlb : (bS nd N r).1 b
        · exact Or.inl rfl
        · refine Or.inr ?_
          rcases hla with q | q
          · rw [h1 a b ha hb q hL] at hlb
            cases hlb
          · have hs : SB nd N (nx nd N (bS nd N r).1) a = true := by simpa using q
            rw [n3 b hb hlb (LL_SB ha hs hL)]
            rfl
      · rw [h2 u hu]; rfl
      · have hlt := cn_lt (P := fun u => (bS nd N r).1 u && !SB nd N (nx nd N (bS nd N r).1) u) (R := (bS nd N r).1) (k := nx nd N (bS nd N r).1) N n1 (fun i hi hp => (Bool.and_eq_true_iff.mp hp).1) (by rw [SB_iff.mpr (Or.inl rfl)]; simp) n2
        rw [if_neg e] at h3
        split <;> omega
      · cases hs : SB nd N (nx nd N (bS nd N r).1) u
        · simpa using h4 u hu
        · simp only [Bool.not_true, Bool.and_false, if_true, Bool.false_eq_true, false_iff]
          omega
      · cases hs : SB nd N (nx nd N (bS nd N r).1) u
        · rw [hs] at hlu
          simp only [Bool.false_eq_true, if_false]
          exact h5 u hu (by simpa using hlu)
        · simp only [if_true]
          omega
theorem bS_end : cn (bS nd N N).1 N = 0 := by
  obtain ⟨-, -, h3, -⟩ := bS_ok (nd := nd) (N := N) N
  by_cases e : cn (bS nd N N).1 N = 0
  · exact e
  · rw [if_neg e] at h3
    omega
theorem bS_more {r : Nat} (h : cn (bS nd N r).1 N = 0) : ∀ k, r ≤ k → bS nd N k = bS nd N r := by
  intro k hk
  induction hk with
  | refl => rfl
  | step _ ih =>
    simp only [bS]
    rw [ih, if_pos h]
end REL
end
section
/-! BITS of two sets -/
theorem bb_or : ∀ s : Nat, s < 256 → ∀ t : Nat, t < 256 → bOr (s : Int) (t : Int) = ((s ||| t : Nat) : Int) := by decide +kernel
theorem bb_and : ∀ s : Nat, s < 256 → ∀ t : Nat, t < 256 → bAnd (s : Int) (t : Int) = ((s &&& t : Nat) : Int) := by decide +kernel
theorem bb_sub : ∀ s : Nat, s < 256 → ∀ t : Nat, t < 256 → bAnd (s : Int) (bXor (t : Int) (-1)) = ((s &&& (255 ^^^ t) : Nat) : Int) := by decide +kernel
/-- a set of the tasks below n -/
def bm (P : Nat → Bool) : Nat → Nat
  | 0 => 0
  | n + 1 => bm P n ||| (if P n = true then 2 ^ n else 0)
theorem bm_test {P : Nat → Bool} : ∀ (n t : Nat), (bm P n).testBit t = (decide (t < n) && P t)
  | 0, t => by simp [bm]
  | n + 1, t => by
    simp only [bm]
    rw [Nat.testBit_or, bm_test n t]
    by_cases e : t = n
    · subst e
      cases h : P t
      · simp
      · simp [Nat.testBit_two_pow]
    · have h1 : (if P n = true then 2 ^ n else 0).testBit t = false := by
        split
        · rw [Nat.testBit_two_pow]
          simp
          omega
        · simp
      rw [h1, Bool.or_false, decide_eq_decide.mpr (show t < n ↔ t < n + 1 by omega)]
theorem bm_lt {P : Nat → Bool} : ∀ n, n ≤ 8 → bm P n < 256
  | 0, _ => by simp [bm]
  | n + 1, h => by
    have := bm_lt (P := P) n (by omega)
    simp only [bm]
    split
    · exact bt_lt _ this n (by omega)
    · simpa using this
theorem bm_ext {s t : Nat} (hs : s < 256) (ht : t < 256) (h : ∀ i, i < 8 → s.testBit i = t.testBit i) : s = t := by
  apply Nat.eq_of_testBit_eq
  intro i
  by_cases hi : i < 8
  · exact h i hi
  · rw [Nat.testBit_lt_two_pow (show s < 2 ^ i by
      have : 2 ^ 8 ≤ 2 ^ i := Nat.pow_le_pow_right (by decide) (by omega)
      omega), Nat.testBit_lt_two_pow (show t < 2 ^ i by
      have : 2 ^ 8 ≤ 2 ^ i := Nat.pow_le_pow_right (by decide) (by omega)
      omega)]
theorem bm_congr {P R : Nat → Bool} (h : ∀ i, i < 8 → P i = R i) : bm P 8 = bm R 8 :=
  bm_ext (bm_lt 8 (by omega)) (bm_lt 8 (by omega)) (fun i hi => by rw [bm_test, bm_test, h i hi])
theorem bm_zero {P : Nat → Bool} : bm P 8 = 0 ↔ ∀ i, i < 8 → P i = false := by
  constructor
  · intro h i hi
    have := bm_test (P := P) 8 i
    rw [h, Nat.zero_testBit] at this
    simpa [hi] using this.symm
  · intro h
    exact bm_ext (bm_lt 8 (by omega)) (by omega) (fun i hi => by rw [bm_test, h i hi]; simp)
theorem bm_or (P R : Nat → Bool) : bOr (bm P 8 : Int) (bm R 8 : Int) = ((bm (fun i => P i || R i) 8 : Nat) : Int) := by
  have h1 := bm_lt (P := P) 8 (by omega)
  have h2 := bm_lt (P := R) 8 (by omega)
  rw [bb_or _ h1 _ h2]
  congr 1
  refine bm_ext (Nat.or_lt_two_pow (n := 8) h1 h2) (bm_lt 8 (by omega)) (fun i hi => ?_)
  rw [Nat.testBit_or, bm_test, bm_test, bm_test]
  simp [hi]
theorem bm_and (P R : Nat → Bool) : bAnd (bm P 8 : Int) (bm R 8 : Int) = ((bm (fun i => P i && R i) 8 : Nat) : Int) := by
  have h1 := bm_lt (P := P) 8 (by omega)
  have h2 := bm_lt (P := R) 8 (by omega)
  rw [bb_and _ h1 _ h2]
  congr 1
  refine bm_ext (Nat.lt_of_le_of_lt Nat.and_le_left h1) (bm_lt 8 (by omega)) (fun i hi => ?_)
  rw [Nat.testBit_and, bm_test, bm_test, bm_test]
  simp [hi]
theorem bm_sub (P R : Nat → Bool) : bAnd (bm P 8 : Int) (bXor (bm R 8 : Int) (-1)) = ((bm (fun i => P i && !R i) 8 : Nat) : Int) := by
  have h1 := bm_lt (P := P) 8 (by omega)
  have h2 := bm_lt (P := R) 8 (by omega)
  rw [bb_sub _ h1 _ h2]
  congr 1
  refine bm_ext (Nat.lt_of_le_of_lt Nat.and_le_left h1) (bm_lt 8 (by omega)) (fun i hi => ?_)
  rw [Nat.testBit_and, Nat.testBit_xor, bm_test, bm_test, bm_test, bt_top 8 (by omega) i hi]
  simp [hi]
theorem bm_one {t : Nat} (ht : t < 8) : bShl 1 (t : Int) = ((bm (fun i => decide (t = i)) 8 : Nat) : Int) := by
  rw [bt_shl t (by omega)]
  congr 1
  have h2 : 2 ^ t < 256 := Nat.pow_lt_pow_right (show 1 < 2 by decide) (show t < 8 by omega)
  refine bm_ext h2 (bm_lt 8 (by omega)) (fun i hi => ?_)
  rw [bm_test, Nat.testBit_two_pow]
  simp [hi]
theorem bm_all {N : Nat} (hN : N ≤ 8) : bShl 1 (N : Int) - 1 = ((bm (fun i => decide (i < N)) 8 : Nat) : Int) := by
  rw [bt_shl N (by omega)]
  have h2 := bt_2 N (by omega)
  have : 2 ^ N - 1 = bm (fun i => decide (i < N)) 8 := by
    refine bm_ext (by omega) (bm_lt 8 (by omega)) (fun i hi => ?_)
    rw [bm_test, Nat.testBit_two_pow_sub_one]
    simp [hi]
  rw [← this]
  omega
theorem bm_ne {P : Nat → Bool} {t : Nat} (ht : t < 8) : bAnd (bm P 8 : Int) (bShl 1 (t : Int)) ≠ 0 ↔ P t = true := by
  rw [bt_ne (bm_lt 8 (by omega)) ht, bm_test]
  simp [ht]
theorem bm_inR (P : Nat → Bool) : inR ((bm P 8 : Nat) : Int) := by
  have := bm_lt (P := P) 8 (by omega)
  omega
end
section
/-! RINGS: the class -/
def b2 (b : Bool) : Int := if b = true then 1 else 0
theorem b2_in (b : Bool) : inR (b2 b) := by
  unfold b2
  split <;> omega
theorem b2_0 {b : Bool} : b2 b = 0 ↔ b = false := by
  unfold b2
  cases b <;> simp
theorem cn_no {P : Nat → Bool} : ∀ n, (∀ i, i < n → P i = false) → cn P n = 0
  | 0, _ => rfl
  | n + 1, h => by
    have := cn_no n (fun i hi => h i (by omega))
    simp [cn, this, h n (by omega)]
theorem cn_bm {lf : Nat → Bool} {N : Nat} (hN : N ≤ 8) (h : ∀ u, N ≤ u → lf u = false) : cn lf N = 0 ↔ bm lf 8 = 0 := by
  rw [bm_zero]
  constructor
  · intro e i hi
    by_cases h2 : i < N
    · exact cn_zero N e i h2
    · exact h i (by omega)
  · intro e
    exact cn_no N (fun i hi => e i (by omega))
section RINGS
variable {sc : Nat → Int} {ar : Nat → Nat → Int} {Q : Option mV → mH → Prop} {d : Nat} {N : Nat} {nd : Nat → Int}
/-- rows as sets -/
def RW (N : Nat) (f : Nat → Int) (g : Nat → Nat → Bool) : Prop := ∀ a, a < N → f a = ((bm (g a) 8 : Nat) : Int)
theorem ct_isLeaning {a b : Nat} {g : Nat → Nat → Bool} (hN : N ≤ 8) (ha : a < N) (hb : b < 8) (hf : RW N (ar 64) g) (k : Q (some (vI (b2 (g a b)))) (sc, ar)) : Ev (d + 1) M_Rings_isLeaning (0, [some (vO 4), some (vI a), some (vI b)], [], (sc, ar)) Q := by
  refine Ev.deep (Nat.le_add_left 1 d) (sg_Rings_isLeaning_0 ⟨by omega, fun c => by omega, fun _ => ⟨by omega, fun c => by omega, fun _ => ct_valueOf (by decide) (by omega) (by show (a : Int) < 8; omega) (by show (8 : Int) < _; omega) (sg_Rings_isLeaning_18 ?_)⟩⟩)
  rw [Int.toNat_natCast, hf a ha]
  refine ⟨bt_inR (bm_lt 8 (by omega)) hb, fun c => ?_, fun c => ?_⟩
  · have : g a b = false := by
      cases h : g a b
      · rfl
      · exact absurd c ((bm_ne hb).mpr h)
    rw [this] at k
    exact k
  · rw [(bm_ne hb).mp c] at k
    exact k
theorem lp_lean1I {a : Nat} {a0 : Nat → Nat → Int} (hN : N ≤ 8) (hnd : a0 16 = nd) (hR : R9 nd) (hz : ∀ a b : Nat, a < 8 → b < 8 → (N ≤ a ∨ N ≤ b ∨ a = b) → nd (8 * a + b) = 0) (ha : a < N) {f : Nat → Int} (k : Ev 2 M_Rings_lean (2, [some (vO 4), some (vI N), some (vO 1), some (vI ((a : Int) + 1)), none], [], (sc, up a0 64 (up f a (bm (W0 nd a) 8 : Nat)))) Q) :
    ∀ j b : Nat, b + j = N → Ev 2 M_Rings_lean (23, [some (vO 4), some (vI N), some (vO 1), some (vI a), some (vI b)], [], (sc, up a0 64 (up f a (bm (fun x => decide (x < b) && W0 nd a x) 8 : Nat)))) Q := by
  intro j
  induction j with
  | zero =>
    intro b hb
    have : b = N := by omega
    subst this
    refine sg_Rings_lean_23 ⟨by omega, by omega, fun _ => ?_, fun c => by omega⟩
    rw [bm_congr (P := fun x => decide (x < b) && W0 nd a x) (R := W0 nd a) (fun i hi => by
      by_cases h : i < b
      · simp [h]
      · unfold W0
        rw [hz a i (by omega) hi (by omega)]
        simp)]
    exact k
  | succ j ih =>
    intro b hb
    have h1 := ih (b + 1) (by omega)
    have r1 := hR.at (show a < 8 by omega) (show b < 8 by omega)
    refine sg_Rings_lean_23 ⟨by omega, by omega, fun c => by omega, fun _ => ⟨by omega, by omega, ct_getN (by omega) (by omega) (sg_Rings_lean_43 ?_)⟩⟩
    rw [up_ne _ _ (show (16 : Nat) ≠ 64 by decide), hnd]
    rw [show (8 * (a : Int) + (b : Int)).toNat = 8 * a + b by omega]
    simp only [up_eq, up_up, Int.toNat_natCast]
    refine ⟨by omega, fun c => ⟨by omega, by omega, ?_⟩, fun c => ⟨by omega, by omega, ?_⟩⟩
    · rw [show (0 : Int) = ((bm (fun _ => false) 8 : Nat) : Int) by decide, bm_or]
      rw [bm_congr (R := fun x => decide (x < b + 1) && W0 nd a x) (fun i hi => by
        by_cases e : i = b
        · subst e
          have : W0 nd a i = false := by unfold W0; simpa using c
          rw [this]
          simp
        · rw [Bool.or_false, decide_eq_decide.mpr (show i < b ↔ i < b + 1 by omega)])]
      exact h1
    · rw [bm_one (by omega), bm_or]
      rw [bm_congr (R := fun x => decide (x < b + 1) && W0 nd a x) (fun i hi => by
        by_cases e : i = b
        · subst e
          have : W0 nd a i = true := by
            unfold W0
            rw [decide_eq_true_eq]
            omega
          rw [this]
          simp
        · rw [decide_eq_false (show ¬ b = i by omega), Bool.or_false, decide_eq_decide.mpr (show i < b ↔ i < b + 1 by omega)])]
      exact h1
theorem lp_lean1 {a0 : Nat → Nat → Int} (hN : N ≤ 8) (hnd : a0 16 = nd) (hR : R9 nd) (hz : ∀ a b : Nat, a < 8 → b < 8 → (N ≤ a ∨ N ≤ b ∨ a = b) → nd (8 * a + b) = 0) (k : ∀ f, RW N f (W0 nd) → Ev 2 M_Rings_lean (70, [some (vO 4), some (vI N), some (vO 1), some (vI 0), none], [], (sc, up a0 64 f)) Q) :
    ∀ j a : Nat, a + j = N → ∀ f, RW a f (W0 nd) → Ev 2 M_Rings_lean (2, [some (vO 4), some (vI N), some (vO 1), some (vI a), none], [], (sc, up a0 64 f)) Q := by
  intro j
  induction j with
  | zero =>
    intro a ha f hf
    have : a = N := by omega
    subst this
    exact sg_Rings_lean_2 ⟨by omega, by omega, fun _ => k f hf, fun c => by omega⟩
  | succ j ih =>
    intro a ha f hf
    refine sg_Rings_lean_2 ⟨by omega, by omega, fun c => by omega, fun _ => ⟨by omega, fun c => by omega, fun _ => ⟨by omega, by omega, ?_⟩⟩⟩
    simp only [up_eq, up_up, Int.toNat_natCast]
    have := lp_lean1I (sc := sc) (Q := Q) (f := f) hN hnd hR hz (show a < N by omega) (ih (a + 1) (by omega) _ (fun x hx => by
      by_cases e : x = a
      · rw [e, up_eq]
      · rw [up_ne _ _ e]
        exact hf x (by omega))) N 0 (by omega)
    rw [show bm (fun x => decide (x < 0) && W0 nd a x) 8 = 0 by
      rw [bm_zero]
      intro i hi
      simp] at this
    exact this
theorem lp_lean2I {m : Nat} {a0 : Nat → Nat → Int} (hN : N ≤ 8) (hm : m < N) (k : ∀ f, RW N f (WL nd (m + 1)) → Ev 2 M_Rings_lean (70, [some (vO 4), some (vI N), some (vO 1), some (vI ((m : Int) + 1)), none], [], (sc, up a0 64 f)) Q) :
    ∀ j i : Nat, i + j = N → ∀ f, RW N f (fun a => if a < i then WL nd (m + 1) a else WL nd m a) → Ev 2 M_Rings_lean (84, [some (vO 4), some (vI N), some (vO 1), some (vI m), some (vI i)], [], (sc, up a0 64 f)) Q := by
  intro j
  induction j with
  | zero =>
    intro i hi f hf
    have : i = N := by omega
    subst this
    refine sg_Rings_lean_84 ⟨by omega, by omega, fun _ => k f (fun a ha => ?_), fun c => by omega⟩
    have := hf a ha
    dsimp only at this
    rw [if_pos ha] at this
    exact this
  | succ j ih =>
    intro i hi f hf
    have ei : f i = ((bm (WL nd m i) 8 : Nat) : Int) := by
      have := hf i (by omega)
      dsimp only at this
      rw [if_neg (by omega)] at this
      exact this
    have em : f m = ((bm (WL nd m m) 8 : Nat) : Int) := by
      have := hf m (by omega)
      dsimp only at this
      by_cases h : m < i
      · rw [if_pos h] at this
        rw [this]
        congr 1
        refine bm_congr (fun x hx => ?_)
        exact WS_row
      · rw [if_neg h] at this
        exact this
    refine sg_Rings_lean_84 ⟨by omega, by omega, fun c => by omega, fun _ => ⟨by omega, fun c => by omega, fun _ => ⟨by omega, by omega, ct_isLeaning (N := N) (g := fun a => if a < i then WL nd (m + 1) a else WL nd m a) hN (by omega) (by omega) (by rw [up_eq]; exact hf) (sg_Rings_lean_112 ?_)⟩⟩⟩
    rw [if_neg (Nat.lt_irrefl i)]
    simp only [up_eq, up_up, Int.toNat_natCast]
    have go : ∀ v, v = ((bm (WL nd (m + 1) i) 8 : Nat) : Int) → Ev 2 M_Rings_lean (84, [some (vO 4), some (vI N), some (vO 1), some (vI m), some (vI ((i : Int) + 1))], [], (sc, up a0 64 (up f i v))) Q := by
      intro v hv
      refine ih (i + 1) (by omega) _ (fun a ha => ?_)
      by_cases e : a = i
      · subst e
        dsimp only
        rw [up_eq, hv, if_pos (by omega)]
      · rw [up_ne _ _ e, hf a ha]
        dsimp only
        by_cases h : a < i
        · rw [if_pos h, if_pos (by omega)]
        · rw [if_neg h, if_neg (by omega)]
    refine ⟨b2_in _, fun c => ⟨by omega, by omega, go _ ?_⟩, fun c => ⟨by omega, by omega, by omega, by omega, go _ ?_⟩⟩
    · have c := b2_0.mp c
      rw [ei, show (0 : Int) = ((bm (fun _ => false) 8 : Nat) : Int) by decide, bm_or]
      congr 1
      refine bm_congr (fun x hx => ?_)
      show _ = WS (WL nd m) m i x
      unfold WS
      rw [c]
      rfl
    · have c : WL nd m i m = true := by
        cases h : WL nd m i m
        · exact absurd (b2_0.mpr h) c
        · rfl
      rw [ei, em, bm_or]
      congr 1
      refine bm_congr (fun x hx => ?_)
      show _ = WS (WL nd m) m i x
      unfold WS
      rw [c]
      rfl
theorem lp_lean2 {a0 : Nat → Nat → Int} (hN : N ≤ 8) (k : ∀ f, RW N f (LL nd N) → Q none (sc, up a0 64 f)) :
    ∀ j m : Nat, m + j = N → ∀ f, RW N f (WL nd m) → Ev 2 M_Rings_lean (70, [some (vO 4), some (vI N), some (vO 1), some (vI m), none], [], (sc, up a0 64 f)) Q := by
  intro j
  induction j with
  | zero =>
    intro m hm f hf
    have : m = N := by omega
    subst this
    exact sg_Rings_lean_70 ⟨by omega, by omega, fun _ => k f hf, fun c => by omega⟩
  | succ j ih =>
    intro m hm f hf
    refine sg_Rings_lean_70 ⟨by omega, by omega, fun c => by omega, fun _ => ⟨by omega, fun c => by omega, fun _ => lp_lean2I hN (by omega) (ih (m + 1) (by omega)) N 0 (by omega) f (fun a ha => ?_)⟩⟩
    dsimp only
    rw [if_neg (by omega)]
    exact hf a ha
theorem ct_leanC (hN : N ≤ 8) (hnd : ar 16 = nd) (hR : R9 nd) (hz : ∀ a b : Nat, a < 8 → b < 8 → (N ≤ a ∨ N ≤ b ∨ a = b) → nd (8 * a + b) = 0) (k : ∀ f, RW N f (LL nd N) → Q none (sc, up ar 64 f)) : Ev (d + 2) M_Rings_lean (0, [some (vO 4), some (vI N), some (vO 1), none, none], [], (sc, ar)) Q := by
  refine Ev.deep (Nat.le_add_left 2 d) (sg_Rings_lean_0 ?_)
  have := lp_lean1 (sc := sc) (Q := Q) hN hnd hR hz (fun f hf => lp_lean2 hN k N 0 (by omega) f hf) N 0 (by omega) (ar 64) (fun a ha => by omega)
  rw [up_id] at this
  exact this
theorem lp_blockAround {t : Nat} (hN : N ≤ 8) (ht : t < N) (hf : RW N (ar 64) (LL nd N)) (hz : ∀ a b : Nat, a < 8 → b < 8 → (N ≤ a ∨ N ≤ b ∨ a = b) → nd (8 * a + b) = 0) (k : Q (some (vI (bm (SB nd N t) 8 : Nat))) (sc, ar)) :
    ∀ j i : Nat, i + j = N → Ev 2 M_Rings_blockAround (7, [some (vO 4), some (vI t), some (vI N), some (vI (bm (fun x => decide (t = x) || (decide (x < i) && (LL nd N t x && LL nd N x t))) 8 : Nat)), some (vI i)], [], (sc, ar)) Q := by
  intro j
  induction j with
  | zero =>
    intro i hi
    have : i = N := by omega
    subst this
    refine sg_Rings_blockAround_7 ⟨by omega, by omega, fun _ => ?_, fun c => by omega⟩
    rw [bm_congr (R := SB nd i t) (fun x hx => by
      unfold SB
      by_cases h : x < i
      · rw [decide_eq_true h, Bool.true_and]
      · have : LL nd i t x = false := WL_out hz i t x hN (by omega) hx (by omega)
        rw [this]
        simp)]
    exact k
  | succ j ih =>
    intro i hi
    have h1 := ih (i + 1) (by omega)
    have skip : (LL nd N t i && LL nd N i t) = false → Ev 2 M_Rings_blockAround (7, [some (vO 4), some (vI t), some (vI N), some (vI (bOr (bm (fun x => decide (t = x) || (decide (x < i) && (LL nd N t x && LL nd N x t))) 8 : Nat) 0)), some (vI ((i : Int) + 1))], [], (sc, ar)) Q := by
      intro h
      rw [show (0 : Int) = ((bm (fun _ => false) 8 : Nat) : Int) by decide, bm_or]
      rw [bm_congr (R := fun x => decide (t = x) || (decide (x < i + 1) && (LL nd N t x && LL nd N x t))) (fun x hx => by
        rw [Bool.or_false]
        by_cases e : x = i
        · rw [e, h]
          simp
        · rw [decide_eq_decide.mpr (show x < i ↔ x < i + 1 by omega)])]
      exact h1
    refine sg_Rings_blockAround_7 ⟨by omega, by omega, fun c => by omega, fun _ => ct_isLeaning hN ht (by omega) hf (sg_Rings_blockAround_21 ⟨b2_in _, fun c => skip (by rw [b2_0.mp c]; rfl), fun c => ct_isLeaning hN (by omega) (by omega) hf (sg_Rings_blockAround_31 ⟨b2_in _, fun c2 => skip (by rw [b2_0.mp c2]; simp), fun c2 => ?_⟩)⟩)⟩
    have e1 : LL nd N t i = true := by
      cases h : LL nd N t i
      · exact absurd (b2_0.mpr h) c
      · rfl
    have e2 : LL nd N i t = true := by
      cases h : LL nd N i t
      · exact absurd (b2_0.mpr h) c2
      · rfl
    rw [bm_one (by omega), bm_or]
    rw [bm_congr (R := fun x => decide (t = x) || (decide (x < i + 1) && (LL nd N t x && LL nd N x t))) (fun x hx => by
      by_cases e : x = i
      · rw [e, e1, e2]
        simp
      · rw [decide_eq_false (show ¬ i = x by omega), Bool.or_false, decide_eq_decide.mpr (show x < i ↔ x < i + 1 by omega)])]
    exact h1
theorem ct_blockAround {t : Nat} (hN : N ≤ 8) (ht : t < N) (hf : RW N (ar 64) (LL nd N)) (hz : ∀ a b : Nat, a < 8 → b < 8 → (N ≤ a ∨ N ≤ b ∨ a = b) → nd (8 * a + b) = 0) (k : Q (some (vI (bm (SB nd N t) 8 : Nat))) (sc, ar)) : Ev (d + 2) M_Rings_blockAround (0, [some (vO 4), some (vI t), some (vI N), none, none], [], (sc, ar)) Q := by
  refine Ev.deep (Nat.le_add_left 2 d) (sg_Rings_blockAround_0 ?_)
  have := lp_blockAround hN ht hf hz k N 0 (by omega)
  rw [bm_one (by omega)]
  rw [bm_congr (R := fun x => decide (t = x)) (fun x hx => by simp)] at this
  exact this
theorem lp_nextBlock {lf : Nat → Bool} (hN : N ≤ 8) (hf : RW N (ar 64) (LL nd N)) (hz : ∀ a b : Nat, a < 8 → b < 8 → (N ≤ a ∨ N ≤ b ∨ a = b) → nd (8 * a + b) = 0) :
    ∀ j i : Nat, i + j = N → (∃ t, i ≤ t ∧ t < i + j ∧ cP nd N lf t = true) → Q (some (vI (bm (SB nd N (ff (cP nd N lf) j i)) 8 : Nat))) (sc, ar) → Ev 3 M_Rings_nextBlock (2, [some (vO 4), some (vI N), some (vI (bm lf 8 : Nat)), some (vI i), none], [], (sc, ar)) Q := by
  intro j
  induction j with
  | zero =>
    intro i hi h _
    obtain ⟨t, _, _, _⟩ := h
    omega
  | succ j ih =>
    intro i hi hx k
    simp only [ff] at k
    have skip : cP nd N lf i = false → Ev 3 M_Rings_nextBlock (2, [some (vO 4), some (vI N), some (vI (bm lf 8 : Nat)), some (vI ((i : Int) + 1)), none], [], (sc, ar)) Q := by
      intro h
      refine ih (i + 1) (by omega) ?_ ?_
      · obtain ⟨t, h1, h2, h3⟩ := hx
        have : t ≠ i := fun e => by
          rw [e, h] at h3
          cases h3
        exact ⟨t, by omega, by omega, h3⟩
      · rw [h] at k
        simpa using k
    have hL : ∀ u, u < 8 → N ≤ u → LL nd N i u = false := fun u hu h => WL_out hz N i u hN (by omega) hu (Or.inr h)
    refine sg_Rings_nextBlock_2 ⟨by omega, by omega, fun c => by omega, fun _ => ct_blockAround hN (by omega) hf hz (sg_Rings_nextBlock_13 ⟨bt_inR (bm_lt 8 (by omega)) (by omega), fun c => skip ?_, fun c => ct_valueOf (by decide) (by omega) (by show (i : Int) < 8; omega) (by show (8 : Int) < _; omega) (sg_Rings_nextBlock_31 ?_)⟩)⟩
    · cases h : cP nd N lf i
      · rfl
      · exact absurd c ((bm_ne (by omega)).mpr (cP_iff.mp h).1)
    · have hl := (bm_ne (by omega)).mp c
      rw [Int.toNat_natCast, hf i (by omega), bm_and, bm_sub]
      refine ⟨bm_inR _, fun c => skip ?_, fun c => ?_⟩
      · cases h : cP nd N lf i
        · rfl
        · refine absurd ?_ c
          have h2 := (cP_iff.mp h).2
          rw [bm_zero.mpr (fun u hu => ?_)]
          · rfl
          · by_cases hu2 : u < N
            · have h3 := h2 u hu2
              cases e1 : lf u
              · simp
              · cases e2 : LL nd N i u
                · rfl
                · rw [h3 e1 e2]
                  rfl
            · rw [hL u hu (by omega)]
              rfl
      · have : cP nd N lf i = true := by
          refine cP_iff.mpr ⟨hl, fun u hu h1 h2 => ?_⟩
          have h0 : bm (fun x => (LL nd N i x && lf x) && !SB nd N i x) 8 = 0 := by omega
          have := bm_zero.mp h0 u (by omega)
          rw [h1, h2] at this
          simpa using this
        rw [this] at k
        exact k
theorem ct_nextBlock {lf : Nat → Bool} (hN : N ≤ 8) (hf : RW N (ar 64) (LL nd N)) (hz : ∀ a b : Nat, a < 8 → b < 8 → (N ≤ a ∨ N ≤ b ∨ a = b) → nd (8 * a + b) = 0) (hc : cn lf N ≠ 0) (k : Q (some (vI (bm (SB nd N (nx nd N lf)) 8 : Nat))) (sc, ar)) : Ev (d + 3) M_Rings_nextBlock (0, [some (vO 4), some (vI N), some (vI (bm lf 8 : Nat)), none, none], [], (sc, ar)) Q := by
  obtain ⟨n1, n2, n3⟩ := nx_ok (nd := nd) hc
  exact Ev.deep (Nat.le_add_left 3 d) (sg_Rings_nextBlock_0 (lp_nextBlock hN hf hz N 0 (by omega) ⟨nx nd N lf, by omega, by omega, cP_iff.mpr ⟨n2, n3⟩⟩ k))
theorem lp_numberI {lf : Nat → Bool} {t r : Nat} {a0 : Nat → Nat → Int} (hN : N ≤ 8) (f : Nat → Int) (k : Ev 4 M_Rings_number (13, [some (vO 4), some (vI N), some (vI (bm (fun u => lf u && !SB nd N t u) 8 : Nat)), some (vI ((r : Int) + 1)), none, none], [], (up sc 66 (sc 66 + 1), up a0 65 (fun u => if (decide (u < N) && SB nd N t u) = true then sc 66 else f u))) Q) :
    ∀ j i : Nat, i + j = N → Ev 4 M_Rings_number (33, [some (vO 4), some (vI N), some (vI (bm lf 8 : Nat)), some (vI r), some (vI (bm (SB nd N t) 8 : Nat)), some (vI i)], [], (sc, up a0 65 (fun u => if (decide (u < i) && SB nd N t u) = true then sc 66 else f u))) Q := by
  intro j
  induction j with
  | zero =>
    intro i hi
    have : i = N := by omega
    subst this
    refine sg_Rings_number_33 ⟨by omega, by omega, fun _ => ?_, fun c => by omega⟩
    rw [bm_sub]
    exact k
  | succ j ih =>
    intro i hi
    have h1 := ih (i + 1) (by omega)
    refine sg_Rings_number_33 ⟨by omega, by omega, fun c => by omega, fun _ => ⟨by omega, fun c => by omega, fun _ => ⟨bt_inR (bm_lt 8 (by omega)) (by omega), fun c => ?_, fun c => ⟨by omega, by omega, ?_⟩⟩⟩⟩
    · have hs : SB nd N t i = false := by
        cases h : SB nd N t i
        · rfl
        · exact absurd c ((bm_ne (by omega)).mpr h)
      rw [show (fun u => if (decide (u < i) && SB nd N t u) = true then sc 66 else f u) = (fun u => if (decide (u < i + 1) && SB nd N t u) = true then sc 66 else f u) by
        funext u
        by_cases e : u = i
        · rw [e, hs]
          simp
        · rw [decide_eq_decide.mpr (show u < i ↔ u < i + 1 by omega)]]
      exact h1
    · have hs := (bm_ne (by omega)).mp c
      simp only [up_eq, up_up, Int.toNat_natCast]
      rw [show up (fun u => if (decide (u < i) && SB nd N t u) = true then sc 66 else f u) i (sc 66) = (fun u => if (decide (u < i + 1) && SB nd N t u) = true then sc 66 else f u) by
        funext u
        by_cases e : u = i
        · rw [e, up_eq, hs]
          simp
        · rw [up_ne _ _ e, decide_eq_decide.mpr (show u < i ↔ u < i + 1 by omega)]]
      exact h1
theorem lp_number {a0 : Nat → Nat → Int} {s0 : Nat → Int} (hN : N ≤ 8) (hf : RW N (a0 64) (LL nd N)) (hz : ∀ a b : Nat, a < 8 → b < 8 → (N ≤ a ∨ N ≤ b ∨ a = b) → nd (8 * a + b) = 0) (k : ∀ f, (∀ u, u < N → f u = (bS nd N N).2.2 u) → Q none (up s0 66 ((bS nd N N).2.1 : Nat), up a0 65 f)) :
    ∀ j r : Nat, r + j = N → ∀ f, (∀ u, u < N → (bS nd N r).1 u = false → f u = (bS nd N r).2.2 u) → Ev 4 M_Rings_number (13, [some (vO 4), some (vI N), some (vI (bm (bS nd N r).1 8 : Nat)), some (vI r), none, none], [], (up s0 66 ((bS nd N r).2.1 : Nat), up a0 65 f)) Q := by
  intro j
  induction j with
  | zero =>
    intro r hr f h
    have : r = N := by omega
    subst this
    exact sg_Rings_number_13 ⟨by omega, by omega, fun _ => k f (fun u hu => h u hu (cn_zero r bS_end u hu)), fun c => by omega⟩
  | succ j ih =>
    intro r hr f h
    obtain ⟨b1, b2', b3, b4, b5, b6⟩ := bS_ok (nd := nd) (N := N) r
    have hcb := cn_bm (lf := (bS nd N r).1) hN b2'
    refine sg_Rings_number_13 ⟨by omega, by omega, fun c => by omega, fun _ => ⟨bm_inR _, fun c => ?_, fun c => ?_⟩⟩
    · have hc : cn (bS nd N r).1 N = 0 := hcb.mpr (by omega)
      have := bS_more hc N (by omega)
      rw [this] at k
      exact k f (fun u hu => h u hu (cn_zero N hc u hu))
    · have hc : cn (bS nd N r).1 N ≠ 0 := fun e => c (by have := hcb.mp e; omega)
      have eb : bS nd N (r + 1) = (fun u => (bS nd N r).1 u && !SB nd N (nx nd N (bS nd N r).1) u, (bS nd N r).2.1 + 1, fun u => if SB nd N (nx nd N (bS nd N r).1) u = true then ((bS nd N r).2.1 : Int) else (bS nd N r).2.2 u) := by
        show (if cn (bS nd N r).1 N = 0 then _ else _) = _
        exact if_neg hc
      refine ct_nextBlock (d := 0) hN (by rw [up_ne _ _ (by decide)]; exact hf) hz hc (sg_Rings_number_28 ?_)
      have h1 := ih (r + 1) (by omega)
      rw [eb] at h1
      dsimp only at h1
      have := lp_numberI (sc := up s0 66 ((bS nd N r).2.1 : Nat)) (Q := Q) (a0 := a0) (nd := nd) (lf := (bS nd N r).1) (t := nx nd N (bS nd N r).1) (r := r) hN f (by
        simp only [up_eq, up_up]
        refine h1 _ (fun u hu hl => ?_)
        cases hs : SB nd N (nx nd N (bS nd N r).1) u
        · rw [hs] at hl
          simp only [Bool.and_false, Bool.false_eq_true, if_false]
          exact h u hu (by simpa using hl)
        · simp [hu]) N 0 (by omega)
      rw [show (fun u => if (decide (u < 0) && SB nd N (nx nd N (bS nd N r).1) u) = true then up s0 66 ((bS nd N r).2.1 : Int) 66 else f u) = f by
        funext u
        simp] at this
      exact this
theorem ct_ringsFind (hN : N ≤ 8) (hnd : ar 16 = nd) (hR : R9 nd) (hz : ∀ a b : Nat, a < 8 → b < 8 → (N ≤ a ∨ N ≤ b ∨ a = b) → nd (8 * a + b) = 0) (k : ∀ f g, RW N f (LL nd N) → (∀ u, u < N → g u = (bS nd N N).2.2 u) → Q none (up sc 66 ((bS nd N N).2.1 : Nat), up (up ar 64 f) 65 g)) : Ev (d + 5) M_Rings_find (0, [some (vO 4), some (vI N), some (vO 1)], [], (sc, ar)) Q := by
  refine Ev.deep (Nat.le_add_left 5 d) (sg_Rings_find_0 (ct_leanC (d := 2) hN hnd hR hz (fun f hf => sg_Rings_find_6 (sg_Rings_number_0 ?_))))
  have := lp_number (Q := fun r1 h1 => Ev 5 M_Rings_find (11, [some (vO 4), some (vI N), some (vO 1)], mPush r1 [], h1) Q) (a0 := up ar 64 f) (s0 := sc) (nd := nd) hN (by rw [up_eq]; exact hf) hz (fun g hg => sg_Rings_find_11 (k f g hf hg)) N 0 (by omega) ((up ar 64 f) 65) (fun u hu h => by
    simp only [bS, decide_eq_false_iff_not] at h
    omega)
  rw [up_id] at this
  rw [bm_all hN]
  exact this
end RINGS
end
