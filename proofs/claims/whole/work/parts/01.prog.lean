/-! THE PROGRAM, printed by tools/prog.py out of the claim's own names: an instruction with what its pool entry means, place by place -/
abbrev mV : Type := Int ⊕ Int ⊕ Nat ⊕ Nat
abbrev mE : Type := Instr × Nat × Nat × Int
def mNth {α : Type} : List α → Nat → Option α
  | [], _ => none
  | a :: _, 0 => some a
  | _ :: l, n + 1 => mNth l n
abbrev M_Math_max : Nat := 0
abbrev M_Math_min : Nat := 1
abbrev M_Arr_fillL : Nat := 2
abbrev M_Arr_fillI : Nat := 3
abbrev M_Table_get : Nat := 4
abbrev M_Table_bothWays : Nat := 5
abbrev M_Table_put : Nat := 6
abbrev M_Table_sumOfRow : Nat := 7
abbrev M_Table_sum : Nat := 8
abbrev M_Table_howMany : Nat := 9
abbrev M_Table_holds : Nat := 10
abbrev M_Order_hasPlace : Nat := 11
abbrev M_Order_length : Nat := 12
abbrev M_Order_taskAt : Nat := 13
abbrev M_Order_placeOf : Nat := 14
abbrev M_Order_clear : Nat := 15
abbrev M_Order_add : Nat := 16
abbrev M_Order_restart : Nat := 17
abbrev M_Order_become : Nat := 18
abbrev M_Order_exchange : Nat := 19
abbrev M_Order_guessOf : Nat := 20
abbrev M_Beside_endAt : Nat := 21
abbrev M_Beside_latest : Nat := 22
abbrev M_Beside_reckon : Nat := 23
abbrev M_Spread_forceAt : Nat := 24
abbrev M_Spread_howMany : Nat := 25
abbrev M_Spread_from : Nat := 26
abbrev M_Spread_strongestLeft : Nat := 27
abbrev M_Spread_passOn : Nat := 28
abbrev M_Spread_isLeft : Nat := 29
abbrev M_Least_leastGuess : Nat := 30
abbrev M_Least_find : Nat := 31
abbrev M_Least_leastAfter : Nat := 32
abbrev M_Least_firstOfLeast : Nat := 33
abbrev M_Least_guessWithNext : Nat := 34
abbrev M_Team_leastBetween : Nat := 35
abbrev M_Team_teamOf : Nat := 36
abbrev M_Team_find : Nat := 37
abbrev M_Team_assign : Nat := 38
abbrev M_Team_mayBeBetter : Nat := 39
abbrev M_Team_keep : Nat := 40
abbrev M_Team_cutBefore : Nat := 41
abbrev M_Returns_above : Nat := 42
abbrev M_Returns_below : Nat := 43
abbrev M_Returns_reckonOne : Nat := 44
abbrev M_Returns_reckon : Nat := 45
abbrev M_Returns_spentFrom : Nat := 46
abbrev M_Returns_refine : Nat := 47
abbrev M_Rings_isLeaning : Nat := 48
abbrev M_Rings_howMany : Nat := 49
abbrev M_Rings_numberOf : Nat := 50
abbrev M_Rings_find : Nat := 51
abbrev M_Rings_lean : Nat := 52
abbrev M_Rings_number : Nat := 53
abbrev M_Rings_nextBlock : Nat := 54
abbrev M_Rings_blockAround : Nat := 55
abbrev M_Dt_task : Nat := 56
abbrev M_Dt_time : Nat := 57
abbrev M_Dt_need : Nat := 58
abbrev M_Dt_strength : Nat := 59
abbrev M_Dt_leans : Nat := 60
abbrev M_Dt_blocks : Nat := 61
abbrev M_Dt_block : Nat := 62
abbrev M_Dt_least : Nat := 63
abbrev M_Dt_leastAt : Nat := 64
abbrev M_Dt_saved : Nat := 65
abbrev M_Dt_at : Nat := 66
abbrev M_Dt_swap : Nat := 67
abbrev M_Dt_take : Nat := 68
abbrev M_Dt_guess : Nat := 69
abbrev M_Dt_torn : Nat := 70
abbrev M_Dt_chance : Nat := 71
abbrev M_Dt_mean : Nat := 72
abbrev M_Dt_often : Nat := 73
abbrev M_Dt_ends : Nat := 74
abbrev M_Dt_span : Nat := 75
abbrev M_Dt_between : Nat := 76
abbrev M_Dt_team : Nat := 77
abbrev M_Dt_force : Nat := 78
abbrev M_Dt_reach : Nat := 79
abbrev M_Dt_total : Nat := 80
abbrev M_Dt_isTask : Nat := 81
abbrev M_Dt_isTime : Nat := 82
abbrev M_Dt_isTeamSize : Nat := 83
abbrev M_Dt_sumOfTimes : Nat := 84
abbrev M_Dt_inLeastTerms : Nat := 85
abbrev M_Dt_commonDivisor : Nat := 86
abbrev M_Dt_valueOf : Nat := 87
abbrev M_Md_in : Nat := 88
abbrev M_Md_no : Nat := 89
abbrev M_Md_told : Nat := 90
abbrev M_Md_task : Nat := 91
abbrev M_Md_time : Nat := 92
abbrev M_Md_need : Nat := 93
abbrev M_Md_strength : Nat := 94
abbrev M_Md_lean : Nat := 95
abbrev M_Md_leans : Nat := 96
abbrev M_Md_isOne : Nat := 97
abbrev M_Md_isNext : Nat := 98
abbrev M_Md_numbered : Nat := 99
abbrev M_Md_blocks : Nat := 100
abbrev M_Md_block : Nat := 101
abbrev M_Md_guessed : Nat := 102
abbrev M_Md_leastOf : Nat := 103
abbrev M_Md_leastRow : Nat := 104
abbrev M_Md_least : Nat := 105
abbrev M_Md_leastAt : Nat := 106
abbrev M_Md_saved : Nat := 107
abbrev M_Md_at : Nat := 108
abbrev M_Md_guessOf : Nat := 109
abbrev M_Md_swap : Nat := 110
abbrev M_Md_take : Nat := 111
abbrev M_Md_guess : Nat := 112
abbrev M_Md_placeOf : Nat := 113
abbrev M_Md_torn : Nat := 114
abbrev M_Md_chance : Nat := 115
abbrev M_Md_meanOf : Nat := 116
abbrev M_Md_mean : Nat := 117
abbrev M_Md_often : Nat := 118
abbrev M_Md_beside : Nat := 119
abbrev M_Md_ends : Nat := 120
abbrev M_Md_span : Nat := 121
abbrev M_Md_betweenOf : Nat := 122
abbrev M_Md_teamsOf : Nat := 123
abbrev M_Md_isMore : Nat := 124
abbrev M_Md_greatest : Nat := 125
abbrev M_Md_teams : Nat := 126
abbrev M_Md_between : Nat := 127
abbrev M_Md_team : Nat := 128
abbrev M_Md_forces : Nat := 129
abbrev M_Md_force : Nat := 130
abbrev M_Md_reach : Nat := 131
abbrev M_Md_total : Nat := 132
abbrev M_Law : Nat := 133
def mp_0 : List (List (Option mE)) := [
  [some (.iload_n 0, 0, 0, 0), some (.iload_n 1, 0, 0, 0), some (.if_icmp .lt 7, 9, 0, 0), none, none, some (.iload_n 0, 0, 0, 0), some (.goto 4, 10, 0, 0), none, none, some (.iload_n 1, 0, 0, 0), some (.ireturn, 0, 0, 0)]]
def mp_1 : List (List (Option mE)) := [
  [some (.iload_n 0, 0, 0, 0), some (.iload_n 1, 0, 0, 0), some (.if_icmp .gt 7, 9, 0, 0), none, none, some (.iload_n 0, 0, 0, 0), some (.goto 4, 10, 0, 0), none, none, some (.iload_n 1, 0, 0, 0), some (.ireturn, 0, 0, 0)]]
def mp_2 : List (List (Option mE)) := [
  [some (.iconst 0, 0, 0, 0), some (.istore_n 3, 0, 0, 0), some (.aload_n 0, 0, 0, 0), some (.arraylength, 0, 0, 0), some (.istore 4, 0, 0, 0), none, some (.iload_n 3, 0, 0, 0), some (.iload 4, 0, 0, 0), none, some (.if_icmp .ge 13, 22, 0, 0), none, none, some (.aload_n 0, 0, 0, 0), some (.iload_n 3, 0, 0, 0), some (.lload_n 1, 0, 0, 0), some (.lastore, 0, 0, 0)],
  [some (.iinc 3 1, 0, 0, 0), none, none, some (.goto (-13), 6, 0, 0), none, none, some (.return_, 0, 0, 0)]]
def mp_3 : List (List (Option mE)) := [
  [some (.iconst 0, 0, 0, 0), some (.istore_n 2, 0, 0, 0), some (.aload_n 0, 0, 0, 0), some (.arraylength, 0, 0, 0), some (.istore_n 3, 0, 0, 0), some (.iload_n 2, 0, 0, 0), some (.iload_n 3, 0, 0, 0), some (.if_icmp .ge 13, 20, 0, 0), none, none, some (.aload_n 0, 0, 0, 0), some (.iload_n 2, 0, 0, 0), some (.iload_n 1, 0, 0, 0), some (.iastore, 0, 0, 0), some (.iinc 2 1, 0, 0, 0), none],
  [none, some (.goto (-12), 5, 0, 0), none, none, some (.return_, 0, 0, 0)]]
def mp_4 : List (List (Option mE)) := [
  [some (.iload_n 1, 0, 0, 0), some (.iload_n 2, 0, 0, 0), some (.invokestatic 15, 10, 0, 0), none, none, some (.ifCond .eq 17, 22, 0, 0), none, none, some (.aload_n 0, 0, 0, 0), some (.getfield 9, 6, 0, 0), none, none, some (.iload_n 1, 0, 0, 0), some (.bipush 8, 0, 0, 8), none, some (.imul, 0, 0, 0)],
  [some (.iload_n 2, 0, 0, 0), some (.iadd, 0, 0, 0), some (.iaload, 0, 0, 0), some (.goto 4, 23, 0, 0), none, none, some (.iconst 0, 0, 0, 0), some (.ireturn, 0, 0, 0)]]
def mp_5 : List (List (Option mE)) := [
  [some (.aload_n 0, 0, 0, 0), some (.iload_n 1, 0, 0, 0), some (.iload_n 2, 0, 0, 0), some (.invokevirtual 19, 4, 0, 0), none, none, some (.aload_n 0, 0, 0, 0), some (.iload_n 2, 0, 0, 0), some (.iload_n 1, 0, 0, 0), some (.invokevirtual 19, 4, 0, 0), none, none, some (.iadd, 0, 0, 0), some (.ireturn, 0, 0, 0)]]
def mp_6 : List (List (Option mE)) := [
  [some (.iload_n 1, 0, 0, 0), some (.iload_n 2, 0, 0, 0), some (.invokestatic 15, 10, 0, 0), none, none, some (.ifCond .ne 5, 10, 0, 0), none, none, some (.iconst 0, 0, 0, 0), some (.ireturn, 0, 0, 0), some (.iload_n 1, 0, 0, 0), some (.bipush 8, 0, 0, 8), none, some (.imul, 0, 0, 0), some (.iload_n 2, 0, 0, 0), some (.iadd, 0, 0, 0)],
  [some (.istore 4, 0, 0, 0), none, some (.aload_n 0, 0, 0, 0), some (.getfield 9, 6, 0, 0), none, none, some (.iload 4, 0, 0, 0), none, some (.iaload, 0, 0, 0), some (.istore 5, 0, 0, 0), none, some (.aload_n 0, 0, 0, 0), some (.getfield 9, 6, 0, 0), none, none, some (.iload 4, 0, 0, 0)],
  [none, some (.iload_n 3, 0, 0, 0), some (.iastore, 0, 0, 0), some (.iload 5, 0, 0, 0), none, some (.ireturn, 0, 0, 0)]]
def mp_7 : List (List (Option mE)) := [
  [some (.iconst 0, 0, 0, 0), some (.istore_n 2, 0, 0, 0), some (.iconst 0, 0, 0, 0), some (.istore_n 3, 0, 0, 0), some (.iload_n 3, 0, 0, 0), some (.bipush 8, 0, 0, 8), none, some (.if_icmp .ge 18, 25, 0, 0), none, none, some (.iload_n 2, 0, 0, 0), some (.aload_n 0, 0, 0, 0), some (.iload_n 1, 0, 0, 0), some (.iload_n 3, 0, 0, 0), some (.invokevirtual 19, 4, 0, 0), none],
  [none, some (.iadd, 0, 0, 0), some (.istore_n 2, 0, 0, 0), some (.iinc 3 1, 0, 0, 0), none, none, some (.goto (-18), 4, 0, 0), none, none, some (.iload_n 2, 0, 0, 0), some (.ireturn, 0, 0, 0)]]
def mp_8 : List (List (Option mE)) := [
  [some (.iconst 0, 0, 0, 0), some (.istore_n 1, 0, 0, 0), some (.aload_n 0, 0, 0, 0), some (.getfield 9, 6, 0, 0), none, none, some (.astore_n 2, 0, 0, 0), some (.aload_n 2, 0, 0, 0), some (.arraylength, 0, 0, 0), some (.istore_n 3, 0, 0, 0), some (.iconst 0, 0, 0, 0), some (.istore 4, 0, 0, 0), none, some (.iload 4, 0, 0, 0), none, some (.iload_n 3, 0, 0, 0)],
  [some (.if_icmp .ge 20, 36, 0, 0), none, none, some (.aload_n 2, 0, 0, 0), some (.iload 4, 0, 0, 0), none, some (.iaload, 0, 0, 0), some (.istore 5, 0, 0, 0), none, some (.iload_n 1, 0, 0, 0), some (.iload 5, 0, 0, 0), none, some (.iadd, 0, 0, 0), some (.istore_n 1, 0, 0, 0), some (.iinc 4 1, 0, 0, 0), none],
  [none, some (.goto (-20), 13, 0, 0), none, none, some (.iload_n 1, 0, 0, 0), some (.ireturn, 0, 0, 0)]]
def mp_9 : List (List (Option mE)) := [
  [some (.iconst 0, 0, 0, 0), some (.istore_n 1, 0, 0, 0), some (.aload_n 0, 0, 0, 0), some (.getfield 9, 6, 0, 0), none, none, some (.astore_n 2, 0, 0, 0), some (.aload_n 2, 0, 0, 0), some (.arraylength, 0, 0, 0), some (.istore_n 3, 0, 0, 0), some (.iconst 0, 0, 0, 0), some (.istore 4, 0, 0, 0), none, some (.iload 4, 0, 0, 0), none, some (.iload_n 3, 0, 0, 0)],
  [some (.if_icmp .ge 28, 44, 0, 0), none, none, some (.aload_n 2, 0, 0, 0), some (.iload 4, 0, 0, 0), none, some (.iaload, 0, 0, 0), some (.istore 5, 0, 0, 0), none, some (.iload_n 1, 0, 0, 0), some (.iload 5, 0, 0, 0), none, some (.ifCond .eq 7, 35, 0, 0), none, none, some (.iconst 1, 0, 0, 1)],
  [some (.goto 4, 36, 0, 0), none, none, some (.iconst 0, 0, 0, 0), some (.iadd, 0, 0, 0), some (.istore_n 1, 0, 0, 0), some (.iinc 4 1, 0, 0, 0), none, none, some (.goto (-28), 13, 0, 0), none, none, some (.iload_n 1, 0, 0, 0), some (.ireturn, 0, 0, 0)]]
def mp_10 : List (List (Option mE)) := [
  [some (.iload_n 0, 0, 0, 0), some (.ifCond .lt 23, 24, 0, 0), none, none, some (.iload_n 0, 0, 0, 0), some (.bipush 8, 0, 0, 8), none, some (.if_icmp .ge 17, 24, 0, 0), none, none, some (.iload_n 1, 0, 0, 0), some (.ifCond .lt 13, 24, 0, 0), none, none, some (.iload_n 1, 0, 0, 0), some (.bipush 8, 0, 0, 8)],
  [none, some (.if_icmp .ge 7, 24, 0, 0), none, none, some (.iconst 1, 0, 0, 1), some (.goto 4, 25, 0, 0), none, none, some (.iconst 0, 0, 0, 0), some (.ireturn, 1, 0, 0)]]
def mp_11 : List (List (Option mE)) := [
  [some (.iload_n 1, 0, 0, 0), some (.ifCond .lt 21, 22, 0, 0), none, none, some (.iload_n 1, 0, 0, 0), some (.aload_n 0, 0, 0, 0), some (.getfield 15, 2, 1, 0), none, none, some (.if_icmp .ge 13, 22, 0, 0), none, none, some (.iload_n 1, 0, 0, 0), some (.bipush 8, 0, 0, 8), none, some (.if_icmp .ge 7, 22, 0, 0)],
  [none, none, some (.iconst 1, 0, 0, 1), some (.goto 4, 23, 0, 0), none, none, some (.iconst 0, 0, 0, 0), some (.ireturn, 1, 0, 0)]]
def mp_12 : List (List (Option mE)) := [
  [some (.aload_n 0, 0, 0, 0), some (.getfield 15, 2, 1, 0), none, none, some (.ireturn, 0, 0, 0)]]
def mp_13 : List (List (Option mE)) := [
  [some (.aload_n 0, 0, 0, 0), some (.iload_n 1, 0, 0, 0), some (.invokevirtual 19, 11, 0, 0), none, none, some (.ifCond .eq 12, 17, 0, 0), none, none, some (.aload_n 0, 0, 0, 0), some (.getfield 9, 2, 0, 0), none, none, some (.iload_n 1, 0, 0, 0), some (.iaload, 0, 0, 0), some (.goto 5, 19, 0, 0), none],
  [none, some (.bipush (-9), 0, 0, (-9)), none, some (.ireturn, 0, 0, 0)]]
def mp_14 : List (List (Option mE)) := [
  [some (.iconst 0, 0, 0, 0), some (.istore_n 2, 0, 0, 0), some (.iload_n 2, 0, 0, 0), some (.aload_n 0, 0, 0, 0), some (.getfield 15, 2, 1, 0), none, none, some (.if_icmp .ge 27, 34, 0, 0), none, none, some (.iload_n 2, 0, 0, 0), some (.bipush 8, 0, 0, 8), none, some (.if_icmp .ge 21, 34, 0, 0), none, none],
  [some (.aload_n 0, 0, 0, 0), some (.getfield 9, 2, 0, 0), none, none, some (.iload_n 2, 0, 0, 0), some (.iaload, 0, 0, 0), some (.iload_n 1, 0, 0, 0), some (.if_icmp .ne 5, 28, 0, 0), none, none, some (.iload_n 2, 0, 0, 0), some (.ireturn, 0, 0, 0), some (.iinc 2 1, 0, 0, 0), none, none, some (.goto (-29), 2, 0, 0)],
  [none, none, some (.bipush (-9), 0, 0, (-9)), none, some (.ireturn, 0, 0, 0)]]
def mp_15 : List (List (Option mE)) := [
  [some (.aload_n 0, 0, 0, 0), some (.iconst 0, 0, 0, 0), some (.putfield 15, 2, 1, 0), none, none, some (.return_, 0, 0, 0)]]
def mp_16 : List (List (Option mE)) := [
  [some (.aload_n 0, 0, 0, 0), some (.getfield 15, 2, 1, 0), none, none, some (.ifCond .lt 32, 36, 0, 0), none, none, some (.aload_n 0, 0, 0, 0), some (.getfield 15, 2, 1, 0), none, none, some (.bipush 8, 0, 0, 8), none, some (.if_icmp .ge 23, 36, 0, 0), none, none],
  [some (.aload_n 0, 0, 0, 0), some (.getfield 9, 2, 0, 0), none, none, some (.aload_n 0, 0, 0, 0), some (.getfield 15, 2, 1, 0), none, none, some (.iload_n 1, 0, 0, 0), some (.iastore, 0, 0, 0), some (.aload_n 0, 0, 0, 0), some (.dup, 0, 0, 0), some (.getfield 15, 2, 1, 0), none, none, some (.iconst 1, 0, 0, 1)],
  [some (.iadd, 0, 0, 0), some (.putfield 15, 2, 1, 0), none, none, some (.return_, 0, 0, 0)]]
def mp_17 : List (List (Option mE)) := [
  [some (.aload_n 0, 0, 0, 0), some (.invokevirtual 23, 15, 0, 0), none, none, some (.iconst 0, 0, 0, 0), some (.istore_n 2, 0, 0, 0), some (.iload_n 2, 0, 0, 0), some (.iload_n 1, 0, 0, 0), some (.if_icmp .ge 14, 22, 0, 0), none, none, some (.aload_n 0, 0, 0, 0), some (.iload_n 2, 0, 0, 0), some (.invokevirtual 26, 16, 0, 0), none, none],
  [some (.iinc 2 1, 0, 0, 0), none, none, some (.goto (-13), 6, 0, 0), none, none, some (.return_, 0, 0, 0)]]
def mp_18 : List (List (Option mE)) := [
  [some (.aload_n 0, 0, 0, 0), some (.invokevirtual 23, 15, 0, 0), none, none, some (.iconst 0, 0, 0, 0), some (.istore_n 2, 0, 0, 0), some (.iload_n 2, 0, 0, 0), some (.aload_n 1, 0, 0, 0), some (.invokevirtual 30, 12, 0, 0), none, none, some (.if_icmp .ge 18, 29, 0, 0), none, none, some (.aload_n 0, 0, 0, 0), some (.aload_n 1, 0, 0, 0)],
  [some (.iload_n 2, 0, 0, 0), some (.invokevirtual 33, 13, 0, 0), none, none, some (.invokevirtual 26, 16, 0, 0), none, none, some (.iinc 2 1, 0, 0, 0), none, none, some (.goto (-20), 6, 0, 0), none, none, some (.return_, 0, 0, 0)]]
def mp_19 : List (List (Option mE)) := [
  [some (.aload_n 0, 0, 0, 0), some (.iload_n 1, 0, 0, 0), some (.invokevirtual 19, 11, 0, 0), none, none, some (.ifCond .eq 37, 42, 0, 0), none, none, some (.aload_n 0, 0, 0, 0), some (.iload_n 2, 0, 0, 0), some (.invokevirtual 19, 11, 0, 0), none, none, some (.ifCond .eq 29, 42, 0, 0), none, none],
  [some (.aload_n 0, 0, 0, 0), some (.getfield 9, 2, 0, 0), none, none, some (.iload_n 1, 0, 0, 0), some (.iaload, 0, 0, 0), some (.istore_n 3, 0, 0, 0), some (.aload_n 0, 0, 0, 0), some (.getfield 9, 2, 0, 0), none, none, some (.iload_n 1, 0, 0, 0), some (.aload_n 0, 0, 0, 0), some (.getfield 9, 2, 0, 0), none, none],
  [some (.iload_n 2, 0, 0, 0), some (.iaload, 0, 0, 0), some (.iastore, 0, 0, 0), some (.aload_n 0, 0, 0, 0), some (.getfield 9, 2, 0, 0), none, none, some (.iload_n 2, 0, 0, 0), some (.iload_n 3, 0, 0, 0), some (.iastore, 0, 0, 0), some (.return_, 0, 0, 0)]]
def mp_20 : List (List (Option mE)) := [
  [some (.iconst 0, 0, 0, 0), some (.istore_n 2, 0, 0, 0), some (.iconst 0, 0, 0, 0), some (.istore_n 3, 0, 0, 0), some (.iload_n 3, 0, 0, 0), some (.aload_n 0, 0, 0, 0), some (.getfield 15, 2, 1, 0), none, none, some (.if_icmp .ge 47, 56, 0, 0), none, none, some (.iload_n 3, 0, 0, 0), some (.iconst 1, 0, 0, 1), some (.iadd, 0, 0, 0), some (.istore 4, 0, 0, 0)],
  [none, some (.iload 4, 0, 0, 0), none, some (.aload_n 0, 0, 0, 0), some (.getfield 15, 2, 1, 0), none, none, some (.if_icmp .ge 27, 50, 0, 0), none, none, some (.iload_n 2, 0, 0, 0), some (.aload_n 1, 0, 0, 0), some (.aload_n 0, 0, 0, 0), some (.iload_n 3, 0, 0, 0), some (.invokevirtual 33, 13, 0, 0), none],
  [none, some (.aload_n 0, 0, 0, 0), some (.iload 4, 0, 0, 0), none, some (.invokevirtual 33, 13, 0, 0), none, none, some (.invokevirtual 37, 4, 0, 0), none, none, some (.iadd, 0, 0, 0), some (.istore_n 2, 0, 0, 0), some (.iinc 4 1, 0, 0, 0), none, none, some (.goto (-30), 17, 0, 0)],
  [none, none, some (.iinc 3 1, 0, 0, 0), none, none, some (.goto (-49), 4, 0, 0), none, none, some (.iload_n 2, 0, 0, 0), some (.ireturn, 0, 0, 0)]]
def mp_21 : List (List (Option mE)) := [
  [some (.aload_n 0, 0, 0, 0), some (.getfield 9, 0, 0, 0), none, none, some (.iload_n 1, 0, 0, 0), some (.invokestatic 15, 87, 0, 0), none, none, some (.ireturn, 0, 0, 0)]]
def mp_22 : List (List (Option mE)) := [
  [some (.iconst 0, 0, 0, 0), some (.istore_n 1, 0, 0, 0), some (.aload_n 0, 0, 0, 0), some (.getfield 9, 0, 0, 0), none, none, some (.astore_n 2, 0, 0, 0), some (.aload_n 2, 0, 0, 0), some (.arraylength, 0, 0, 0), some (.istore_n 3, 0, 0, 0), some (.iconst 0, 0, 0, 0), some (.istore 4, 0, 0, 0), none, some (.iload 4, 0, 0, 0), none, some (.iload_n 3, 0, 0, 0)],
  [some (.if_icmp .ge 22, 38, 0, 0), none, none, some (.aload_n 2, 0, 0, 0), some (.iload 4, 0, 0, 0), none, some (.iaload, 0, 0, 0), some (.istore 5, 0, 0, 0), none, some (.iload_n 1, 0, 0, 0), some (.iload 5, 0, 0, 0), none, some (.invokestatic 19, 901, 0, 0), none, none, some (.istore_n 1, 0, 0, 0)],
  [some (.iinc 4 1, 0, 0, 0), none, none, some (.goto (-22), 13, 0, 0), none, none, some (.iload_n 1, 0, 0, 0), some (.ireturn, 0, 0, 0)]]
def mp_23 : List (List (Option mE)) := [
  [some (.aload_n 0, 0, 0, 0), some (.getfield 9, 0, 0, 0), none, none, some (.iconst 0, 0, 0, 0), some (.invokestatic 25, 3, 0, 0), none, none, some (.iconst 0, 0, 0, 0), some (.istore 4, 0, 0, 0), none, some (.iload 4, 0, 0, 0), none, some (.aload_n 1, 0, 0, 0), some (.invokevirtual 31, 12, 0, 0), none],
  [none, some (.if_icmp .ge 88, 105, 0, 0), none, none, some (.iload 4, 0, 0, 0), none, some (.bipush 8, 0, 0, 8), none, some (.if_icmp .ge 81, 105, 0, 0), none, none, some (.aload_n 1, 0, 0, 0), some (.iload 4, 0, 0, 0), none, some (.invokevirtual 37, 13, 0, 0), none],
  [none, some (.istore 5, 0, 0, 0), none, some (.iconst 0, 0, 0, 0), some (.istore 6, 0, 0, 0), none, some (.iconst 0, 0, 0, 0), some (.istore 7, 0, 0, 0), none, some (.iload 7, 0, 0, 0), none, some (.iload 4, 0, 0, 0), none, some (.if_icmp .ge 38, 83, 0, 0), none, none],
  [some (.aload_n 2, 0, 0, 0), some (.iload 5, 0, 0, 0), none, some (.aload_n 1, 0, 0, 0), some (.iload 7, 0, 0, 0), none, some (.invokevirtual 37, 13, 0, 0), none, none, some (.invokevirtual 41, 4, 0, 0), none, none, some (.ifCond .le 17, 77, 0, 0), none, none, some (.iload 6, 0, 0, 0)],
  [none, some (.aload_n 0, 0, 0, 0), some (.getfield 9, 0, 0, 0), none, none, some (.iload 7, 0, 0, 0), none, some (.iaload, 0, 0, 0), some (.invokestatic 19, 901, 0, 0), none, none, some (.istore 6, 0, 0, 0), none, some (.iinc 7 1, 0, 0, 0), none, none],
  [some (.goto (-39), 41, 0, 0), none, none, some (.aload_n 0, 0, 0, 0), some (.getfield 9, 0, 0, 0), none, none, some (.iload 4, 0, 0, 0), none, some (.iload 6, 0, 0, 0), none, some (.aload_n 3, 0, 0, 0), some (.iload 5, 0, 0, 0), none, some (.invokestatic 15, 87, 0, 0), none],
  [none, some (.iadd, 0, 0, 0), some (.iastore, 0, 0, 0), some (.iinc 4 1, 0, 0, 0), none, none, some (.goto (-91), 11, 0, 0), none, none, some (.return_, 0, 0, 0)]]
def mp_24 : List (List (Option mE)) := [
  [some (.aload_n 0, 0, 0, 0), some (.getfield 9, 5, 0, 0), none, none, some (.iload_n 1, 0, 0, 0), some (.invokestatic 15, 87, 0, 0), none, none, some (.ireturn, 0, 0, 0)]]
def mp_25 : List (List (Option mE)) := [
  [some (.iconst 0, 0, 0, 0), some (.istore_n 2, 0, 0, 0), some (.aload_n 0, 0, 0, 0), some (.getfield 9, 5, 0, 0), none, none, some (.astore_n 3, 0, 0, 0), some (.aload_n 3, 0, 0, 0), some (.arraylength, 0, 0, 0), some (.istore 4, 0, 0, 0), none, some (.iconst 0, 0, 0, 0), some (.istore 5, 0, 0, 0), none, some (.iload 5, 0, 0, 0), none],
  [some (.iload 4, 0, 0, 0), none, some (.if_icmp .ge 29, 47, 0, 0), none, none, some (.aload_n 3, 0, 0, 0), some (.iload 5, 0, 0, 0), none, some (.iaload, 0, 0, 0), some (.istore 6, 0, 0, 0), none, some (.iload_n 2, 0, 0, 0), some (.iload 6, 0, 0, 0), none, some (.iload_n 1, 0, 0, 0), some (.if_icmp .lt 7, 38, 0, 0)],
  [none, none, some (.iconst 1, 0, 0, 1), some (.goto 4, 39, 0, 0), none, none, some (.iconst 0, 0, 0, 0), some (.iadd, 0, 0, 0), some (.istore_n 2, 0, 0, 0), some (.iinc 5 1, 0, 0, 0), none, none, some (.goto (-30), 14, 0, 0), none, none, some (.iload_n 2, 0, 0, 0)],
  [some (.ireturn, 0, 0, 0)]]
def mp_26 : List (List (Option mE)) := [
  [some (.iconst 0, 0, 0, 0), some (.istore 4, 0, 0, 0), none, some (.iload 4, 0, 0, 0), none, some (.bipush 8, 0, 0, 8), none, some (.if_icmp .ge 28, 35, 0, 0), none, none, some (.aload_n 0, 0, 0, 0), some (.getfield 9, 5, 0, 0), none, none, some (.iload 4, 0, 0, 0), none],
  [some (.iload 4, 0, 0, 0), none, some (.iload_n 1, 0, 0, 0), some (.if_icmp .ne 8, 27, 0, 0), none, none, some (.ldc 19, 0, 0, 10000000), none, some (.goto 4, 28, 0, 0), none, none, some (.iconst 0, 0, 0, 0), some (.iastore, 0, 0, 0), some (.iinc 4 1, 0, 0, 0), none, none],
  [some (.goto (-29), 3, 0, 0), none, none, some (.aload_n 0, 0, 0, 0), some (.iconst 0, 0, 0, 0), some (.putfield 20, 5, 1, 0), none, none, some (.iconst 0, 0, 0, 0), some (.istore 4, 0, 0, 0), none, some (.iload 4, 0, 0, 0), none, some (.iload_n 2, 0, 0, 0), some (.if_icmp .ge 35, 81, 0, 0), none],
  [none, some (.aload_n 0, 0, 0, 0), some (.invokevirtual 24, 27, 0, 0), none, none, some (.istore 5, 0, 0, 0), none, some (.aload_n 0, 0, 0, 0), some (.dup, 0, 0, 0), some (.getfield 20, 5, 1, 0), none, none, some (.iconst 1, 0, 0, 1), some (.iload 5, 0, 0, 0), none, some (.ishl, 0, 0, 0)],
  [some (.ior, 0, 0, 0), some (.putfield 20, 5, 1, 0), none, none, some (.aload_n 0, 0, 0, 0), some (.iload 5, 0, 0, 0), none, some (.aload_n 3, 0, 0, 0), some (.invokevirtual 28, 28, 0, 0), none, none, some (.iinc 4 1, 0, 0, 0), none, none, some (.goto (-35), 43, 0, 0), none],
  [none, some (.return_, 0, 0, 0)]]
def mp_27 : List (List (Option mE)) := [
  [some (.iconst 0, 0, 0, 0), some (.istore_n 1, 0, 0, 0), some (.iconst (-1), 0, 0, (-1)), some (.istore_n 2, 0, 0, 0), some (.iconst 0, 0, 0, 0), some (.istore_n 3, 0, 0, 0), some (.iload_n 3, 0, 0, 0), some (.bipush 8, 0, 0, 8), none, some (.if_icmp .ge 36, 45, 0, 0), none, none, some (.aload_n 0, 0, 0, 0), some (.iload_n 3, 0, 0, 0), some (.invokevirtual 32, 29, 0, 0), none],
  [none, some (.ifCond .eq 22, 39, 0, 0), none, none, some (.aload_n 0, 0, 0, 0), some (.getfield 9, 5, 0, 0), none, none, some (.iload_n 3, 0, 0, 0), some (.iaload, 0, 0, 0), some (.iload_n 2, 0, 0, 0), some (.if_icmp .le 12, 39, 0, 0), none, none, some (.iload_n 3, 0, 0, 0), some (.istore_n 1, 0, 0, 0)],
  [some (.aload_n 0, 0, 0, 0), some (.getfield 9, 5, 0, 0), none, none, some (.iload_n 3, 0, 0, 0), some (.iaload, 0, 0, 0), some (.istore_n 2, 0, 0, 0), some (.iinc 3 1, 0, 0, 0), none, none, some (.goto (-36), 6, 0, 0), none, none, some (.iload_n 1, 0, 0, 0), some (.ireturn, 0, 0, 0)]]
def mp_28 : List (List (Option mE)) := [
  [some (.iconst 0, 0, 0, 0), some (.istore_n 3, 0, 0, 0), some (.iload_n 3, 0, 0, 0), some (.bipush 8, 0, 0, 8), none, some (.if_icmp .ge 51, 56, 0, 0), none, none, some (.aload_n 0, 0, 0, 0), some (.iload_n 3, 0, 0, 0), some (.invokevirtual 32, 29, 0, 0), none, none, some (.ifCond .eq 37, 50, 0, 0), none, none],
  [some (.aload_n 0, 0, 0, 0), some (.iload_n 1, 0, 0, 0), some (.invokevirtual 36, 24, 0, 0), none, none, some (.aload_n 2, 0, 0, 0), some (.iload_n 3, 0, 0, 0), some (.iload_n 1, 0, 0, 0), some (.invokevirtual 40, 4, 0, 0), none, none, some (.imul, 0, 0, 0), some (.bipush 10, 0, 0, 10), none, some (.idiv, 0, 0, 0), some (.istore 4, 0, 0, 0)],
  [none, some (.aload_n 0, 0, 0, 0), some (.getfield 9, 5, 0, 0), none, none, some (.iload_n 3, 0, 0, 0), some (.aload_n 0, 0, 0, 0), some (.getfield 9, 5, 0, 0), none, none, some (.iload_n 3, 0, 0, 0), some (.iaload, 0, 0, 0), some (.iload 4, 0, 0, 0), none, some (.invokestatic 46, 901, 0, 0), none],
  [none, some (.iastore, 0, 0, 0), some (.iinc 3 1, 0, 0, 0), none, none, some (.goto (-51), 2, 0, 0), none, none, some (.return_, 0, 0, 0)]]
def mp_29 : List (List (Option mE)) := [
  [some (.aload_n 0, 0, 0, 0), some (.getfield 20, 5, 1, 0), none, none, some (.iconst 1, 0, 0, 1), some (.iload_n 1, 0, 0, 0), some (.ishl, 0, 0, 0), some (.iand, 0, 0, 0), some (.ifCond .ne 7, 15, 0, 0), none, none, some (.iconst 1, 0, 0, 1), some (.goto 4, 16, 0, 0), none, none, some (.iconst 0, 0, 0, 0)],
  [some (.ireturn, 1, 0, 0)]]
def mp_30 : List (List (Option mE)) := [
  [some (.iconst 1, 0, 0, 1), some (.iload_n 1, 0, 0, 0), some (.ishl, 0, 0, 0), some (.iconst 1, 0, 0, 1), some (.isub, 0, 0, 0), some (.istore_n 3, 0, 0, 0), some (.iload_n 3, 0, 0, 0), some (.istore 4, 0, 0, 0), none, some (.iload 4, 0, 0, 0), none, some (.ifCond .lt 44, 55, 0, 0), none, none, some (.iload 4, 0, 0, 0), none],
  [some (.aload_n 0, 0, 0, 0), some (.getfield 9, 1, 0, 0), none, none, some (.arraylength, 0, 0, 0), some (.if_icmp .ge 34, 55, 0, 0), none, none, some (.aload_n 0, 0, 0, 0), some (.getfield 9, 1, 0, 0), none, none, some (.iload 4, 0, 0, 0), none, some (.iload 4, 0, 0, 0), none],
  [some (.iload_n 3, 0, 0, 0), some (.if_icmp .ne 7, 40, 0, 0), none, none, some (.iconst 0, 0, 0, 0), some (.goto 11, 48, 0, 0), none, none, some (.aload_n 0, 0, 0, 0), some (.iload 4, 0, 0, 0), none, some (.iload_n 1, 0, 0, 0), some (.aload_n 2, 0, 0, 0), some (.invokevirtual 22, 32, 0, 0), none, none],
  [some (.iastore, 0, 0, 0), some (.iinc 4 (-1), 0, 0, 0), none, none, some (.goto (-43), 9, 0, 0), none, none, some (.aload_n 0, 0, 0, 0), some (.getfield 9, 1, 0, 0), none, none, some (.iconst 0, 0, 0, 0), some (.iaload, 0, 0, 0), some (.ireturn, 0, 0, 0)]]
def mp_31 : List (List (Option mE)) := [
  [some (.aload_n 0, 0, 0, 0), some (.iload_n 1, 0, 0, 0), some (.aload_n 2, 0, 0, 0), some (.invokevirtual 26, 30, 0, 0), none, none, some (.pop, 0, 0, 0), some (.aload_n 0, 0, 0, 0), some (.getfield 18, 1, 1, 0), none, none, some (.invokevirtual 30, 15, 0, 0), none, none, some (.iconst 0, 0, 0, 0), some (.istore_n 3, 0, 0, 0)],
  [some (.iconst 0, 0, 0, 0), some (.istore 4, 0, 0, 0), none, some (.iload 4, 0, 0, 0), none, some (.iload_n 1, 0, 0, 0), some (.if_icmp .ge 34, 56, 0, 0), none, none, some (.aload_n 0, 0, 0, 0), some (.iload_n 3, 0, 0, 0), some (.iload_n 1, 0, 0, 0), some (.aload_n 2, 0, 0, 0), some (.invokevirtual 33, 33, 0, 0), none, none],
  [some (.istore 5, 0, 0, 0), none, some (.aload_n 0, 0, 0, 0), some (.getfield 18, 1, 1, 0), none, none, some (.iload 5, 0, 0, 0), none, some (.invokevirtual 36, 16, 0, 0), none, none, some (.iload_n 3, 0, 0, 0), some (.iconst 1, 0, 0, 1), some (.iload 5, 0, 0, 0), none, some (.ishl, 0, 0, 0)],
  [some (.ior, 0, 0, 0), some (.istore_n 3, 0, 0, 0), some (.iinc 4 1, 0, 0, 0), none, none, some (.goto (-34), 19, 0, 0), none, none, some (.aload_n 0, 0, 0, 0), some (.getfield 18, 1, 1, 0), none, none, some (.areturn, 0, 0, 0)]]
def mp_32 : List (List (Option mE)) := [
  [some (.ldc 40, 0, 0, 1000000), none, some (.istore 4, 0, 0, 0), none, some (.iconst 0, 0, 0, 0), some (.istore 5, 0, 0, 0), none, some (.iload 5, 0, 0, 0), none, some (.iload_n 2, 0, 0, 0), some (.if_icmp .ge 34, 44, 0, 0), none, none, some (.iload_n 1, 0, 0, 0), some (.iconst 1, 0, 0, 1), some (.iload 5, 0, 0, 0)],
  [none, some (.ishl, 0, 0, 0), some (.iand, 0, 0, 0), some (.ifCond .ne 19, 38, 0, 0), none, none, some (.iload 4, 0, 0, 0), none, some (.aload_n 0, 0, 0, 0), some (.iload 5, 0, 0, 0), none, some (.iload_n 1, 0, 0, 0), some (.iload_n 2, 0, 0, 0), some (.aload_n 3, 0, 0, 0), some (.invokevirtual 41, 34, 0, 0), none],
  [none, some (.invokestatic 45, 902, 0, 0), none, none, some (.istore 4, 0, 0, 0), none, some (.iinc 5 1, 0, 0, 0), none, none, some (.goto (-34), 7, 0, 0), none, none, some (.iload 4, 0, 0, 0), none, some (.ireturn, 0, 0, 0)]]
def mp_33 : List (List (Option mE)) := [
  [some (.iconst 0, 0, 0, 0), some (.istore 4, 0, 0, 0), none, some (.iload 4, 0, 0, 0), none, some (.iload_n 2, 0, 0, 0), some (.if_icmp .ge 41, 47, 0, 0), none, none, some (.iload_n 1, 0, 0, 0), some (.iconst 1, 0, 0, 1), some (.iload 4, 0, 0, 0), none, some (.ishl, 0, 0, 0), some (.iand, 0, 0, 0), some (.ifCond .ne 26, 41, 0, 0)],
  [none, none, some (.aload_n 0, 0, 0, 0), some (.iload 4, 0, 0, 0), none, some (.iload_n 1, 0, 0, 0), some (.iload_n 2, 0, 0, 0), some (.aload_n 3, 0, 0, 0), some (.invokevirtual 41, 34, 0, 0), none, none, some (.aload_n 0, 0, 0, 0), some (.getfield 9, 1, 0, 0), none, none, some (.iload_n 1, 0, 0, 0)],
  [some (.invokestatic 51, 87, 0, 0), none, none, some (.if_icmp .ne 6, 41, 0, 0), none, none, some (.iload 4, 0, 0, 0), none, some (.ireturn, 0, 0, 0), some (.iinc 4 1, 0, 0, 0), none, none, some (.goto (-41), 3, 0, 0), none, none, some (.iconst 0, 0, 0, 0)],
  [some (.ireturn, 0, 0, 0)]]
def mp_34 : List (List (Option mE)) := [
  [some (.aload_n 0, 0, 0, 0), some (.getfield 9, 1, 0, 0), none, none, some (.iload_n 2, 0, 0, 0), some (.iconst 1, 0, 0, 1), some (.iload_n 1, 0, 0, 0), some (.ishl, 0, 0, 0), some (.ior, 0, 0, 0), some (.invokestatic 51, 87, 0, 0), none, none, some (.istore 5, 0, 0, 0), none, some (.iconst 0, 0, 0, 0), some (.istore 6, 0, 0, 0)],
  [none, some (.iload 6, 0, 0, 0), none, some (.iload_n 3, 0, 0, 0), some (.if_icmp .ge 31, 51, 0, 0), none, none, some (.iload_n 2, 0, 0, 0), some (.iconst 1, 0, 0, 1), some (.iload 6, 0, 0, 0), none, some (.ishl, 0, 0, 0), some (.iand, 0, 0, 0), some (.ifCond .ne 16, 45, 0, 0), none, none],
  [some (.iload 5, 0, 0, 0), none, some (.aload 4, 0, 0, 0), none, some (.iload_n 1, 0, 0, 0), some (.iload 6, 0, 0, 0), none, some (.invokevirtual 55, 4, 0, 0), none, none, some (.iadd, 0, 0, 0), some (.istore 5, 0, 0, 0), none, some (.iinc 6 1, 0, 0, 0), none, none],
  [some (.goto (-31), 17, 0, 0), none, none, some (.iload 5, 0, 0, 0), none, some (.ireturn, 0, 0, 0)]]
def mp_35 : List (List (Option mE)) := [
  [some (.aload_n 0, 0, 0, 0), some (.getfield 21, 7, 5, 0), none, none, some (.ireturn, 0, 0, 0)]]
def mp_36 : List (List (Option mE)) := [
  [some (.aload_n 0, 0, 0, 0), some (.getfield 15, 7, 1, 0), none, none, some (.iload_n 1, 0, 0, 0), some (.invokestatic 25, 87, 0, 0), none, none, some (.ireturn, 0, 0, 0)]]
def mp_37 : List (List (Option mE)) := [
  [some (.aload_n 0, 0, 0, 0), some (.getfield 18, 7, 2, 0), none, none, some (.iconst 0, 0, 0, 0), some (.invokestatic 29, 3, 0, 0), none, none, some (.aload_n 0, 0, 0, 0), some (.iload_n 1, 0, 0, 0), some (.bipush 8, 0, 0, 8), none, some (.invokestatic 35, 902, 0, 0), none, none, some (.putfield 41, 7, 3, 0)],
  [none, none, some (.aload_n 0, 0, 0, 0), some (.iload_n 3, 0, 0, 0), some (.putfield 44, 7, 4, 0), none, none, some (.aload_n 0, 0, 0, 0), some (.ldc 47, 0, 0, 1000000), none, some (.putfield 21, 7, 5, 0), none, none, some (.aload_n 0, 0, 0, 0), some (.ldc 47, 0, 0, 1000000), none],
  [some (.putfield 48, 7, 6, 0), none, none, some (.aload_n 0, 0, 0, 0), some (.aload_n 2, 0, 0, 0), some (.iconst 0, 0, 0, 0), some (.iconst 0, 0, 0, 0), some (.iconst 0, 0, 0, 0), some (.invokestatic 51, 38, 0, 0), none, none, some (.return_, 0, 0, 0)]]
def mp_38 : List (List (Option mE)) := [
  [some (.aload_n 0, 0, 0, 0), some (.iload_n 3, 0, 0, 0), some (.iload 4, 0, 0, 0), none, some (.invokevirtual 55, 39, 0, 0), none, none, some (.ifCond .ne 4, 11, 0, 0), none, none, some (.return_, 0, 0, 0), some (.iload_n 2, 0, 0, 0), some (.ifCond .lt 17, 29, 0, 0), none, none, some (.iload_n 2, 0, 0, 0)],
  [some (.aload_n 0, 0, 0, 0), some (.getfield 41, 7, 3, 0), none, none, some (.if_icmp .ge 9, 29, 0, 0), none, none, some (.iload_n 2, 0, 0, 0), some (.bipush 8, 0, 0, 8), none, some (.if_icmp .lt 11, 37, 0, 0), none, none, some (.aload_n 0, 0, 0, 0), some (.iload_n 3, 0, 0, 0), some (.iload 4, 0, 0, 0)],
  [none, some (.invokevirtual 59, 40, 0, 0), none, none, some (.return_, 0, 0, 0), some (.iconst 0, 0, 0, 0), some (.istore 5, 0, 0, 0), none, some (.iload 5, 0, 0, 0), none, some (.iload_n 3, 0, 0, 0), some (.if_icmp .gt 91, 134, 0, 0), none, none, some (.iload 5, 0, 0, 0), none],
  [some (.bipush 8, 0, 0, 8), none, some (.if_icmp .ge 84, 134, 0, 0), none, none, some (.aload_n 0, 0, 0, 0), some (.getfield 18, 7, 2, 0), none, none, some (.iload 5, 0, 0, 0), none, some (.iaload, 0, 0, 0), some (.aload_n 0, 0, 0, 0), some (.getfield 44, 7, 4, 0), none, none],
  [some (.if_icmp .ge 64, 128, 0, 0), none, none, some (.aload_n 0, 0, 0, 0), some (.getfield 9, 7, 0, 0), none, none, some (.iload_n 2, 0, 0, 0), some (.iload 5, 0, 0, 0), none, some (.iastore, 0, 0, 0), some (.aload_n 0, 0, 0, 0), some (.getfield 18, 7, 2, 0), none, none, some (.iload 5, 0, 0, 0)],
  [none, some (.dup2, 0, 0, 0), some (.iaload, 0, 0, 0), some (.iconst 1, 0, 0, 1), some (.iadd, 0, 0, 0), some (.iastore, 0, 0, 0), some (.aload_n 0, 0, 0, 0), some (.iload_n 2, 0, 0, 0), some (.iload 5, 0, 0, 0), none, some (.aload_n 1, 0, 0, 0), some (.invokevirtual 63, 41, 0, 0), none, none, some (.istore 6, 0, 0, 0), none],
  [some (.aload_n 0, 0, 0, 0), some (.aload_n 1, 0, 0, 0), some (.iload_n 2, 0, 0, 0), some (.iconst 1, 0, 0, 1), some (.iadd, 0, 0, 0), some (.iload_n 3, 0, 0, 0), some (.iload 5, 0, 0, 0), none, some (.iconst 1, 0, 0, 1), some (.iadd, 0, 0, 0), some (.invokestatic 67, 901, 0, 0), none, none, some (.iload 4, 0, 0, 0), none, some (.iload 6, 0, 0, 0)],
  [none, some (.iadd, 0, 0, 0), some (.invokestatic 51, 38, 0, 0), none, none, some (.aload_n 0, 0, 0, 0), some (.getfield 18, 7, 2, 0), none, none, some (.iload 5, 0, 0, 0), none, some (.dup2, 0, 0, 0), some (.iaload, 0, 0, 0), some (.iconst 1, 0, 0, 1), some (.isub, 0, 0, 0), some (.iastore, 0, 0, 0)],
  [some (.iinc 5 1, 0, 0, 0), none, none, some (.goto (-91), 40, 0, 0), none, none, some (.return_, 0, 0, 0)]]
def mp_39 : List (List (Option mE)) := [
  [some (.iload_n 2, 0, 0, 0), some (.aload_n 0, 0, 0, 0), some (.getfield 21, 7, 5, 0), none, none, some (.if_icmp .lt 19, 24, 0, 0), none, none, some (.iload_n 2, 0, 0, 0), some (.aload_n 0, 0, 0, 0), some (.getfield 21, 7, 5, 0), none, none, some (.if_icmp .ne 15, 28, 0, 0), none, none],
  [some (.iload_n 1, 0, 0, 0), some (.aload_n 0, 0, 0, 0), some (.getfield 48, 7, 6, 0), none, none, some (.if_icmp .ge 7, 28, 0, 0), none, none, some (.iconst 1, 0, 0, 1), some (.goto 4, 29, 0, 0), none, none, some (.iconst 0, 0, 0, 0), some (.ireturn, 1, 0, 0)]]
def mp_40 : List (List (Option mE)) := [
  [some (.aload_n 0, 0, 0, 0), some (.iload_n 2, 0, 0, 0), some (.putfield 21, 7, 5, 0), none, none, some (.aload_n 0, 0, 0, 0), some (.iload_n 1, 0, 0, 0), some (.putfield 48, 7, 6, 0), none, none, some (.aload_n 0, 0, 0, 0), some (.getfield 9, 7, 0, 0), none, none, some (.iconst 0, 0, 0, 0), some (.aload_n 0, 0, 0, 0)],
  [some (.getfield 15, 7, 1, 0), none, none, some (.iconst 0, 0, 0, 0), some (.bipush 8, 0, 0, 8), none, some (.invokestatic 70, 900, 0, 0), none, none, some (.return_, 0, 0, 0)]]
def mp_41 : List (List (Option mE)) := [
  [some (.iconst 0, 0, 0, 0), some (.istore 4, 0, 0, 0), none, some (.iconst 0, 0, 0, 0), some (.istore 5, 0, 0, 0), none, some (.iload 5, 0, 0, 0), none, some (.iload_n 1, 0, 0, 0), some (.if_icmp .ge 43, 52, 0, 0), none, none, some (.iload 5, 0, 0, 0), none, some (.bipush 8, 0, 0, 8), none],
  [some (.if_icmp .ge 36, 52, 0, 0), none, none, some (.iload 4, 0, 0, 0), none, some (.aload_n 0, 0, 0, 0), some (.getfield 9, 7, 0, 0), none, none, some (.iload 5, 0, 0, 0), none, some (.iaload, 0, 0, 0), some (.iload_n 2, 0, 0, 0), some (.if_icmp .eq 13, 42, 0, 0), none, none],
  [some (.aload_n 3, 0, 0, 0), some (.iload_n 1, 0, 0, 0), some (.iload 5, 0, 0, 0), none, some (.invokevirtual 76, 5, 0, 0), none, none, some (.goto 4, 43, 0, 0), none, none, some (.iconst 0, 0, 0, 0), some (.iadd, 0, 0, 0), some (.istore 4, 0, 0, 0), none, some (.iinc 5 1, 0, 0, 0), none],
  [none, some (.goto (-43), 6, 0, 0), none, none, some (.iload 4, 0, 0, 0), none, some (.ireturn, 0, 0, 0)]]
def mp_42 : List (List (Option mE)) := [
  [some (.lconst 0, 0, 0, 0), some (.lstore_n 1, 0, 0, 0), some (.aload_n 0, 0, 0, 0), some (.getfield 9, 3, 0, 0), none, none, some (.astore_n 3, 0, 0, 0), some (.aload_n 3, 0, 0, 0), some (.arraylength, 0, 0, 0), some (.istore 4, 0, 0, 0), none, some (.iconst 0, 0, 0, 0), some (.istore 5, 0, 0, 0), none, some (.iload 5, 0, 0, 0), none],
  [some (.iload 4, 0, 0, 0), none, some (.if_icmp .ge 20, 38, 0, 0), none, none, some (.aload_n 3, 0, 0, 0), some (.iload 5, 0, 0, 0), none, some (.laload, 0, 0, 0), some (.lstore 6, 0, 0, 0), none, some (.lload_n 1, 0, 0, 0), some (.lload 6, 0, 0, 0), none, some (.ladd, 0, 0, 0), some (.lstore_n 1, 0, 0, 0)],
  [some (.iinc 5 1, 0, 0, 0), none, none, some (.goto (-21), 14, 0, 0), none, none, some (.lload_n 1, 0, 0, 0), some (.lreturn, 0, 0, 0)]]
def mp_43 : List (List (Option mE)) := [
  [some (.aload_n 0, 0, 0, 0), some (.getfield 19, 3, 2, 0), none, none, some (.lreturn, 0, 0, 0)]]
def mp_44 : List (List (Option mE)) := [
  [some (.iconst 0, 0, 0, 0), some (.istore 4, 0, 0, 0), none, some (.iload 4, 0, 0, 0), none, some (.bipush 8, 0, 0, 8), none, some (.if_icmp .ge 27, 34, 0, 0), none, none, some (.aload_n 0, 0, 0, 0), some (.getfield 15, 3, 1, 0), none, none, some (.iload 4, 0, 0, 0), none],
  [some (.iload 4, 0, 0, 0), none, some (.iload_n 3, 0, 0, 0), some (.if_icmp .ne 7, 26, 0, 0), none, none, some (.iconst 1, 0, 0, 1), some (.goto 4, 27, 0, 0), none, none, some (.iconst 0, 0, 0, 0), some (.iastore, 0, 0, 0), some (.iinc 4 1, 0, 0, 0), none, none, some (.goto (-28), 3, 0, 0)],
  [none, none, some (.aload_n 0, 0, 0, 0), some (.aload_n 1, 0, 0, 0), some (.aload_n 2, 0, 0, 0), some (.aload_n 0, 0, 0, 0), some (.getfield 15, 3, 1, 0), none, none, some (.invokevirtual 23, 45, 0, 0), none, none, some (.return_, 0, 0, 0)]]
def mp_45 : List (List (Option mE)) := [
  [some (.aload_n 0, 0, 0, 0), some (.getfield 9, 3, 0, 0), none, none, some (.lconst 0, 0, 0, 0), some (.invokestatic 27, 2, 0, 0), none, none, some (.aload_n 0, 0, 0, 0), some (.lconst 1, 0, 0, 1), some (.putfield 19, 3, 2, 0), none, none, some (.iconst 0, 0, 0, 0), some (.istore 4, 0, 0, 0), none],
  [some (.iload 4, 0, 0, 0), none, some (.aload_n 1, 0, 0, 0), some (.invokevirtual 33, 12, 0, 0), none, none, some (.if_icmp .ge 119, 141, 0, 0), none, none, some (.iload 4, 0, 0, 0), none, some (.bipush 8, 0, 0, 8), none, some (.if_icmp .ge 112, 141, 0, 0), none, none],
  [some (.aload_n 1, 0, 0, 0), some (.iload 4, 0, 0, 0), none, some (.invokevirtual 39, 13, 0, 0), none, none, some (.istore 5, 0, 0, 0), none, some (.iconst 0, 0, 0, 0), some (.istore 6, 0, 0, 0), none, some (.ldc2_w 43, 0, 0, 10), none, none, some (.aload_n 0, 0, 0, 0), some (.getfield 19, 3, 2, 0)],
  [none, none, some (.lmul, 0, 0, 0), some (.aload_n 3, 0, 0, 0), some (.iload 5, 0, 0, 0), none, some (.invokestatic 45, 87, 0, 0), none, none, some (.i2l, 0, 0, 0), some (.lmul, 0, 0, 0), some (.lstore 7, 0, 0, 0), none, some (.iconst 0, 0, 0, 0), some (.istore 9, 0, 0, 0), none],
  [some (.iload 9, 0, 0, 0), none, some (.iload 4, 0, 0, 0), none, some (.if_icmp .ge 47, 115, 0, 0), none, none, some (.aload_n 2, 0, 0, 0), some (.iload 5, 0, 0, 0), none, some (.aload_n 1, 0, 0, 0), some (.iload 9, 0, 0, 0), none, some (.invokevirtual 39, 13, 0, 0), none, none],
  [some (.invokevirtual 49, 4, 0, 0), none, none, some (.istore 10, 0, 0, 0), none, some (.iload 6, 0, 0, 0), none, some (.iload 10, 0, 0, 0), none, some (.iadd, 0, 0, 0), some (.istore 6, 0, 0, 0), none, some (.lload 7, 0, 0, 0), none, some (.iload 10, 0, 0, 0), none],
  [some (.i2l, 0, 0, 0), some (.aload_n 0, 0, 0, 0), some (.iload 9, 0, 0, 0), none, some (.iload 4, 0, 0, 0), none, some (.invokevirtual 55, 46, 0, 0), none, none, some (.lmul, 0, 0, 0), some (.ladd, 0, 0, 0), some (.lstore 7, 0, 0, 0), none, some (.iinc 9 1, 0, 0, 0), none, none],
  [some (.goto (-48), 64, 0, 0), none, none, some (.aload_n 0, 0, 0, 0), some (.bipush 10, 0, 0, 10), none, some (.iload 6, 0, 0, 0), none, some (.isub, 0, 0, 0), some (.iload 4, 0, 0, 0), none, some (.invokevirtual 59, 47, 0, 0), none, none, some (.aload_n 0, 0, 0, 0), some (.getfield 9, 3, 0, 0)],
  [none, none, some (.iload 4, 0, 0, 0), none, some (.lload 7, 0, 0, 0), none, some (.lastore, 0, 0, 0), some (.iinc 4 1, 0, 0, 0), none, none, some (.goto (-122), 16, 0, 0), none, none, some (.return_, 0, 0, 0)]]
def mp_46 : List (List (Option mE)) := [
  [some (.lconst 0, 0, 0, 0), some (.lstore_n 3, 0, 0, 0), some (.iload_n 1, 0, 0, 0), some (.iconst 0, 0, 0, 0), some (.invokestatic 63, 901, 0, 0), none, none, some (.istore 5, 0, 0, 0), none, some (.iload 5, 0, 0, 0), none, some (.iload_n 2, 0, 0, 0), some (.if_icmp .ge 26, 38, 0, 0), none, none, some (.iload 5, 0, 0, 0)],
  [none, some (.bipush 8, 0, 0, 8), none, some (.if_icmp .ge 19, 38, 0, 0), none, none, some (.lload_n 3, 0, 0, 0), some (.aload_n 0, 0, 0, 0), some (.getfield 9, 3, 0, 0), none, none, some (.iload 5, 0, 0, 0), none, some (.laload, 0, 0, 0), some (.ladd, 0, 0, 0), some (.lstore_n 3, 0, 0, 0)],
  [some (.iinc 5 1, 0, 0, 0), none, none, some (.goto (-26), 9, 0, 0), none, none, some (.lload_n 3, 0, 0, 0), some (.lreturn, 0, 0, 0)]]
def mp_47 : List (List (Option mE)) := [
  [some (.aload_n 0, 0, 0, 0), some (.dup, 0, 0, 0), some (.getfield 19, 3, 2, 0), none, none, some (.iload_n 1, 0, 0, 0), some (.i2l, 0, 0, 0), some (.lmul, 0, 0, 0), some (.putfield 19, 3, 2, 0), none, none, some (.iconst 0, 0, 0, 0), some (.istore_n 3, 0, 0, 0), some (.iload_n 3, 0, 0, 0), some (.iload_n 2, 0, 0, 0), some (.if_icmp .ge 26, 41, 0, 0)],
  [none, none, some (.iload_n 3, 0, 0, 0), some (.bipush 8, 0, 0, 8), none, some (.if_icmp .ge 20, 41, 0, 0), none, none, some (.aload_n 0, 0, 0, 0), some (.getfield 9, 3, 0, 0), none, none, some (.iload_n 3, 0, 0, 0), some (.dup2, 0, 0, 0), some (.laload, 0, 0, 0), some (.iload_n 1, 0, 0, 0)],
  [some (.i2l, 0, 0, 0), some (.lmul, 0, 0, 0), some (.lastore, 0, 0, 0), some (.iinc 3 1, 0, 0, 0), none, none, some (.goto (-25), 13, 0, 0), none, none, some (.return_, 0, 0, 0)]]
def mp_48 : List (List (Option mE)) := [
  [some (.iload_n 2, 0, 0, 0), some (.ifCond .lt 28, 29, 0, 0), none, none, some (.iload_n 2, 0, 0, 0), some (.bipush 8, 0, 0, 8), none, some (.if_icmp .ge 22, 29, 0, 0), none, none, some (.aload_n 0, 0, 0, 0), some (.getfield 9, 4, 0, 0), none, none, some (.iload_n 1, 0, 0, 0), some (.invokestatic 18, 87, 0, 0)],
  [none, none, some (.iconst 1, 0, 0, 1), some (.iload_n 2, 0, 0, 0), some (.ishl, 0, 0, 0), some (.iand, 0, 0, 0), some (.ifCond .eq 7, 29, 0, 0), none, none, some (.iconst 1, 0, 0, 1), some (.goto 4, 30, 0, 0), none, none, some (.iconst 0, 0, 0, 0), some (.ireturn, 1, 0, 0)]]
def mp_49 : List (List (Option mE)) := [
  [some (.aload_n 0, 0, 0, 0), some (.getfield 22, 4, 2, 0), none, none, some (.ireturn, 0, 0, 0)]]
def mp_50 : List (List (Option mE)) := [
  [some (.aload_n 0, 0, 0, 0), some (.getfield 15, 4, 1, 0), none, none, some (.iload_n 1, 0, 0, 0), some (.invokestatic 18, 87, 0, 0), none, none, some (.ireturn, 0, 0, 0)]]
def mp_51 : List (List (Option mE)) := [
  [some (.aload_n 0, 0, 0, 0), some (.iload_n 1, 0, 0, 0), some (.aload_n 2, 0, 0, 0), some (.invokevirtual 26, 52, 0, 0), none, none, some (.aload_n 0, 0, 0, 0), some (.iload_n 1, 0, 0, 0), some (.invokevirtual 30, 53, 0, 0), none, none, some (.return_, 0, 0, 0)]]
def mp_52 : List (List (Option mE)) := [
  [some (.iconst 0, 0, 0, 0), some (.istore_n 3, 0, 0, 0), some (.iload_n 3, 0, 0, 0), some (.iload_n 1, 0, 0, 0), some (.if_icmp .ge 64, 68, 0, 0), none, none, some (.iload_n 3, 0, 0, 0), some (.bipush 8, 0, 0, 8), none, some (.if_icmp .ge 58, 68, 0, 0), none, none, some (.aload_n 0, 0, 0, 0), some (.getfield 9, 4, 0, 0), none],
  [none, some (.iload_n 3, 0, 0, 0), some (.iconst 0, 0, 0, 0), some (.iastore, 0, 0, 0), some (.iconst 0, 0, 0, 0), some (.istore 4, 0, 0, 0), none, some (.iload 4, 0, 0, 0), none, some (.iload_n 1, 0, 0, 0), some (.if_icmp .ge 36, 62, 0, 0), none, none, some (.aload_n 0, 0, 0, 0), some (.getfield 9, 4, 0, 0), none],
  [none, some (.iload_n 3, 0, 0, 0), some (.dup2, 0, 0, 0), some (.iaload, 0, 0, 0), some (.aload_n 2, 0, 0, 0), some (.iload_n 3, 0, 0, 0), some (.iload 4, 0, 0, 0), none, some (.invokevirtual 34, 4, 0, 0), none, none, some (.ifCond .le 10, 53, 0, 0), none, none, some (.iconst 1, 0, 0, 1), some (.iload 4, 0, 0, 0)],
  [none, some (.ishl, 0, 0, 0), some (.goto 4, 54, 0, 0), none, none, some (.iconst 0, 0, 0, 0), some (.ior, 0, 0, 0), some (.iastore, 0, 0, 0), some (.iinc 4 1, 0, 0, 0), none, none, some (.goto (-36), 23, 0, 0), none, none, some (.iinc 3 1, 0, 0, 0), none],
  [none, some (.goto (-63), 2, 0, 0), none, none, some (.iconst 0, 0, 0, 0), some (.istore_n 3, 0, 0, 0), some (.iload_n 3, 0, 0, 0), some (.iload_n 1, 0, 0, 0), some (.if_icmp .ge 67, 139, 0, 0), none, none, some (.iload_n 3, 0, 0, 0), some (.bipush 8, 0, 0, 8), none, some (.if_icmp .ge 61, 139, 0, 0), none],
  [none, some (.iconst 0, 0, 0, 0), some (.istore 4, 0, 0, 0), none, some (.iload 4, 0, 0, 0), none, some (.iload_n 1, 0, 0, 0), some (.if_icmp .ge 46, 133, 0, 0), none, none, some (.iload 4, 0, 0, 0), none, some (.bipush 8, 0, 0, 8), none, some (.if_icmp .ge 39, 133, 0, 0), none],
  [none, some (.aload_n 0, 0, 0, 0), some (.getfield 9, 4, 0, 0), none, none, some (.iload 4, 0, 0, 0), none, some (.dup2, 0, 0, 0), some (.iaload, 0, 0, 0), some (.aload_n 0, 0, 0, 0), some (.iload 4, 0, 0, 0), none, some (.iload_n 3, 0, 0, 0), some (.invokevirtual 40, 48, 0, 0), none, none],
  [some (.ifCond .eq 12, 124, 0, 0), none, none, some (.aload_n 0, 0, 0, 0), some (.getfield 9, 4, 0, 0), none, none, some (.iload_n 3, 0, 0, 0), some (.iaload, 0, 0, 0), some (.goto 4, 125, 0, 0), none, none, some (.iconst 0, 0, 0, 0), some (.ior, 0, 0, 0), some (.iastore, 0, 0, 0), some (.iinc 4 1, 0, 0, 0)],
  [none, none, some (.goto (-46), 84, 0, 0), none, none, some (.iinc 3 1, 0, 0, 0), none, none, some (.goto (-66), 70, 0, 0), none, none, some (.return_, 0, 0, 0)]]
def mp_53 : List (List (Option mE)) := [
  [some (.iconst 1, 0, 0, 1), some (.iload_n 1, 0, 0, 0), some (.ishl, 0, 0, 0), some (.iconst 1, 0, 0, 1), some (.isub, 0, 0, 0), some (.istore_n 2, 0, 0, 0), some (.aload_n 0, 0, 0, 0), some (.iconst 0, 0, 0, 0), some (.putfield 22, 4, 2, 0), none, none, some (.iconst 0, 0, 0, 0), some (.istore_n 3, 0, 0, 0), some (.iload_n 3, 0, 0, 0), some (.iload_n 1, 0, 0, 0), some (.if_icmp .ge 81, 96, 0, 0)],
  [none, none, some (.iload_n 2, 0, 0, 0), some (.ifCond .eq 77, 96, 0, 0), none, none, some (.aload_n 0, 0, 0, 0), some (.iload_n 1, 0, 0, 0), some (.iload_n 2, 0, 0, 0), some (.invokevirtual 44, 54, 0, 0), none, none, some (.istore 4, 0, 0, 0), none, some (.iconst 0, 0, 0, 0), some (.istore 5, 0, 0, 0)],
  [none, some (.iload 5, 0, 0, 0), none, some (.iload_n 1, 0, 0, 0), some (.if_icmp .ge 37, 73, 0, 0), none, none, some (.iload 5, 0, 0, 0), none, some (.bipush 8, 0, 0, 8), none, some (.if_icmp .ge 30, 73, 0, 0), none, none, some (.iload 4, 0, 0, 0), none],
  [some (.iconst 1, 0, 0, 1), some (.iload 5, 0, 0, 0), none, some (.ishl, 0, 0, 0), some (.iand, 0, 0, 0), some (.ifCond .eq 14, 67, 0, 0), none, none, some (.aload_n 0, 0, 0, 0), some (.getfield 15, 4, 1, 0), none, none, some (.iload 5, 0, 0, 0), none, some (.aload_n 0, 0, 0, 0), some (.getfield 22, 4, 2, 0)],
  [none, none, some (.iastore, 0, 0, 0), some (.iinc 5 1, 0, 0, 0), none, none, some (.goto (-37), 33, 0, 0), none, none, some (.iload_n 2, 0, 0, 0), some (.iload 4, 0, 0, 0), none, some (.iconst (-1), 0, 0, (-1)), some (.ixor, 0, 0, 0), some (.iand, 0, 0, 0), some (.istore_n 2, 0, 0, 0)],
  [some (.aload_n 0, 0, 0, 0), some (.dup, 0, 0, 0), some (.getfield 22, 4, 2, 0), none, none, some (.iconst 1, 0, 0, 1), some (.iadd, 0, 0, 0), some (.putfield 22, 4, 2, 0), none, none, some (.iinc 3 1, 0, 0, 0), none, none, some (.goto (-80), 13, 0, 0), none, none],
  [some (.return_, 0, 0, 0)]]
def mp_54 : List (List (Option mE)) := [
  [some (.iconst 0, 0, 0, 0), some (.istore_n 3, 0, 0, 0), some (.iload_n 3, 0, 0, 0), some (.iload_n 1, 0, 0, 0), some (.if_icmp .ge 46, 50, 0, 0), none, none, some (.aload_n 0, 0, 0, 0), some (.iload_n 3, 0, 0, 0), some (.iload_n 1, 0, 0, 0), some (.invokevirtual 47, 55, 0, 0), none, none, some (.istore 4, 0, 0, 0), none, some (.iload_n 2, 0, 0, 0)],
  [some (.iconst 1, 0, 0, 1), some (.iload_n 3, 0, 0, 0), some (.ishl, 0, 0, 0), some (.iand, 0, 0, 0), some (.ifCond .eq 24, 44, 0, 0), none, none, some (.aload_n 0, 0, 0, 0), some (.getfield 9, 4, 0, 0), none, none, some (.iload_n 3, 0, 0, 0), some (.invokestatic 18, 87, 0, 0), none, none, some (.iload_n 2, 0, 0, 0)],
  [some (.iand, 0, 0, 0), some (.iload 4, 0, 0, 0), none, some (.iconst (-1), 0, 0, (-1)), some (.ixor, 0, 0, 0), some (.iand, 0, 0, 0), some (.ifCond .ne 6, 44, 0, 0), none, none, some (.iload 4, 0, 0, 0), none, some (.ireturn, 0, 0, 0), some (.iinc 3 1, 0, 0, 0), none, none, some (.goto (-45), 2, 0, 0)],
  [none, none, some (.iconst 0, 0, 0, 0), some (.ireturn, 0, 0, 0)]]
def mp_55 : List (List (Option mE)) := [
  [some (.iconst 1, 0, 0, 1), some (.iload_n 1, 0, 0, 0), some (.ishl, 0, 0, 0), some (.istore_n 3, 0, 0, 0), some (.iconst 0, 0, 0, 0), some (.istore 4, 0, 0, 0), none, some (.iload 4, 0, 0, 0), none, some (.iload_n 2, 0, 0, 0), some (.if_icmp .ge 40, 50, 0, 0), none, none, some (.iload_n 3, 0, 0, 0), some (.aload_n 0, 0, 0, 0), some (.iload_n 1, 0, 0, 0)],
  [some (.iload 4, 0, 0, 0), none, some (.invokevirtual 40, 48, 0, 0), none, none, some (.ifCond .eq 20, 41, 0, 0), none, none, some (.aload_n 0, 0, 0, 0), some (.iload 4, 0, 0, 0), none, some (.iload_n 1, 0, 0, 0), some (.invokevirtual 40, 48, 0, 0), none, none, some (.ifCond .eq 10, 41, 0, 0)],
  [none, none, some (.iconst 1, 0, 0, 1), some (.iload 4, 0, 0, 0), none, some (.ishl, 0, 0, 0), some (.goto 4, 42, 0, 0), none, none, some (.iconst 0, 0, 0, 0), some (.ior, 0, 0, 0), some (.istore_n 3, 0, 0, 0), some (.iinc 4 1, 0, 0, 0), none, none, some (.goto (-40), 7, 0, 0)],
  [none, none, some (.iload_n 3, 0, 0, 0), some (.ireturn, 0, 0, 0)]]
def mp_56 : List (List (Option mE)) := [
  [some (.iload_n 1, 0, 0, 0), some (.invokestatic 76, 82, 0, 0), none, none, some (.ifCond .ne 6, 10, 0, 0), none, none, some (.bipush (-2), 0, 0, (-2)), none, some (.ireturn, 0, 0, 0), some (.aload_n 0, 0, 0, 0), some (.getfield 72, 8, 10, 0), none, none, some (.bipush 8, 0, 0, 8), none],
  [some (.if_icmp .lt 6, 22, 0, 0), none, none, some (.bipush (-4), 0, 0, (-4)), none, some (.ireturn, 0, 0, 0), some (.aload_n 0, 0, 0, 0), some (.getfield 72, 8, 10, 0), none, none, some (.istore_n 2, 0, 0, 0), some (.aload_n 0, 0, 0, 0), some (.getfield 9, 8, 0, 0), none, none, some (.iload_n 2, 0, 0, 0)],
  [some (.iload_n 1, 0, 0, 0), some (.iastore, 0, 0, 0), some (.aload_n 0, 0, 0, 0), some (.iload_n 2, 0, 0, 0), some (.iconst 1, 0, 0, 1), some (.iadd, 0, 0, 0), some (.putfield 72, 8, 10, 0), none, none, some (.aload_n 0, 0, 0, 0), some (.getfield 26, 8, 3, 0), none, none, some (.aload_n 0, 0, 0, 0), some (.getfield 72, 8, 10, 0), none],
  [none, some (.invokevirtual 80, 17, 0, 0), none, none, some (.iload_n 2, 0, 0, 0), some (.ireturn, 0, 0, 0)]]
def mp_57 : List (List (Option mE)) := [
  [some (.aload_n 0, 0, 0, 0), some (.iload_n 1, 0, 0, 0), some (.invokevirtual 84, 81, 0, 0), none, none, some (.ifCond .ne 5, 10, 0, 0), none, none, some (.iconst (-1), 0, 0, (-1)), some (.ireturn, 0, 0, 0), some (.iload_n 2, 0, 0, 0), some (.invokestatic 76, 82, 0, 0), none, none, some (.ifCond .ne 6, 20, 0, 0), none],
  [none, some (.bipush (-2), 0, 0, (-2)), none, some (.ireturn, 0, 0, 0), some (.aload_n 0, 0, 0, 0), some (.getfield 9, 8, 0, 0), none, none, some (.iload_n 1, 0, 0, 0), some (.iaload, 0, 0, 0), some (.istore_n 3, 0, 0, 0), some (.aload_n 0, 0, 0, 0), some (.getfield 9, 8, 0, 0), none, none, some (.iload_n 1, 0, 0, 0)],
  [some (.iload_n 2, 0, 0, 0), some (.iastore, 0, 0, 0), some (.iload_n 3, 0, 0, 0), some (.ireturn, 0, 0, 0)]]
def mp_58 : List (List (Option mE)) := [
  [some (.aload_n 0, 0, 0, 0), some (.iload_n 1, 0, 0, 0), some (.invokevirtual 84, 81, 0, 0), none, none, some (.ifCond .eq 11, 16, 0, 0), none, none, some (.aload_n 0, 0, 0, 0), some (.iload_n 2, 0, 0, 0), some (.invokevirtual 84, 81, 0, 0), none, none, some (.ifCond .ne 5, 18, 0, 0), none, none],
  [some (.iconst (-1), 0, 0, (-1)), some (.ireturn, 0, 0, 0), some (.iload_n 3, 0, 0, 0), some (.ifCond .lt 9, 28, 0, 0), none, none, some (.iload_n 3, 0, 0, 0), some (.bipush 9, 0, 0, 9), none, some (.if_icmp .le 6, 31, 0, 0), none, none, some (.bipush (-2), 0, 0, (-2)), none, some (.ireturn, 0, 0, 0), some (.iload_n 1, 0, 0, 0)],
  [some (.iload_n 2, 0, 0, 0), some (.if_icmp .ne 6, 39, 0, 0), none, none, some (.bipush (-3), 0, 0, (-3)), none, some (.ireturn, 0, 0, 0), some (.aload_n 0, 0, 0, 0), some (.getfield 16, 8, 1, 0), none, none, some (.iload_n 1, 0, 0, 0), some (.iload_n 2, 0, 0, 0), some (.iload_n 3, 0, 0, 0), some (.invokevirtual 87, 6, 0, 0), none],
  [none, some (.ireturn, 0, 0, 0)]]
def mp_59 : List (List (Option mE)) := [
  [some (.aload_n 0, 0, 0, 0), some (.iload_n 1, 0, 0, 0), some (.invokevirtual 84, 81, 0, 0), none, none, some (.ifCond .eq 11, 16, 0, 0), none, none, some (.aload_n 0, 0, 0, 0), some (.iload_n 2, 0, 0, 0), some (.invokevirtual 84, 81, 0, 0), none, none, some (.ifCond .ne 5, 18, 0, 0), none, none],
  [some (.iconst (-1), 0, 0, (-1)), some (.ireturn, 0, 0, 0), some (.aload_n 0, 0, 0, 0), some (.getfield 16, 8, 1, 0), none, none, some (.iload_n 1, 0, 0, 0), some (.iload_n 2, 0, 0, 0), some (.invokevirtual 91, 4, 0, 0), none, none, some (.ireturn, 0, 0, 0)]]
def mp_60 : List (List (Option mE)) := [
  [some (.aload_n 0, 0, 0, 0), some (.iload_n 1, 0, 0, 0), some (.invokevirtual 84, 81, 0, 0), none, none, some (.ifCond .eq 11, 16, 0, 0), none, none, some (.aload_n 0, 0, 0, 0), some (.iload_n 2, 0, 0, 0), some (.invokevirtual 84, 81, 0, 0), none, none, some (.ifCond .ne 5, 18, 0, 0), none, none],
  [some (.iconst (-1), 0, 0, (-1)), some (.ireturn, 0, 0, 0), some (.aload_n 0, 0, 0, 0), some (.getfield 33, 8, 4, 0), none, none, some (.aload_n 0, 0, 0, 0), some (.getfield 72, 8, 10, 0), none, none, some (.aload_n 0, 0, 0, 0), some (.getfield 16, 8, 1, 0), none, none, some (.invokevirtual 95, 51, 0, 0), none],
  [none, some (.aload_n 0, 0, 0, 0), some (.getfield 33, 8, 4, 0), none, none, some (.iload_n 1, 0, 0, 0), some (.iload_n 2, 0, 0, 0), some (.invokevirtual 99, 48, 0, 0), none, none, some (.ifCond .eq 7, 49, 0, 0), none, none, some (.iconst 1, 0, 0, 1), some (.goto 4, 50, 0, 0), none],
  [none, some (.iconst 0, 0, 0, 0), some (.ireturn, 0, 0, 0)]]
def mp_61 : List (List (Option mE)) := [
  [some (.aload_n 0, 0, 0, 0), some (.getfield 33, 8, 4, 0), none, none, some (.aload_n 0, 0, 0, 0), some (.getfield 72, 8, 10, 0), none, none, some (.aload_n 0, 0, 0, 0), some (.getfield 16, 8, 1, 0), none, none, some (.invokevirtual 95, 51, 0, 0), none, none, some (.aload_n 0, 0, 0, 0)],
  [some (.getfield 33, 8, 4, 0), none, none, some (.invokevirtual 103, 49, 0, 0), none, none, some (.ireturn, 0, 0, 0)]]
def mp_62 : List (List (Option mE)) := [
  [some (.aload_n 0, 0, 0, 0), some (.iload_n 1, 0, 0, 0), some (.invokevirtual 84, 81, 0, 0), none, none, some (.ifCond .ne 5, 10, 0, 0), none, none, some (.iconst (-1), 0, 0, (-1)), some (.ireturn, 0, 0, 0), some (.aload_n 0, 0, 0, 0), some (.getfield 33, 8, 4, 0), none, none, some (.aload_n 0, 0, 0, 0), some (.getfield 72, 8, 10, 0)],
  [none, none, some (.aload_n 0, 0, 0, 0), some (.getfield 16, 8, 1, 0), none, none, some (.invokevirtual 95, 51, 0, 0), none, none, some (.aload_n 0, 0, 0, 0), some (.getfield 33, 8, 4, 0), none, none, some (.iload_n 1, 0, 0, 0), some (.invokevirtual 107, 50, 0, 0), none],
  [none, some (.ireturn, 0, 0, 0)]]
def mp_63 : List (List (Option mE)) := [
  [some (.aload_n 0, 0, 0, 0), some (.getfield 40, 8, 5, 0), none, none, some (.aload_n 0, 0, 0, 0), some (.getfield 72, 8, 10, 0), none, none, some (.aload_n 0, 0, 0, 0), some (.getfield 16, 8, 1, 0), none, none, some (.invokevirtual 111, 30, 0, 0), none, none, some (.ireturn, 0, 0, 0)]]
def mp_64 : List (List (Option mE)) := [
  [some (.iload_n 1, 0, 0, 0), some (.ifCond .lt 11, 12, 0, 0), none, none, some (.iload_n 1, 0, 0, 0), some (.aload_n 0, 0, 0, 0), some (.getfield 72, 8, 10, 0), none, none, some (.if_icmp .lt 6, 15, 0, 0), none, none, some (.bipush (-9), 0, 0, (-9)), none, some (.ireturn, 0, 0, 0), some (.aload_n 0, 0, 0, 0)],
  [some (.getfield 40, 8, 5, 0), none, none, some (.aload_n 0, 0, 0, 0), some (.getfield 72, 8, 10, 0), none, none, some (.aload_n 0, 0, 0, 0), some (.getfield 16, 8, 1, 0), none, none, some (.invokevirtual 115, 31, 0, 0), none, none, some (.iload_n 1, 0, 0, 0), some (.invokevirtual 118, 13, 0, 0)],
  [none, none, some (.ireturn, 0, 0, 0)]]
def mp_65 : List (List (Option mE)) := [
  [some (.aload_n 0, 0, 0, 0), some (.iload_n 1, 0, 0, 0), some (.invokevirtual 84, 81, 0, 0), none, none, some (.ifCond .eq 11, 16, 0, 0), none, none, some (.aload_n 0, 0, 0, 0), some (.iload_n 2, 0, 0, 0), some (.invokevirtual 84, 81, 0, 0), none, none, some (.ifCond .ne 5, 18, 0, 0), none, none],
  [some (.iconst (-1), 0, 0, (-1)), some (.ireturn, 0, 0, 0), some (.aload_n 0, 0, 0, 0), some (.getfield 40, 8, 5, 0), none, none, some (.aload_n 0, 0, 0, 0), some (.getfield 72, 8, 10, 0), none, none, some (.aload_n 0, 0, 0, 0), some (.getfield 16, 8, 1, 0), none, none, some (.invokevirtual 111, 30, 0, 0), none],
  [none, some (.istore_n 3, 0, 0, 0), some (.aload_n 0, 0, 0, 0), some (.getfield 16, 8, 1, 0), none, none, some (.iload_n 1, 0, 0, 0), some (.iload_n 2, 0, 0, 0), some (.iconst 0, 0, 0, 0), some (.invokevirtual 87, 6, 0, 0), none, none, some (.istore 4, 0, 0, 0), none, some (.aload_n 0, 0, 0, 0), some (.getfield 40, 8, 5, 0)],
  [none, none, some (.aload_n 0, 0, 0, 0), some (.getfield 72, 8, 10, 0), none, none, some (.aload_n 0, 0, 0, 0), some (.getfield 16, 8, 1, 0), none, none, some (.invokevirtual 111, 30, 0, 0), none, none, some (.istore 5, 0, 0, 0), none, some (.aload_n 0, 0, 0, 0)],
  [some (.getfield 16, 8, 1, 0), none, none, some (.iload_n 1, 0, 0, 0), some (.iload_n 2, 0, 0, 0), some (.iload 4, 0, 0, 0), none, some (.invokevirtual 87, 6, 0, 0), none, none, some (.pop, 0, 0, 0), some (.iload_n 3, 0, 0, 0), some (.iload 5, 0, 0, 0), none, some (.isub, 0, 0, 0), some (.ireturn, 0, 0, 0)]]
def mp_66 : List (List (Option mE)) := [
  [some (.aload_n 0, 0, 0, 0), some (.getfield 26, 8, 3, 0), none, none, some (.iload_n 1, 0, 0, 0), some (.invokevirtual 118, 13, 0, 0), none, none, some (.ireturn, 0, 0, 0)]]
def mp_67 : List (List (Option mE)) := [
  [some (.aload_n 0, 0, 0, 0), some (.getfield 26, 8, 3, 0), none, none, some (.iload_n 1, 0, 0, 0), some (.invokevirtual 121, 11, 0, 0), none, none, some (.ifCond .eq 14, 22, 0, 0), none, none, some (.aload_n 0, 0, 0, 0), some (.getfield 26, 8, 3, 0), none, none, some (.iload_n 2, 0, 0, 0)],
  [some (.invokevirtual 121, 11, 0, 0), none, none, some (.ifCond .ne 6, 25, 0, 0), none, none, some (.bipush (-2), 0, 0, (-2)), none, some (.ireturn, 0, 0, 0), some (.aload_n 0, 0, 0, 0), some (.getfield 26, 8, 3, 0), none, none, some (.iload_n 1, 0, 0, 0), some (.iload_n 2, 0, 0, 0), some (.invokevirtual 124, 19, 0, 0)],
  [none, none, some (.aload_n 0, 0, 0, 0), some (.getfield 26, 8, 3, 0), none, none, some (.aload_n 0, 0, 0, 0), some (.getfield 16, 8, 1, 0), none, none, some (.invokevirtual 128, 20, 0, 0), none, none, some (.ireturn, 0, 0, 0)]]
def mp_68 : List (List (Option mE)) := [
  [some (.aload_n 0, 0, 0, 0), some (.getfield 26, 8, 3, 0), none, none, some (.aload_n 0, 0, 0, 0), some (.getfield 40, 8, 5, 0), none, none, some (.aload_n 0, 0, 0, 0), some (.getfield 72, 8, 10, 0), none, none, some (.aload_n 0, 0, 0, 0), some (.getfield 16, 8, 1, 0), none, none],
  [some (.invokevirtual 115, 31, 0, 0), none, none, some (.invokevirtual 132, 18, 0, 0), none, none, some (.aload_n 0, 0, 0, 0), some (.getfield 26, 8, 3, 0), none, none, some (.aload_n 0, 0, 0, 0), some (.getfield 16, 8, 1, 0), none, none, some (.invokevirtual 128, 20, 0, 0), none],
  [none, some (.ireturn, 0, 0, 0)]]
def mp_69 : List (List (Option mE)) := [
  [some (.aload_n 0, 0, 0, 0), some (.getfield 26, 8, 3, 0), none, none, some (.aload_n 0, 0, 0, 0), some (.getfield 16, 8, 1, 0), none, none, some (.invokevirtual 128, 20, 0, 0), none, none, some (.ireturn, 0, 0, 0)]]
def mp_70 : List (List (Option mE)) := [
  [some (.aload_n 0, 0, 0, 0), some (.iload_n 1, 0, 0, 0), some (.invokevirtual 84, 81, 0, 0), none, none, some (.ifCond .eq 11, 16, 0, 0), none, none, some (.aload_n 0, 0, 0, 0), some (.iload_n 2, 0, 0, 0), some (.invokevirtual 84, 81, 0, 0), none, none, some (.ifCond .ne 5, 18, 0, 0), none, none],
  [some (.iconst (-1), 0, 0, (-1)), some (.ireturn, 0, 0, 0), some (.aload_n 0, 0, 0, 0), some (.getfield 16, 8, 1, 0), none, none, some (.iload_n 1, 0, 0, 0), some (.iload_n 2, 0, 0, 0), some (.invokevirtual 91, 4, 0, 0), none, none, some (.ifCond .le 26, 53, 0, 0), none, none, some (.aload_n 0, 0, 0, 0), some (.getfield 26, 8, 3, 0)],
  [none, none, some (.iload_n 2, 0, 0, 0), some (.invokevirtual 136, 14, 0, 0), none, none, some (.aload_n 0, 0, 0, 0), some (.getfield 26, 8, 3, 0), none, none, some (.iload_n 1, 0, 0, 0), some (.invokevirtual 136, 14, 0, 0), none, none, some (.if_icmp .le 7, 53, 0, 0), none],
  [none, some (.iconst 1, 0, 0, 1), some (.goto 4, 54, 0, 0), none, none, some (.iconst 0, 0, 0, 0), some (.ireturn, 0, 0, 0)]]
def mp_71 : List (List (Option mE)) := [
  [some (.aload_n 0, 0, 0, 0), some (.iload_n 1, 0, 0, 0), some (.invokevirtual 84, 81, 0, 0), none, none, some (.ifCond .eq 11, 16, 0, 0), none, none, some (.aload_n 0, 0, 0, 0), some (.iload_n 2, 0, 0, 0), some (.invokevirtual 84, 81, 0, 0), none, none, some (.ifCond .ne 5, 18, 0, 0), none, none],
  [some (.iconst (-1), 0, 0, (-1)), some (.ireturn, 0, 0, 0), some (.iload_n 3, 0, 0, 0), some (.ifCond .lt 9, 28, 0, 0), none, none, some (.iload_n 3, 0, 0, 0), some (.bipush 8, 0, 0, 8), none, some (.if_icmp .le 6, 31, 0, 0), none, none, some (.bipush (-2), 0, 0, (-2)), none, some (.ireturn, 0, 0, 0), some (.iload_n 1, 0, 0, 0)],
  [some (.iload_n 2, 0, 0, 0), some (.if_icmp .eq 28, 61, 0, 0), none, none, some (.aload_n 0, 0, 0, 0), some (.getfield 20, 8, 2, 0), none, none, some (.iload_n 1, 0, 0, 0), some (.invokevirtual 139, 7, 0, 0), none, none, some (.aload_n 0, 0, 0, 0), some (.getfield 20, 8, 2, 0), none, none],
  [some (.iload_n 1, 0, 0, 0), some (.iload_n 2, 0, 0, 0), some (.invokevirtual 91, 4, 0, 0), none, none, some (.isub, 0, 0, 0), some (.iload_n 3, 0, 0, 0), some (.iadd, 0, 0, 0), some (.bipush 8, 0, 0, 8), none, some (.if_icmp .le 6, 64, 0, 0), none, none, some (.bipush (-3), 0, 0, (-3)), none, some (.ireturn, 0, 0, 0)],
  [some (.aload_n 0, 0, 0, 0), some (.getfield 20, 8, 2, 0), none, none, some (.iload_n 1, 0, 0, 0), some (.iload_n 2, 0, 0, 0), some (.iload_n 3, 0, 0, 0), some (.invokevirtual 87, 6, 0, 0), none, none, some (.ireturn, 0, 0, 0)]]
def mp_72 : List (List (Option mE)) := [
  [some (.aload_n 0, 0, 0, 0), some (.getfield 47, 8, 6, 0), none, none, some (.aload_n 0, 0, 0, 0), some (.getfield 26, 8, 3, 0), none, none, some (.aload_n 0, 0, 0, 0), some (.getfield 20, 8, 2, 0), none, none, some (.aload_n 0, 0, 0, 0), some (.getfield 9, 8, 0, 0), none, none],
  [some (.invokevirtual 142, 45, 0, 0), none, none, some (.aload_n 0, 0, 0, 0), some (.getfield 47, 8, 6, 0), none, none, some (.invokevirtual 146, 42, 0, 0), none, none, some (.aload_n 0, 0, 0, 0), some (.getfield 47, 8, 6, 0), none, none, some (.invokevirtual 150, 43, 0, 0), none],
  [none, some (.iload_n 1, 0, 0, 0), some (.invokestatic 153, 85, 0, 0), none, none, some (.lreturn, 0, 0, 0)]]
def mp_73 : List (List (Option mE)) := [
  [some (.aload_n 0, 0, 0, 0), some (.iload_n 1, 0, 0, 0), some (.invokevirtual 84, 81, 0, 0), none, none, some (.ifCond .ne 7, 12, 0, 0), none, none, some (.ldc2_w 157, 0, 0, (-1)), none, none, some (.lreturn, 0, 0, 0), some (.aload_n 0, 0, 0, 0), some (.getfield 47, 8, 6, 0), none, none],
  [some (.aload_n 0, 0, 0, 0), some (.getfield 26, 8, 3, 0), none, none, some (.aload_n 0, 0, 0, 0), some (.getfield 20, 8, 2, 0), none, none, some (.iload_n 1, 0, 0, 0), some (.invokevirtual 159, 44, 0, 0), none, none, some (.aload_n 0, 0, 0, 0), some (.getfield 47, 8, 6, 0), none, none],
  [some (.invokevirtual 146, 42, 0, 0), none, none, some (.aload_n 0, 0, 0, 0), some (.getfield 47, 8, 6, 0), none, none, some (.invokevirtual 150, 43, 0, 0), none, none, some (.iload_n 2, 0, 0, 0), some (.invokestatic 153, 85, 0, 0), none, none, some (.lreturn, 0, 0, 0)]]
def mp_74 : List (List (Option mE)) := [
  [some (.aload_n 0, 0, 0, 0), some (.iload_n 1, 0, 0, 0), some (.invokevirtual 84, 81, 0, 0), none, none, some (.ifCond .ne 5, 10, 0, 0), none, none, some (.iconst (-1), 0, 0, (-1)), some (.ireturn, 0, 0, 0), some (.aload_n 0, 0, 0, 0), some (.getfield 54, 8, 7, 0), none, none, some (.aload_n 0, 0, 0, 0), some (.getfield 26, 8, 3, 0)],
  [none, none, some (.aload_n 0, 0, 0, 0), some (.getfield 16, 8, 1, 0), none, none, some (.aload_n 0, 0, 0, 0), some (.getfield 9, 8, 0, 0), none, none, some (.invokevirtual 163, 23, 0, 0), none, none, some (.aload_n 0, 0, 0, 0), some (.getfield 54, 8, 7, 0), none],
  [none, some (.aload_n 0, 0, 0, 0), some (.getfield 26, 8, 3, 0), none, none, some (.iload_n 1, 0, 0, 0), some (.invokevirtual 136, 14, 0, 0), none, none, some (.invokevirtual 164, 21, 0, 0), none, none, some (.ireturn, 0, 0, 0)]]
def mp_75 : List (List (Option mE)) := [
  [some (.aload_n 0, 0, 0, 0), some (.getfield 54, 8, 7, 0), none, none, some (.aload_n 0, 0, 0, 0), some (.getfield 26, 8, 3, 0), none, none, some (.aload_n 0, 0, 0, 0), some (.getfield 16, 8, 1, 0), none, none, some (.aload_n 0, 0, 0, 0), some (.getfield 9, 8, 0, 0), none, none],
  [some (.invokevirtual 163, 23, 0, 0), none, none, some (.aload_n 0, 0, 0, 0), some (.getfield 54, 8, 7, 0), none, none, some (.invokevirtual 167, 22, 0, 0), none, none, some (.ireturn, 0, 0, 0)]]
def mp_76 : List (List (Option mE)) := [
  [some (.iload_n 1, 0, 0, 0), some (.invokestatic 170, 83, 0, 0), none, none, some (.ifCond .ne 6, 10, 0, 0), none, none, some (.bipush (-2), 0, 0, (-2)), none, some (.ireturn, 0, 0, 0), some (.aload_n 0, 0, 0, 0), some (.getfield 61, 8, 8, 0), none, none, some (.aload_n 0, 0, 0, 0), some (.getfield 72, 8, 10, 0)],
  [none, none, some (.aload_n 0, 0, 0, 0), some (.getfield 16, 8, 1, 0), none, none, some (.iload_n 1, 0, 0, 0), some (.invokevirtual 173, 37, 0, 0), none, none, some (.aload_n 0, 0, 0, 0), some (.getfield 61, 8, 8, 0), none, none, some (.invokevirtual 176, 35, 0, 0), none],
  [none, some (.ireturn, 0, 0, 0)]]
def mp_77 : List (List (Option mE)) := [
  [some (.aload_n 0, 0, 0, 0), some (.iload_n 2, 0, 0, 0), some (.invokevirtual 84, 81, 0, 0), none, none, some (.ifCond .ne 5, 10, 0, 0), none, none, some (.iconst (-1), 0, 0, (-1)), some (.ireturn, 0, 0, 0), some (.iload_n 1, 0, 0, 0), some (.invokestatic 170, 83, 0, 0), none, none, some (.ifCond .ne 6, 20, 0, 0), none],
  [none, some (.bipush (-2), 0, 0, (-2)), none, some (.ireturn, 0, 0, 0), some (.aload_n 0, 0, 0, 0), some (.getfield 61, 8, 8, 0), none, none, some (.aload_n 0, 0, 0, 0), some (.getfield 72, 8, 10, 0), none, none, some (.aload_n 0, 0, 0, 0), some (.getfield 16, 8, 1, 0), none, none],
  [some (.iload_n 1, 0, 0, 0), some (.invokevirtual 173, 37, 0, 0), none, none, some (.aload_n 0, 0, 0, 0), some (.getfield 61, 8, 8, 0), none, none, some (.iload_n 2, 0, 0, 0), some (.invokevirtual 179, 36, 0, 0), none, none, some (.ireturn, 0, 0, 0)]]
def mp_78 : List (List (Option mE)) := [
  [some (.aload_n 0, 0, 0, 0), some (.iload_n 1, 0, 0, 0), some (.invokevirtual 84, 81, 0, 0), none, none, some (.ifCond .eq 11, 16, 0, 0), none, none, some (.aload_n 0, 0, 0, 0), some (.iload_n 2, 0, 0, 0), some (.invokevirtual 84, 81, 0, 0), none, none, some (.ifCond .ne 7, 20, 0, 0), none, none],
  [some (.ldc2_w 157, 0, 0, (-1)), none, none, some (.lreturn, 0, 0, 0), some (.aload_n 0, 0, 0, 0), some (.getfield 68, 8, 9, 0), none, none, some (.iload_n 1, 0, 0, 0), some (.aload_n 0, 0, 0, 0), some (.getfield 72, 8, 10, 0), none, none, some (.aload_n 0, 0, 0, 0), some (.getfield 16, 8, 1, 0), none],
  [none, some (.invokevirtual 182, 26, 0, 0), none, none, some (.aload_n 0, 0, 0, 0), some (.getfield 68, 8, 9, 0), none, none, some (.iload_n 2, 0, 0, 0), some (.invokevirtual 186, 24, 0, 0), none, none, some (.i2l, 0, 0, 0), some (.ldc2_w 189, 0, 0, 10000000), none, none],
  [some (.iload_n 3, 0, 0, 0), some (.invokestatic 153, 85, 0, 0), none, none, some (.lreturn, 0, 0, 0)]]
def mp_79 : List (List (Option mE)) := [
  [some (.aload_n 0, 0, 0, 0), some (.iload_n 1, 0, 0, 0), some (.invokevirtual 84, 81, 0, 0), none, none, some (.ifCond .ne 5, 10, 0, 0), none, none, some (.iconst (-1), 0, 0, (-1)), some (.ireturn, 0, 0, 0), some (.iload_n 2, 0, 0, 0), some (.iconst 1, 0, 0, 1), some (.if_icmp .lt 10, 22, 0, 0), none, none, some (.iload_n 2, 0, 0, 0)],
  [some (.sipush 1000, 0, 0, 1000), none, none, some (.if_icmp .le 6, 25, 0, 0), none, none, some (.bipush (-2), 0, 0, (-2)), none, some (.ireturn, 0, 0, 0), some (.aload_n 0, 0, 0, 0), some (.getfield 68, 8, 9, 0), none, none, some (.iload_n 1, 0, 0, 0), some (.aload_n 0, 0, 0, 0), some (.getfield 72, 8, 10, 0)],
  [none, none, some (.aload_n 0, 0, 0, 0), some (.getfield 16, 8, 1, 0), none, none, some (.invokevirtual 182, 26, 0, 0), none, none, some (.iconst 1, 0, 0, 1), some (.istore_n 3, 0, 0, 0), some (.aload_n 0, 0, 0, 0), some (.getfield 68, 8, 9, 0), none, none, some (.sipush 10000, 0, 0, 10000)],
  [none, none, some (.iload_n 2, 0, 0, 0), some (.imul, 0, 0, 0), some (.invokevirtual 191, 25, 0, 0), none, none, some (.iload_n 3, 0, 0, 0), some (.isub, 0, 0, 0), some (.ireturn, 0, 0, 0)]]
def mp_80 : List (List (Option mE)) := [
  [some (.iload_n 1, 0, 0, 0), some (.tableswitch 69 0 4 #[35, 40, 48, 56, 64], 70, 0, 0), none, none, none, none, none, none, none, none, none, none, none, none, none, none],
  [none, none, none, none, none, none, none, none, none, none, none, none, none, none, none, none],
  [none, none, none, none, some (.aload_n 0, 0, 0, 0), some (.getfield 72, 8, 10, 0), none, none, some (.ireturn, 0, 0, 0), some (.aload_n 0, 0, 0, 0), some (.getfield 16, 8, 1, 0), none, none, some (.invokevirtual 193, 9, 0, 0), none, none],
  [some (.ireturn, 0, 0, 0), some (.aload_n 0, 0, 0, 0), some (.getfield 16, 8, 1, 0), none, none, some (.invokevirtual 194, 8, 0, 0), none, none, some (.ireturn, 0, 0, 0), some (.aload_n 0, 0, 0, 0), some (.getfield 20, 8, 2, 0), none, none, some (.invokevirtual 193, 9, 0, 0), none, none],
  [some (.ireturn, 0, 0, 0), some (.aload_n 0, 0, 0, 0), some (.invokevirtual 197, 84, 0, 0), none, none, some (.ireturn, 0, 0, 0), some (.bipush (-2), 0, 0, (-2)), none, some (.ireturn, 0, 0, 0)]]
def mp_81 : List (List (Option mE)) := [
  [some (.iload_n 1, 0, 0, 0), some (.ifCond .lt 21, 22, 0, 0), none, none, some (.iload_n 1, 0, 0, 0), some (.aload_n 0, 0, 0, 0), some (.getfield 72, 8, 10, 0), none, none, some (.if_icmp .ge 13, 22, 0, 0), none, none, some (.iload_n 1, 0, 0, 0), some (.bipush 8, 0, 0, 8), none, some (.if_icmp .ge 7, 22, 0, 0)],
  [none, none, some (.iconst 1, 0, 0, 1), some (.goto 4, 23, 0, 0), none, none, some (.iconst 0, 0, 0, 0), some (.ireturn, 1, 0, 0)]]
def mp_82 : List (List (Option mE)) := [
  [some (.iload_n 0, 0, 0, 0), some (.iconst 1, 0, 0, 1), some (.if_icmp .lt 13, 15, 0, 0), none, none, some (.iload_n 0, 0, 0, 0), some (.bipush 20, 0, 0, 20), none, some (.if_icmp .gt 7, 15, 0, 0), none, none, some (.iconst 1, 0, 0, 1), some (.goto 4, 16, 0, 0), none, none, some (.iconst 0, 0, 0, 0)],
  [some (.ireturn, 1, 0, 0)]]
def mp_83 : List (List (Option mE)) := [
  [some (.iload_n 0, 0, 0, 0), some (.iconst 1, 0, 0, 1), some (.if_icmp .lt 13, 15, 0, 0), none, none, some (.iload_n 0, 0, 0, 0), some (.bipush 8, 0, 0, 8), none, some (.if_icmp .gt 7, 15, 0, 0), none, none, some (.iconst 1, 0, 0, 1), some (.goto 4, 16, 0, 0), none, none, some (.iconst 0, 0, 0, 0)],
  [some (.ireturn, 1, 0, 0)]]
def mp_84 : List (List (Option mE)) := [
  [some (.iconst 0, 0, 0, 0), some (.istore_n 1, 0, 0, 0), some (.aload_n 0, 0, 0, 0), some (.getfield 9, 8, 0, 0), none, none, some (.astore_n 2, 0, 0, 0), some (.aload_n 2, 0, 0, 0), some (.arraylength, 0, 0, 0), some (.istore_n 3, 0, 0, 0), some (.iconst 0, 0, 0, 0), some (.istore 4, 0, 0, 0), none, some (.iload 4, 0, 0, 0), none, some (.iload_n 3, 0, 0, 0)],
  [some (.if_icmp .ge 20, 36, 0, 0), none, none, some (.aload_n 2, 0, 0, 0), some (.iload 4, 0, 0, 0), none, some (.iaload, 0, 0, 0), some (.istore 5, 0, 0, 0), none, some (.iload_n 1, 0, 0, 0), some (.iload 5, 0, 0, 0), none, some (.iadd, 0, 0, 0), some (.istore_n 1, 0, 0, 0), some (.iinc 4 1, 0, 0, 0), none],
  [none, some (.goto (-20), 13, 0, 0), none, none, some (.iload_n 1, 0, 0, 0), some (.ireturn, 0, 0, 0)]]
def mp_85 : List (List (Option mE)) := [
  [some (.lload_n 0, 0, 0, 0), some (.lload_n 2, 0, 0, 0), some (.invokestatic 200, 86, 0, 0), none, none, some (.lstore 5, 0, 0, 0), none, some (.lload 5, 0, 0, 0), none, some (.lconst 0, 0, 0, 0), some (.lcmp, 0, 0, 0), some (.ifCond .gt 5, 16, 0, 0), none, none, some (.lconst 0, 0, 0, 0), some (.lreturn, 0, 0, 0)],
  [some (.iload 4, 0, 0, 0), none, some (.ifCond .eq 7, 25, 0, 0), none, none, some (.lload_n 0, 0, 0, 0), some (.goto 4, 26, 0, 0), none, none, some (.lload_n 2, 0, 0, 0), some (.lload 5, 0, 0, 0), none, some (.ldiv, 0, 0, 0), some (.lreturn, 0, 0, 0)]]
def mp_86 : List (List (Option mE)) := [
  [some (.lload_n 0, 0, 0, 0), some (.lstore 4, 0, 0, 0), none, some (.lload_n 2, 0, 0, 0), some (.lstore 6, 0, 0, 0), none, some (.iconst 0, 0, 0, 0), some (.istore 8, 0, 0, 0), none, some (.iload 8, 0, 0, 0), none, some (.bipush 100, 0, 0, 100), none, some (.if_icmp .ge 31, 44, 0, 0), none, none],
  [some (.lload 6, 0, 0, 0), none, some (.lconst 0, 0, 0, 0), some (.lcmp, 0, 0, 0), some (.ifCond .eq 24, 44, 0, 0), none, none, some (.lload 4, 0, 0, 0), none, some (.lload 6, 0, 0, 0), none, some (.lrem, 0, 0, 0), some (.lstore 9, 0, 0, 0), none, some (.lload 6, 0, 0, 0), none],
  [some (.lstore 4, 0, 0, 0), none, some (.lload 9, 0, 0, 0), none, some (.lstore 6, 0, 0, 0), none, some (.iinc 8 1, 0, 0, 0), none, none, some (.goto (-32), 9, 0, 0), none, none, some (.lload 4, 0, 0, 0), none, some (.lreturn, 0, 0, 0)]]
def mp_87 : List (List (Option mE)) := [
  [some (.iload_n 1, 0, 0, 0), some (.ifCond .lt 15, 16, 0, 0), none, none, some (.iload_n 1, 0, 0, 0), some (.aload_n 0, 0, 0, 0), some (.arraylength, 0, 0, 0), some (.if_icmp .ge 9, 16, 0, 0), none, none, some (.aload_n 0, 0, 0, 0), some (.iload_n 1, 0, 0, 0), some (.iaload, 0, 0, 0), some (.goto 4, 17, 0, 0), none, none],
  [some (.iconst 0, 0, 0, 0), some (.ireturn, 0, 0, 0)]]
def mp_88 : List (List (Option mE)) := [
  [some (.lload_n 0, 0, 0, 0), some (.lload_n 2, 0, 0, 0), some (.lcmp, 0, 0, 0), some (.ifCond .lt 14, 17, 0, 0), none, none, some (.lload_n 0, 0, 0, 0), some (.lload 4, 0, 0, 0), none, some (.lcmp, 0, 0, 0), some (.ifCond .gt 7, 17, 0, 0), none, none, some (.iconst 1, 0, 0, 1), some (.goto 4, 18, 0, 0), none],
  [none, some (.iconst 0, 0, 0, 0), some (.ireturn, 1, 0, 0)]]
def mp_89 : List (List (Option mE)) := [
  [some (.iload_n 1, 0, 0, 0), some (.i2l, 0, 0, 0), some (.lconst 0, 0, 0, 0), some (.aload_n 0, 0, 0, 0), some (.getfield 55, 9, 1, 0), none, none, some (.iconst 1, 0, 0, 1), some (.isub, 0, 0, 0), some (.i2l, 0, 0, 0), some (.invokestatic 58, 88, 0, 0), none, none, some (.ifCond .ne 7, 20, 0, 0), none, none],
  [some (.iconst 1, 0, 0, 1), some (.goto 4, 21, 0, 0), none, none, some (.iconst 0, 0, 0, 0), some (.ireturn, 1, 0, 0)]]
def mp_90 : List (List (Option mE)) := [
  [some (.lload_n 0, 0, 0, 0), some (.lstore 5, 0, 0, 0), none, some (.lload_n 2, 0, 0, 0), some (.lstore 7, 0, 0, 0), none, some (.lload 7, 0, 0, 0), none, some (.lconst 0, 0, 0, 0), some (.lcmp, 0, 0, 0), some (.ifCond .eq 21, 31, 0, 0), none, none, some (.lload 5, 0, 0, 0), none, some (.lload 7, 0, 0, 0)],
  [none, some (.lrem, 0, 0, 0), some (.lstore 9, 0, 0, 0), none, some (.lload 7, 0, 0, 0), none, some (.lstore 5, 0, 0, 0), none, some (.lload 9, 0, 0, 0), none, some (.lstore 7, 0, 0, 0), none, some (.goto (-22), 6, 0, 0), none, none, some (.iload 4, 0, 0, 0)],
  [none, some (.ifCond .eq 7, 40, 0, 0), none, none, some (.lload_n 0, 0, 0, 0), some (.goto 4, 41, 0, 0), none, none, some (.lload_n 2, 0, 0, 0), some (.lload 5, 0, 0, 0), none, some (.ldiv, 0, 0, 0), some (.lreturn, 0, 0, 0)]]
def mp_91 : List (List (Option mE)) := [
  [some (.aload_n 0, 0, 0, 0), some (.iconst 0, 0, 0, 0), some (.putfield 51, 9, 0, 0), none, none, some (.iload_n 1, 0, 0, 0), some (.i2l, 0, 0, 0), some (.lconst 1, 0, 0, 1), some (.ldc2_w 62, 0, 0, 20), none, none, some (.invokestatic 58, 88, 0, 0), none, none, some (.ifCond .ne 6, 20, 0, 0), none],
  [none, some (.bipush (-2), 0, 0, (-2)), none, some (.ireturn, 0, 0, 0), some (.aload_n 0, 0, 0, 0), some (.getfield 55, 9, 1, 0), none, none, some (.bipush 8, 0, 0, 8), none, some (.if_icmp .ne 6, 32, 0, 0), none, none, some (.bipush (-4), 0, 0, (-4)), none, some (.ireturn, 0, 0, 0)],
  [some (.aload_n 0, 0, 0, 0), some (.getfield 7, 9, 2, 0), none, none, some (.aload_n 0, 0, 0, 0), some (.getfield 55, 9, 1, 0), none, none, some (.iload_n 1, 0, 0, 0), some (.iastore, 0, 0, 0), some (.aload_n 0, 0, 0, 0), some (.dup, 0, 0, 0), some (.getfield 55, 9, 1, 0), none, none, some (.iconst 1, 0, 0, 1)],
  [some (.iadd, 0, 0, 0), some (.putfield 55, 9, 1, 0), none, none, some (.iconst 0, 0, 0, 0), some (.istore_n 2, 0, 0, 0), some (.iload_n 2, 0, 0, 0), some (.aload_n 0, 0, 0, 0), some (.getfield 55, 9, 1, 0), none, none, some (.if_icmp .ge 16, 75, 0, 0), none, none, some (.aload_n 0, 0, 0, 0), some (.getfield 19, 9, 5, 0)],
  [none, none, some (.iload_n 2, 0, 0, 0), some (.iload_n 2, 0, 0, 0), some (.iastore, 0, 0, 0), some (.iinc 2 1, 0, 0, 0), none, none, some (.goto (-18), 54, 0, 0), none, none, some (.aload_n 0, 0, 0, 0), some (.getfield 55, 9, 1, 0), none, none, some (.iconst 1, 0, 0, 1)],
  [some (.isub, 0, 0, 0), some (.ireturn, 0, 0, 0)]]
def mp_92 : List (List (Option mE)) := [
  [some (.aload_n 0, 0, 0, 0), some (.iconst 0, 0, 0, 0), some (.putfield 51, 9, 0, 0), none, none, some (.aload_n 0, 0, 0, 0), some (.iload_n 1, 0, 0, 0), some (.invokevirtual 64, 89, 0, 0), none, none, some (.ifCond .eq 5, 15, 0, 0), none, none, some (.iconst (-1), 0, 0, (-1)), some (.ireturn, 0, 0, 0), some (.iload_n 2, 0, 0, 0)],
  [some (.i2l, 0, 0, 0), some (.lconst 1, 0, 0, 1), some (.ldc2_w 62, 0, 0, 20), none, none, some (.invokestatic 58, 88, 0, 0), none, none, some (.ifCond .ne 6, 30, 0, 0), none, none, some (.bipush (-2), 0, 0, (-2)), none, some (.ireturn, 0, 0, 0), some (.aload_n 0, 0, 0, 0), some (.getfield 7, 9, 2, 0)],
  [none, none, some (.iload_n 1, 0, 0, 0), some (.iaload, 0, 0, 0), some (.istore_n 3, 0, 0, 0), some (.aload_n 0, 0, 0, 0), some (.getfield 7, 9, 2, 0), none, none, some (.iload_n 1, 0, 0, 0), some (.iload_n 2, 0, 0, 0), some (.iastore, 0, 0, 0), some (.iload_n 3, 0, 0, 0), some (.ireturn, 0, 0, 0)]]
def mp_93 : List (List (Option mE)) := [
  [some (.aload_n 0, 0, 0, 0), some (.iconst 0, 0, 0, 0), some (.putfield 51, 9, 0, 0), none, none, some (.aload_n 0, 0, 0, 0), some (.iload_n 1, 0, 0, 0), some (.invokevirtual 64, 89, 0, 0), none, none, some (.ifCond .ne 11, 21, 0, 0), none, none, some (.aload_n 0, 0, 0, 0), some (.iload_n 2, 0, 0, 0), some (.invokevirtual 64, 89, 0, 0)],
  [none, none, some (.ifCond .eq 5, 23, 0, 0), none, none, some (.iconst (-1), 0, 0, (-1)), some (.ireturn, 0, 0, 0), some (.iload_n 3, 0, 0, 0), some (.i2l, 0, 0, 0), some (.lconst 0, 0, 0, 0), some (.ldc2_w 68, 0, 0, 9), none, none, some (.invokestatic 58, 88, 0, 0), none, none],
  [some (.ifCond .ne 6, 38, 0, 0), none, none, some (.bipush (-2), 0, 0, (-2)), none, some (.ireturn, 0, 0, 0), some (.iload_n 1, 0, 0, 0), some (.iload_n 2, 0, 0, 0), some (.if_icmp .ne 6, 46, 0, 0), none, none, some (.bipush (-3), 0, 0, (-3)), none, some (.ireturn, 0, 0, 0), some (.aload_n 0, 0, 0, 0), some (.getfield 13, 9, 3, 0)],
  [none, none, some (.bipush 8, 0, 0, 8), none, some (.iload_n 1, 0, 0, 0), some (.imul, 0, 0, 0), some (.iload_n 2, 0, 0, 0), some (.iadd, 0, 0, 0), some (.iaload, 0, 0, 0), some (.istore 4, 0, 0, 0), none, some (.aload_n 0, 0, 0, 0), some (.getfield 13, 9, 3, 0), none, none, some (.bipush 8, 0, 0, 8)],
  [none, some (.iload_n 1, 0, 0, 0), some (.imul, 0, 0, 0), some (.iload_n 2, 0, 0, 0), some (.iadd, 0, 0, 0), some (.iload_n 3, 0, 0, 0), some (.iastore, 0, 0, 0), some (.iload 4, 0, 0, 0), none, some (.ireturn, 0, 0, 0)]]
def mp_94 : List (List (Option mE)) := [
  [some (.aload_n 0, 0, 0, 0), some (.iconst 0, 0, 0, 0), some (.putfield 51, 9, 0, 0), none, none, some (.aload_n 0, 0, 0, 0), some (.iload_n 1, 0, 0, 0), some (.invokevirtual 64, 89, 0, 0), none, none, some (.ifCond .ne 11, 21, 0, 0), none, none, some (.aload_n 0, 0, 0, 0), some (.iload_n 2, 0, 0, 0), some (.invokevirtual 64, 89, 0, 0)],
  [none, none, some (.ifCond .eq 7, 25, 0, 0), none, none, some (.iconst (-1), 0, 0, (-1)), some (.goto 14, 36, 0, 0), none, none, some (.aload_n 0, 0, 0, 0), some (.getfield 13, 9, 3, 0), none, none, some (.bipush 8, 0, 0, 8), none, some (.iload_n 1, 0, 0, 0)],
  [some (.imul, 0, 0, 0), some (.iload_n 2, 0, 0, 0), some (.iadd, 0, 0, 0), some (.iaload, 0, 0, 0), some (.ireturn, 0, 0, 0)]]
def mp_95 : List (List (Option mE)) := [
  [some (.iconst 0, 0, 0, 0), some (.istore_n 1, 0, 0, 0), some (.iload_n 1, 0, 0, 0), some (.bipush 64, 0, 0, 64), none, some (.if_icmp .ge 29, 34, 0, 0), none, none, some (.aload_n 0, 0, 0, 0), some (.getfield 25, 9, 7, 0), none, none, some (.iload_n 1, 0, 0, 0), some (.aload_n 0, 0, 0, 0), some (.getfield 13, 9, 3, 0), none],
  [none, some (.iload_n 1, 0, 0, 0), some (.iaload, 0, 0, 0), some (.ifCond .le 7, 26, 0, 0), none, none, some (.iconst 1, 0, 0, 1), some (.goto 4, 27, 0, 0), none, none, some (.iconst 0, 0, 0, 0), some (.bastore, 0, 0, 0), some (.iinc 1 1, 0, 0, 0), none, none, some (.goto (-29), 2, 0, 0)],
  [none, none, some (.iconst 0, 0, 0, 0), some (.istore_n 1, 0, 0, 0), some (.iload_n 1, 0, 0, 0), some (.bipush 8, 0, 0, 8), none, some (.if_icmp .ge 95, 134, 0, 0), none, none, some (.iconst 0, 0, 0, 0), some (.istore_n 2, 0, 0, 0), some (.iload_n 2, 0, 0, 0), some (.bipush 8, 0, 0, 8), none, some (.if_icmp .ge 81, 128, 0, 0)],
  [none, none, some (.iconst 0, 0, 0, 0), some (.istore_n 3, 0, 0, 0), some (.iload_n 3, 0, 0, 0), some (.bipush 8, 0, 0, 8), none, some (.if_icmp .ge 67, 122, 0, 0), none, none, some (.aload_n 0, 0, 0, 0), some (.getfield 25, 9, 7, 0), none, none, some (.bipush 8, 0, 0, 8), none],
  [some (.iload_n 2, 0, 0, 0), some (.imul, 0, 0, 0), some (.iload_n 3, 0, 0, 0), some (.iadd, 0, 0, 0), some (.aload_n 0, 0, 0, 0), some (.getfield 25, 9, 7, 0), none, none, some (.bipush 8, 0, 0, 8), none, some (.iload_n 2, 0, 0, 0), some (.imul, 0, 0, 0), some (.iload_n 3, 0, 0, 0), some (.iadd, 0, 0, 0), some (.baload, 0, 0, 0), some (.ifCond .ne 31, 110, 0, 0)],
  [none, none, some (.aload_n 0, 0, 0, 0), some (.getfield 25, 9, 7, 0), none, none, some (.bipush 8, 0, 0, 8), none, some (.iload_n 2, 0, 0, 0), some (.imul, 0, 0, 0), some (.iload_n 1, 0, 0, 0), some (.iadd, 0, 0, 0), some (.baload, 0, 0, 0), some (.ifCond .eq 21, 114, 0, 0), none, none],
  [some (.aload_n 0, 0, 0, 0), some (.getfield 25, 9, 7, 0), none, none, some (.bipush 8, 0, 0, 8), none, some (.iload_n 1, 0, 0, 0), some (.imul, 0, 0, 0), some (.iload_n 3, 0, 0, 0), some (.iadd, 0, 0, 0), some (.baload, 0, 0, 0), some (.ifCond .eq 7, 114, 0, 0), none, none, some (.iconst 1, 0, 0, 1), some (.goto 4, 115, 0, 0)],
  [none, none, some (.iconst 0, 0, 0, 0), some (.bastore, 0, 0, 0), some (.iinc 3 1, 0, 0, 0), none, none, some (.goto (-67), 52, 0, 0), none, none, some (.iinc 2 1, 0, 0, 0), none, none, some (.goto (-81), 44, 0, 0), none, none],
  [some (.iinc 1 1, 0, 0, 0), none, none, some (.goto (-95), 36, 0, 0), none, none, some (.return_, 0, 0, 0)]]
def mp_96 : List (List (Option mE)) := [
  [some (.aload_n 0, 0, 0, 0), some (.iconst 0, 0, 0, 0), some (.putfield 51, 9, 0, 0), none, none, some (.aload_n 0, 0, 0, 0), some (.iload_n 1, 0, 0, 0), some (.invokevirtual 64, 89, 0, 0), none, none, some (.ifCond .ne 11, 21, 0, 0), none, none, some (.aload_n 0, 0, 0, 0), some (.iload_n 2, 0, 0, 0), some (.invokevirtual 64, 89, 0, 0)],
  [none, none, some (.ifCond .eq 5, 23, 0, 0), none, none, some (.iconst (-1), 0, 0, (-1)), some (.ireturn, 0, 0, 0), some (.aload_n 0, 0, 0, 0), some (.invokevirtual 70, 95, 0, 0), none, none, some (.aload_n 0, 0, 0, 0), some (.getfield 25, 9, 7, 0), none, none, some (.bipush 8, 0, 0, 8)],
  [none, some (.iload_n 1, 0, 0, 0), some (.imul, 0, 0, 0), some (.iload_n 2, 0, 0, 0), some (.iadd, 0, 0, 0), some (.baload, 0, 0, 0), some (.ifCond .eq 7, 45, 0, 0), none, none, some (.iconst 1, 0, 0, 1), some (.goto 4, 46, 0, 0), none, none, some (.iconst 0, 0, 0, 0), some (.ireturn, 0, 0, 0)]]
def mp_97 : List (List (Option mE)) := [
  [some (.iload_n 1, 0, 0, 0), some (.iload_n 2, 0, 0, 0), some (.if_icmp .eq 31, 33, 0, 0), none, none, some (.aload_n 0, 0, 0, 0), some (.getfield 25, 9, 7, 0), none, none, some (.bipush 8, 0, 0, 8), none, some (.iload_n 1, 0, 0, 0), some (.imul, 0, 0, 0), some (.iload_n 2, 0, 0, 0), some (.iadd, 0, 0, 0), some (.baload, 0, 0, 0)],
  [some (.ifCond .eq 21, 37, 0, 0), none, none, some (.aload_n 0, 0, 0, 0), some (.getfield 25, 9, 7, 0), none, none, some (.bipush 8, 0, 0, 8), none, some (.iload_n 2, 0, 0, 0), some (.imul, 0, 0, 0), some (.iload_n 1, 0, 0, 0), some (.iadd, 0, 0, 0), some (.baload, 0, 0, 0), some (.ifCond .eq 7, 37, 0, 0), none],
  [none, some (.iconst 1, 0, 0, 1), some (.goto 4, 38, 0, 0), none, none, some (.iconst 0, 0, 0, 0), some (.ireturn, 1, 0, 0)]]
def mp_98 : List (List (Option mE)) := [
  [some (.iconst 1, 0, 0, 1), some (.istore_n 2, 0, 0, 0), some (.iconst 0, 0, 0, 0), some (.istore_n 3, 0, 0, 0), some (.iload_n 3, 0, 0, 0), some (.aload_n 0, 0, 0, 0), some (.getfield 55, 9, 1, 0), none, none, some (.if_icmp .ge 83, 92, 0, 0), none, none, some (.iconst 0, 0, 0, 0), some (.istore 4, 0, 0, 0), none, some (.iload 4, 0, 0, 0)],
  [none, some (.aload_n 0, 0, 0, 0), some (.getfield 55, 9, 1, 0), none, none, some (.if_icmp .ge 65, 86, 0, 0), none, none, some (.iload_n 2, 0, 0, 0), some (.ifCond .eq 53, 78, 0, 0), none, none, some (.aload_n 0, 0, 0, 0), some (.iload_n 1, 0, 0, 0), some (.iload_n 3, 0, 0, 0), some (.invokevirtual 73, 97, 0, 0)],
  [none, none, some (.ifCond .eq 40, 74, 0, 0), none, none, some (.aload_n 0, 0, 0, 0), some (.iload_n 1, 0, 0, 0), some (.iload 4, 0, 0, 0), none, some (.invokevirtual 73, 97, 0, 0), none, none, some (.ifCond .ne 30, 74, 0, 0), none, none, some (.aload_n 0, 0, 0, 0)],
  [some (.getfield 29, 9, 8, 0), none, none, some (.iload 4, 0, 0, 0), none, some (.iaload, 0, 0, 0), some (.bipush (-9), 0, 0, (-9)), none, some (.if_icmp .ne 18, 74, 0, 0), none, none, some (.aload_n 0, 0, 0, 0), some (.getfield 13, 9, 3, 0), none, none, some (.bipush 8, 0, 0, 8)],
  [none, some (.iload_n 3, 0, 0, 0), some (.imul, 0, 0, 0), some (.iload 4, 0, 0, 0), none, some (.iadd, 0, 0, 0), some (.iaload, 0, 0, 0), some (.ifCond .gt 7, 78, 0, 0), none, none, some (.iconst 1, 0, 0, 1), some (.goto 4, 79, 0, 0), none, none, some (.iconst 0, 0, 0, 0), some (.istore_n 2, 0, 0, 0)],
  [some (.iinc 4 1, 0, 0, 0), none, none, some (.goto (-68), 15, 0, 0), none, none, some (.iinc 3 1, 0, 0, 0), none, none, some (.goto (-85), 4, 0, 0), none, none, some (.iload_n 2, 0, 0, 0), some (.ireturn, 1, 0, 0)]]
def mp_99 : List (List (Option mE)) := [
  [some (.aload_n 0, 0, 0, 0), some (.invokevirtual 70, 95, 0, 0), none, none, some (.iconst 0, 0, 0, 0), some (.istore_n 1, 0, 0, 0), some (.iload_n 1, 0, 0, 0), some (.bipush 8, 0, 0, 8), none, some (.if_icmp .ge 17, 26, 0, 0), none, none, some (.aload_n 0, 0, 0, 0), some (.getfield 29, 9, 8, 0), none, none],
  [some (.iload_n 1, 0, 0, 0), some (.bipush (-9), 0, 0, (-9)), none, some (.iastore, 0, 0, 0), some (.iinc 1 1, 0, 0, 0), none, none, some (.goto (-17), 6, 0, 0), none, none, some (.iconst 0, 0, 0, 0), some (.istore_n 1, 0, 0, 0), some (.iconst 0, 0, 0, 0), some (.istore_n 2, 0, 0, 0), some (.iload_n 2, 0, 0, 0), some (.aload_n 0, 0, 0, 0)],
  [some (.getfield 55, 9, 1, 0), none, none, some (.if_icmp .ge 114, 149, 0, 0), none, none, some (.bipush (-9), 0, 0, (-9)), none, some (.istore_n 3, 0, 0, 0), some (.aload_n 0, 0, 0, 0), some (.getfield 55, 9, 1, 0), none, none, some (.iconst 1, 0, 0, 1), some (.isub, 0, 0, 0), some (.istore 4, 0, 0, 0)],
  [none, some (.iload 4, 0, 0, 0), none, some (.ifCond .lt 37, 88, 0, 0), none, none, some (.aload_n 0, 0, 0, 0), some (.getfield 29, 9, 8, 0), none, none, some (.iload 4, 0, 0, 0), none, some (.iaload, 0, 0, 0), some (.bipush (-9), 0, 0, (-9)), none, some (.if_icmp .ne 17, 80, 0, 0)],
  [none, none, some (.aload_n 0, 0, 0, 0), some (.iload 4, 0, 0, 0), none, some (.invokevirtual 77, 98, 0, 0), none, none, some (.ifCond .eq 8, 80, 0, 0), none, none, some (.iload 4, 0, 0, 0), none, some (.goto 4, 81, 0, 0), none, none],
  [some (.iload_n 3, 0, 0, 0), some (.istore_n 3, 0, 0, 0), some (.iinc 4 (-1), 0, 0, 0), none, none, some (.goto (-36), 49, 0, 0), none, none, some (.iload_n 3, 0, 0, 0), some (.bipush (-9), 0, 0, (-9)), none, some (.if_icmp .eq 52, 143, 0, 0), none, none, some (.iconst 0, 0, 0, 0), some (.istore 4, 0, 0, 0)],
  [none, some (.iload 4, 0, 0, 0), none, some (.aload_n 0, 0, 0, 0), some (.getfield 55, 9, 1, 0), none, none, some (.if_icmp .ge 37, 140, 0, 0), none, none, some (.aload_n 0, 0, 0, 0), some (.getfield 29, 9, 8, 0), none, none, some (.iload 4, 0, 0, 0), none],
  [some (.aload_n 0, 0, 0, 0), some (.iload_n 3, 0, 0, 0), some (.iload 4, 0, 0, 0), none, some (.invokevirtual 73, 97, 0, 0), none, none, some (.ifCond .eq 7, 126, 0, 0), none, none, some (.iload_n 1, 0, 0, 0), some (.goto 10, 133, 0, 0), none, none, some (.aload_n 0, 0, 0, 0), some (.getfield 29, 9, 8, 0)],
  [none, none, some (.iload 4, 0, 0, 0), none, some (.iaload, 0, 0, 0), some (.iastore, 0, 0, 0), some (.iinc 4 1, 0, 0, 0), none, none, some (.goto (-40), 97, 0, 0), none, none, some (.iinc 1 1, 0, 0, 0), none, none, some (.iinc 2 1, 0, 0, 0)],
  [none, none, some (.goto (-116), 30, 0, 0), none, none, some (.iload_n 1, 0, 0, 0), some (.ireturn, 0, 0, 0)]]
def mp_100 : List (List (Option mE)) := [
  [some (.aload_n 0, 0, 0, 0), some (.iconst 0, 0, 0, 0), some (.putfield 51, 9, 0, 0), none, none, some (.aload_n 0, 0, 0, 0), some (.invokevirtual 80, 99, 0, 0), none, none, some (.ireturn, 0, 0, 0)]]
def mp_101 : List (List (Option mE)) := [
  [some (.aload_n 0, 0, 0, 0), some (.iconst 0, 0, 0, 0), some (.putfield 51, 9, 0, 0), none, none, some (.aload_n 0, 0, 0, 0), some (.iload_n 1, 0, 0, 0), some (.invokevirtual 64, 89, 0, 0), none, none, some (.ifCond .eq 5, 15, 0, 0), none, none, some (.iconst (-1), 0, 0, (-1)), some (.ireturn, 0, 0, 0), some (.aload_n 0, 0, 0, 0)],
  [some (.invokevirtual 80, 99, 0, 0), none, none, some (.pop, 0, 0, 0), some (.aload_n 0, 0, 0, 0), some (.getfield 29, 9, 8, 0), none, none, some (.iload_n 1, 0, 0, 0), some (.iaload, 0, 0, 0), some (.ireturn, 0, 0, 0)]]
def mp_102 : List (List (Option mE)) := [
  [some (.iconst 0, 0, 0, 0), some (.istore_n 3, 0, 0, 0), some (.iconst 0, 0, 0, 0), some (.istore 4, 0, 0, 0), none, some (.iload 4, 0, 0, 0), none, some (.aload_n 0, 0, 0, 0), some (.getfield 55, 9, 1, 0), none, none, some (.if_icmp .ge 43, 54, 0, 0), none, none, some (.iload_n 3, 0, 0, 0), some (.iload_n 2, 0, 0, 0)],
  [some (.iload 4, 0, 0, 0), none, some (.ishr, 0, 0, 0), some (.iconst 1, 0, 0, 1), some (.iand, 0, 0, 0), some (.ifCond .ne 24, 45, 0, 0), none, none, some (.iload 4, 0, 0, 0), none, some (.iload_n 1, 0, 0, 0), some (.if_icmp .eq 18, 45, 0, 0), none, none, some (.aload_n 0, 0, 0, 0), some (.getfield 13, 9, 3, 0)],
  [none, none, some (.bipush 8, 0, 0, 8), none, some (.iload_n 1, 0, 0, 0), some (.imul, 0, 0, 0), some (.iload 4, 0, 0, 0), none, some (.iadd, 0, 0, 0), some (.iaload, 0, 0, 0), some (.goto 4, 46, 0, 0), none, none, some (.iconst 0, 0, 0, 0), some (.iadd, 0, 0, 0), some (.istore_n 3, 0, 0, 0)],
  [some (.iinc 4 1, 0, 0, 0), none, none, some (.goto (-46), 5, 0, 0), none, none, some (.iload_n 3, 0, 0, 0), some (.ireturn, 0, 0, 0)]]
def mp_103 : List (List (Option mE)) := [
  [some (.iconst 1, 0, 0, 1), some (.aload_n 0, 0, 0, 0), some (.getfield 55, 9, 1, 0), none, none, some (.ishl, 0, 0, 0), some (.iconst 1, 0, 0, 1), some (.isub, 0, 0, 0), some (.istore_n 1, 0, 0, 0), some (.iload_n 1, 0, 0, 0), some (.istore_n 2, 0, 0, 0), some (.iload_n 2, 0, 0, 0), some (.ifCond .lt 108, 120, 0, 0), none, none, some (.aload_n 0, 0, 0, 0)],
  [some (.getfield 22, 9, 6, 0), none, none, some (.iload_n 2, 0, 0, 0), some (.iload_n 2, 0, 0, 0), some (.iload_n 1, 0, 0, 0), some (.if_icmp .ne 7, 29, 0, 0), none, none, some (.iconst 0, 0, 0, 0), some (.goto 5, 31, 0, 0), none, none, some (.bipush (-9), 0, 0, (-9)), none, some (.iastore, 0, 0, 0)],
  [some (.iconst 0, 0, 0, 0), some (.istore_n 3, 0, 0, 0), some (.iload_n 3, 0, 0, 0), some (.aload_n 0, 0, 0, 0), some (.getfield 55, 9, 1, 0), none, none, some (.if_icmp .ge 75, 114, 0, 0), none, none, some (.iload_n 2, 0, 0, 0), some (.iload_n 3, 0, 0, 0), some (.ishr, 0, 0, 0), some (.iconst 1, 0, 0, 1), some (.iand, 0, 0, 0), some (.ifCond .ne 61, 108, 0, 0)],
  [none, none, some (.aload_n 0, 0, 0, 0), some (.iload_n 3, 0, 0, 0), some (.iload_n 2, 0, 0, 0), some (.invokevirtual 84, 102, 0, 0), none, none, some (.aload_n 0, 0, 0, 0), some (.getfield 22, 9, 6, 0), none, none, some (.iload_n 2, 0, 0, 0), some (.iconst 1, 0, 0, 1), some (.iload_n 3, 0, 0, 0), some (.ishl, 0, 0, 0)],
  [some (.ior, 0, 0, 0), some (.iaload, 0, 0, 0), some (.iadd, 0, 0, 0), some (.istore 4, 0, 0, 0), none, some (.aload_n 0, 0, 0, 0), some (.getfield 22, 9, 6, 0), none, none, some (.iload_n 2, 0, 0, 0), some (.aload_n 0, 0, 0, 0), some (.getfield 22, 9, 6, 0), none, none, some (.iload_n 2, 0, 0, 0), some (.iaload, 0, 0, 0)],
  [some (.bipush (-9), 0, 0, (-9)), none, some (.if_icmp .eq 14, 96, 0, 0), none, none, some (.iload 4, 0, 0, 0), none, some (.aload_n 0, 0, 0, 0), some (.getfield 22, 9, 6, 0), none, none, some (.iload_n 2, 0, 0, 0), some (.iaload, 0, 0, 0), some (.if_icmp .ge 8, 101, 0, 0), none, none],
  [some (.iload 4, 0, 0, 0), none, some (.goto 9, 107, 0, 0), none, none, some (.aload_n 0, 0, 0, 0), some (.getfield 22, 9, 6, 0), none, none, some (.iload_n 2, 0, 0, 0), some (.iaload, 0, 0, 0), some (.iastore, 0, 0, 0), some (.iinc 3 1, 0, 0, 0), none, none, some (.goto (-77), 34, 0, 0)],
  [none, none, some (.iinc 2 (-1), 0, 0, 0), none, none, some (.goto (-106), 11, 0, 0), none, none, some (.aload_n 0, 0, 0, 0), some (.getfield 22, 9, 6, 0), none, none, some (.iconst 0, 0, 0, 0), some (.iaload, 0, 0, 0), some (.ireturn, 0, 0, 0)]]
def mp_104 : List (List (Option mE)) := [
  [some (.aload_n 0, 0, 0, 0), some (.invokevirtual 88, 103, 0, 0), none, none, some (.pop, 0, 0, 0), some (.iconst 0, 0, 0, 0), some (.istore_n 1, 0, 0, 0), some (.iconst 0, 0, 0, 0), some (.istore_n 2, 0, 0, 0), some (.iload_n 2, 0, 0, 0), some (.aload_n 0, 0, 0, 0), some (.getfield 55, 9, 1, 0), none, none, some (.if_icmp .ge 88, 102, 0, 0), none],
  [none, some (.bipush (-9), 0, 0, (-9)), none, some (.istore_n 3, 0, 0, 0), some (.aload_n 0, 0, 0, 0), some (.getfield 55, 9, 1, 0), none, none, some (.iconst 1, 0, 0, 1), some (.isub, 0, 0, 0), some (.istore 4, 0, 0, 0), none, some (.iload 4, 0, 0, 0), none, some (.ifCond .lt 53, 83, 0, 0), none],
  [none, some (.iload_n 1, 0, 0, 0), some (.iload 4, 0, 0, 0), none, some (.ishr, 0, 0, 0), some (.iconst 1, 0, 0, 1), some (.iand, 0, 0, 0), some (.ifCond .ne 36, 75, 0, 0), none, none, some (.aload_n 0, 0, 0, 0), some (.iload 4, 0, 0, 0), none, some (.iload_n 1, 0, 0, 0), some (.invokevirtual 84, 102, 0, 0), none],
  [none, some (.aload_n 0, 0, 0, 0), some (.getfield 22, 9, 6, 0), none, none, some (.iload_n 1, 0, 0, 0), some (.iconst 1, 0, 0, 1), some (.iload 4, 0, 0, 0), none, some (.ishl, 0, 0, 0), some (.ior, 0, 0, 0), some (.iaload, 0, 0, 0), some (.iadd, 0, 0, 0), some (.aload_n 0, 0, 0, 0), some (.getfield 22, 9, 6, 0), none],
  [none, some (.iload_n 1, 0, 0, 0), some (.iaload, 0, 0, 0), some (.if_icmp .ne 8, 75, 0, 0), none, none, some (.iload 4, 0, 0, 0), none, some (.goto 4, 76, 0, 0), none, none, some (.iload_n 3, 0, 0, 0), some (.istore_n 3, 0, 0, 0), some (.iinc 4 (-1), 0, 0, 0), none, none],
  [some (.goto (-52), 28, 0, 0), none, none, some (.aload_n 0, 0, 0, 0), some (.getfield 42, 9, 12, 0), none, none, some (.iload_n 2, 0, 0, 0), some (.iload_n 3, 0, 0, 0), some (.iastore, 0, 0, 0), some (.iload_n 1, 0, 0, 0), some (.iconst 1, 0, 0, 1), some (.iload_n 3, 0, 0, 0), some (.ishl, 0, 0, 0), some (.ior, 0, 0, 0), some (.istore_n 1, 0, 0, 0)],
  [some (.iinc 2 1, 0, 0, 0), none, none, some (.goto (-90), 9, 0, 0), none, none, some (.return_, 0, 0, 0)]]
def mp_105 : List (List (Option mE)) := [
  [some (.aload_n 0, 0, 0, 0), some (.iconst 0, 0, 0, 0), some (.putfield 51, 9, 0, 0), none, none, some (.aload_n 0, 0, 0, 0), some (.invokevirtual 88, 103, 0, 0), none, none, some (.ireturn, 0, 0, 0)]]
def mp_106 : List (List (Option mE)) := [
  [some (.aload_n 0, 0, 0, 0), some (.iconst 0, 0, 0, 0), some (.putfield 51, 9, 0, 0), none, none, some (.iload_n 1, 0, 0, 0), some (.i2l, 0, 0, 0), some (.lconst 0, 0, 0, 0), some (.aload_n 0, 0, 0, 0), some (.getfield 55, 9, 1, 0), none, none, some (.iconst 1, 0, 0, 1), some (.isub, 0, 0, 0), some (.i2l, 0, 0, 0), some (.invokestatic 58, 88, 0, 0)],
  [none, none, some (.ifCond .ne 6, 24, 0, 0), none, none, some (.bipush (-9), 0, 0, (-9)), none, some (.ireturn, 0, 0, 0), some (.aload_n 0, 0, 0, 0), some (.invokevirtual 91, 104, 0, 0), none, none, some (.aload_n 0, 0, 0, 0), some (.getfield 42, 9, 12, 0), none, none],
  [some (.iload_n 1, 0, 0, 0), some (.iaload, 0, 0, 0), some (.ireturn, 0, 0, 0)]]
def mp_107 : List (List (Option mE)) := [
  [some (.aload_n 0, 0, 0, 0), some (.iconst 0, 0, 0, 0), some (.putfield 51, 9, 0, 0), none, none, some (.aload_n 0, 0, 0, 0), some (.iload_n 1, 0, 0, 0), some (.invokevirtual 64, 89, 0, 0), none, none, some (.ifCond .ne 11, 21, 0, 0), none, none, some (.aload_n 0, 0, 0, 0), some (.iload_n 2, 0, 0, 0), some (.invokevirtual 64, 89, 0, 0)],
  [none, none, some (.ifCond .eq 5, 23, 0, 0), none, none, some (.iconst (-1), 0, 0, (-1)), some (.ireturn, 0, 0, 0), some (.aload_n 0, 0, 0, 0), some (.invokevirtual 88, 103, 0, 0), none, none, some (.istore_n 3, 0, 0, 0), some (.aload_n 0, 0, 0, 0), some (.getfield 13, 9, 3, 0), none, none],
  [some (.bipush 8, 0, 0, 8), none, some (.iload_n 1, 0, 0, 0), some (.imul, 0, 0, 0), some (.iload_n 2, 0, 0, 0), some (.iadd, 0, 0, 0), some (.iaload, 0, 0, 0), some (.istore 4, 0, 0, 0), none, some (.aload_n 0, 0, 0, 0), some (.getfield 13, 9, 3, 0), none, none, some (.bipush 8, 0, 0, 8), none, some (.iload_n 1, 0, 0, 0)],
  [some (.imul, 0, 0, 0), some (.iload_n 2, 0, 0, 0), some (.iadd, 0, 0, 0), some (.iconst 0, 0, 0, 0), some (.iastore, 0, 0, 0), some (.aload_n 0, 0, 0, 0), some (.invokevirtual 88, 103, 0, 0), none, none, some (.istore 5, 0, 0, 0), none, some (.aload_n 0, 0, 0, 0), some (.getfield 13, 9, 3, 0), none, none, some (.bipush 8, 0, 0, 8)],
  [none, some (.iload_n 1, 0, 0, 0), some (.imul, 0, 0, 0), some (.iload_n 2, 0, 0, 0), some (.iadd, 0, 0, 0), some (.iload 4, 0, 0, 0), none, some (.iastore, 0, 0, 0), some (.iload_n 3, 0, 0, 0), some (.iload 5, 0, 0, 0), none, some (.isub, 0, 0, 0), some (.ireturn, 0, 0, 0)]]
def mp_108 : List (List (Option mE)) := [
  [some (.aload_n 0, 0, 0, 0), some (.iconst 0, 0, 0, 0), some (.putfield 51, 9, 0, 0), none, none, some (.iload_n 1, 0, 0, 0), some (.i2l, 0, 0, 0), some (.lconst 0, 0, 0, 0), some (.aload_n 0, 0, 0, 0), some (.getfield 55, 9, 1, 0), none, none, some (.iconst 1, 0, 0, 1), some (.isub, 0, 0, 0), some (.i2l, 0, 0, 0), some (.invokestatic 58, 88, 0, 0)],
  [none, none, some (.ifCond .eq 12, 30, 0, 0), none, none, some (.aload_n 0, 0, 0, 0), some (.getfield 19, 9, 5, 0), none, none, some (.iload_n 1, 0, 0, 0), some (.iaload, 0, 0, 0), some (.goto 5, 32, 0, 0), none, none, some (.bipush (-9), 0, 0, (-9)), none],
  [some (.ireturn, 0, 0, 0)]]
def mp_109 : List (List (Option mE)) := [
  [some (.iconst 0, 0, 0, 0), some (.istore_n 1, 0, 0, 0), some (.iconst 0, 0, 0, 0), some (.istore_n 2, 0, 0, 0), some (.iconst 0, 0, 0, 0), some (.istore_n 3, 0, 0, 0), some (.iload_n 3, 0, 0, 0), some (.aload_n 0, 0, 0, 0), some (.getfield 55, 9, 1, 0), none, none, some (.if_icmp .ge 34, 45, 0, 0), none, none, some (.iload_n 1, 0, 0, 0), some (.aload_n 0, 0, 0, 0)],
  [some (.aload_n 0, 0, 0, 0), some (.getfield 19, 9, 5, 0), none, none, some (.iload_n 3, 0, 0, 0), some (.iaload, 0, 0, 0), some (.iload_n 2, 0, 0, 0), some (.invokevirtual 84, 102, 0, 0), none, none, some (.iadd, 0, 0, 0), some (.istore_n 1, 0, 0, 0), some (.iload_n 2, 0, 0, 0), some (.iconst 1, 0, 0, 1), some (.aload_n 0, 0, 0, 0), some (.getfield 19, 9, 5, 0)],
  [none, none, some (.iload_n 3, 0, 0, 0), some (.iaload, 0, 0, 0), some (.ishl, 0, 0, 0), some (.ior, 0, 0, 0), some (.istore_n 2, 0, 0, 0), some (.iinc 3 1, 0, 0, 0), none, none, some (.goto (-36), 6, 0, 0), none, none, some (.iload_n 1, 0, 0, 0), some (.ireturn, 0, 0, 0)]]
def mp_110 : List (List (Option mE)) := [
  [some (.aload_n 0, 0, 0, 0), some (.iconst 0, 0, 0, 0), some (.putfield 51, 9, 0, 0), none, none, some (.iload_n 1, 0, 0, 0), some (.i2l, 0, 0, 0), some (.lconst 0, 0, 0, 0), some (.aload_n 0, 0, 0, 0), some (.getfield 55, 9, 1, 0), none, none, some (.iconst 1, 0, 0, 1), some (.isub, 0, 0, 0), some (.i2l, 0, 0, 0), some (.invokestatic 58, 88, 0, 0)],
  [none, none, some (.ifCond .eq 19, 37, 0, 0), none, none, some (.iload_n 2, 0, 0, 0), some (.i2l, 0, 0, 0), some (.lconst 0, 0, 0, 0), some (.aload_n 0, 0, 0, 0), some (.getfield 55, 9, 1, 0), none, none, some (.iconst 1, 0, 0, 1), some (.isub, 0, 0, 0), some (.i2l, 0, 0, 0), some (.invokestatic 58, 88, 0, 0)],
  [none, none, some (.ifCond .ne 6, 40, 0, 0), none, none, some (.bipush (-2), 0, 0, (-2)), none, some (.ireturn, 0, 0, 0), some (.aload_n 0, 0, 0, 0), some (.getfield 19, 9, 5, 0), none, none, some (.iload_n 1, 0, 0, 0), some (.iaload, 0, 0, 0), some (.istore_n 3, 0, 0, 0), some (.aload_n 0, 0, 0, 0)],
  [some (.getfield 19, 9, 5, 0), none, none, some (.iload_n 1, 0, 0, 0), some (.aload_n 0, 0, 0, 0), some (.getfield 19, 9, 5, 0), none, none, some (.iload_n 2, 0, 0, 0), some (.iaload, 0, 0, 0), some (.iastore, 0, 0, 0), some (.aload_n 0, 0, 0, 0), some (.getfield 19, 9, 5, 0), none, none, some (.iload_n 2, 0, 0, 0)],
  [some (.iload_n 3, 0, 0, 0), some (.iastore, 0, 0, 0), some (.aload_n 0, 0, 0, 0), some (.invokevirtual 94, 109, 0, 0), none, none, some (.ireturn, 0, 0, 0)]]
def mp_111 : List (List (Option mE)) := [
  [some (.aload_n 0, 0, 0, 0), some (.iconst 0, 0, 0, 0), some (.putfield 51, 9, 0, 0), none, none, some (.aload_n 0, 0, 0, 0), some (.invokevirtual 91, 104, 0, 0), none, none, some (.iconst 0, 0, 0, 0), some (.istore_n 1, 0, 0, 0), some (.iload_n 1, 0, 0, 0), some (.aload_n 0, 0, 0, 0), some (.getfield 55, 9, 1, 0), none, none],
  [some (.if_icmp .ge 21, 37, 0, 0), none, none, some (.aload_n 0, 0, 0, 0), some (.getfield 19, 9, 5, 0), none, none, some (.iload_n 1, 0, 0, 0), some (.aload_n 0, 0, 0, 0), some (.getfield 42, 9, 12, 0), none, none, some (.iload_n 1, 0, 0, 0), some (.iaload, 0, 0, 0), some (.iastore, 0, 0, 0), some (.iinc 1 1, 0, 0, 0)],
  [none, none, some (.goto (-23), 11, 0, 0), none, none, some (.aload_n 0, 0, 0, 0), some (.invokevirtual 94, 109, 0, 0), none, none, some (.ireturn, 0, 0, 0)]]
def mp_112 : List (List (Option mE)) := [
  [some (.aload_n 0, 0, 0, 0), some (.iconst 0, 0, 0, 0), some (.putfield 51, 9, 0, 0), none, none, some (.aload_n 0, 0, 0, 0), some (.invokevirtual 94, 109, 0, 0), none, none, some (.ireturn, 0, 0, 0)]]
def mp_113 : List (List (Option mE)) := [
  [some (.iconst 0, 0, 0, 0), some (.istore_n 2, 0, 0, 0), some (.iconst 0, 0, 0, 0), some (.istore_n 3, 0, 0, 0), some (.iload_n 3, 0, 0, 0), some (.aload_n 0, 0, 0, 0), some (.getfield 55, 9, 1, 0), none, none, some (.if_icmp .ge 25, 34, 0, 0), none, none, some (.aload_n 0, 0, 0, 0), some (.getfield 19, 9, 5, 0), none, none],
  [some (.iload_n 3, 0, 0, 0), some (.iaload, 0, 0, 0), some (.iload_n 1, 0, 0, 0), some (.if_icmp .ne 7, 26, 0, 0), none, none, some (.iload_n 3, 0, 0, 0), some (.goto 4, 27, 0, 0), none, none, some (.iload_n 2, 0, 0, 0), some (.istore_n 2, 0, 0, 0), some (.iinc 3 1, 0, 0, 0), none, none, some (.goto (-27), 4, 0, 0)],
  [none, none, some (.iload_n 2, 0, 0, 0), some (.ireturn, 0, 0, 0)]]
def mp_114 : List (List (Option mE)) := [
  [some (.aload_n 0, 0, 0, 0), some (.iconst 0, 0, 0, 0), some (.putfield 51, 9, 0, 0), none, none, some (.aload_n 0, 0, 0, 0), some (.iload_n 1, 0, 0, 0), some (.invokevirtual 64, 89, 0, 0), none, none, some (.ifCond .ne 11, 21, 0, 0), none, none, some (.aload_n 0, 0, 0, 0), some (.iload_n 2, 0, 0, 0), some (.invokevirtual 64, 89, 0, 0)],
  [none, none, some (.ifCond .eq 7, 25, 0, 0), none, none, some (.iconst (-1), 0, 0, (-1)), some (.goto 35, 57, 0, 0), none, none, some (.aload_n 0, 0, 0, 0), some (.getfield 13, 9, 3, 0), none, none, some (.bipush 8, 0, 0, 8), none, some (.iload_n 1, 0, 0, 0)],
  [some (.imul, 0, 0, 0), some (.iload_n 2, 0, 0, 0), some (.iadd, 0, 0, 0), some (.iaload, 0, 0, 0), some (.ifCond .le 20, 56, 0, 0), none, none, some (.aload_n 0, 0, 0, 0), some (.iload_n 2, 0, 0, 0), some (.invokevirtual 97, 113, 0, 0), none, none, some (.aload_n 0, 0, 0, 0), some (.iload_n 1, 0, 0, 0), some (.invokevirtual 97, 113, 0, 0), none],
  [none, some (.if_icmp .le 7, 56, 0, 0), none, none, some (.iconst 1, 0, 0, 1), some (.goto 4, 57, 0, 0), none, none, some (.iconst 0, 0, 0, 0), some (.ireturn, 0, 0, 0)]]
def mp_115 : List (List (Option mE)) := [
  [some (.aload_n 0, 0, 0, 0), some (.iconst 0, 0, 0, 0), some (.putfield 51, 9, 0, 0), none, none, some (.aload_n 0, 0, 0, 0), some (.iload_n 1, 0, 0, 0), some (.invokevirtual 64, 89, 0, 0), none, none, some (.ifCond .ne 11, 21, 0, 0), none, none, some (.aload_n 0, 0, 0, 0), some (.iload_n 2, 0, 0, 0), some (.invokevirtual 64, 89, 0, 0)],
  [none, none, some (.ifCond .eq 5, 23, 0, 0), none, none, some (.iconst (-1), 0, 0, (-1)), some (.ireturn, 0, 0, 0), some (.iload_n 3, 0, 0, 0), some (.i2l, 0, 0, 0), some (.lconst 0, 0, 0, 0), some (.ldc2_w 101, 0, 0, 8), none, none, some (.invokestatic 58, 88, 0, 0), none, none],
  [some (.ifCond .ne 6, 38, 0, 0), none, none, some (.bipush (-2), 0, 0, (-2)), none, some (.ireturn, 0, 0, 0), some (.iload_n 3, 0, 0, 0), some (.istore 4, 0, 0, 0), none, some (.iconst 0, 0, 0, 0), some (.istore 5, 0, 0, 0), none, some (.iload 5, 0, 0, 0), none, some (.bipush 8, 0, 0, 8), none],
  [some (.if_icmp .ge 36, 84, 0, 0), none, none, some (.iload 4, 0, 0, 0), none, some (.iload 5, 0, 0, 0), none, some (.iload_n 2, 0, 0, 0), some (.if_icmp .ne 7, 63, 0, 0), none, none, some (.iconst 0, 0, 0, 0), some (.goto 15, 75, 0, 0), none, none, some (.aload_n 0, 0, 0, 0)],
  [some (.getfield 16, 9, 4, 0), none, none, some (.bipush 8, 0, 0, 8), none, some (.iload_n 1, 0, 0, 0), some (.imul, 0, 0, 0), some (.iload 5, 0, 0, 0), none, some (.iadd, 0, 0, 0), some (.iaload, 0, 0, 0), some (.iadd, 0, 0, 0), some (.istore 4, 0, 0, 0), none, some (.iinc 5 1, 0, 0, 0), none],
  [none, some (.goto (-37), 44, 0, 0), none, none, some (.iload_n 1, 0, 0, 0), some (.iload_n 2, 0, 0, 0), some (.if_icmp .eq 10, 96, 0, 0), none, none, some (.iload 4, 0, 0, 0), none, some (.bipush 8, 0, 0, 8), none, some (.if_icmp .le 6, 99, 0, 0), none, none],
  [some (.bipush (-3), 0, 0, (-3)), none, some (.ireturn, 0, 0, 0), some (.aload_n 0, 0, 0, 0), some (.getfield 16, 9, 4, 0), none, none, some (.bipush 8, 0, 0, 8), none, some (.iload_n 1, 0, 0, 0), some (.imul, 0, 0, 0), some (.iload_n 2, 0, 0, 0), some (.iadd, 0, 0, 0), some (.iaload, 0, 0, 0), some (.istore 5, 0, 0, 0), none],
  [some (.aload_n 0, 0, 0, 0), some (.getfield 16, 9, 4, 0), none, none, some (.bipush 8, 0, 0, 8), none, some (.iload_n 1, 0, 0, 0), some (.imul, 0, 0, 0), some (.iload_n 2, 0, 0, 0), some (.iadd, 0, 0, 0), some (.iload_n 3, 0, 0, 0), some (.iastore, 0, 0, 0), some (.iload 5, 0, 0, 0), none, some (.ireturn, 0, 0, 0)]]
def mp_116 : List (List (Option mE)) := [
  [some (.aload_n 0, 0, 0, 0), some (.getfield 36, 9, 10, 0), none, none, some (.iconst 0, 0, 0, 0), some (.lconst 1, 0, 0, 1), some (.lastore, 0, 0, 0), some (.iconst 0, 0, 0, 0), some (.istore_n 3, 0, 0, 0), some (.iload_n 3, 0, 0, 0), some (.aload_n 0, 0, 0, 0), some (.getfield 55, 9, 1, 0), none, none, some (.if_icmp .ge 181, 195, 0, 0), none],
  [none, some (.aload_n 0, 0, 0, 0), some (.getfield 19, 9, 5, 0), none, none, some (.iload_n 3, 0, 0, 0), some (.iaload, 0, 0, 0), some (.istore 4, 0, 0, 0), none, some (.iconst 0, 0, 0, 0), some (.istore 5, 0, 0, 0), none, some (.ldc2_w 103, 0, 0, 10), none, none, some (.iload_n 1, 0, 0, 0)],
  [some (.bipush (-9), 0, 0, (-9)), none, some (.if_icmp .ne 13, 47, 0, 0), none, none, some (.aload_n 0, 0, 0, 0), some (.getfield 7, 9, 2, 0), none, none, some (.iload 4, 0, 0, 0), none, some (.iaload, 0, 0, 0), some (.goto 14, 58, 0, 0), none, none, some (.iload_n 1, 0, 0, 0)],
  [some (.iload 4, 0, 0, 0), none, some (.if_icmp .ne 7, 57, 0, 0), none, none, some (.iconst 1, 0, 0, 1), some (.goto 4, 58, 0, 0), none, none, some (.iconst 0, 0, 0, 0), some (.i2l, 0, 0, 0), some (.lmul, 0, 0, 0), some (.aload_n 0, 0, 0, 0), some (.getfield 36, 9, 10, 0), none, none],
  [some (.iload_n 3, 0, 0, 0), some (.laload, 0, 0, 0), some (.lmul, 0, 0, 0), some (.lstore 6, 0, 0, 0), none, some (.iconst 0, 0, 0, 0), some (.istore 8, 0, 0, 0), none, some (.iload 8, 0, 0, 0), none, some (.iload_n 3, 0, 0, 0), some (.if_icmp .ge 85, 160, 0, 0), none, none, some (.aload_n 0, 0, 0, 0), some (.getfield 16, 9, 4, 0)],
  [none, none, some (.bipush 8, 0, 0, 8), none, some (.iload 4, 0, 0, 0), none, some (.imul, 0, 0, 0), some (.aload_n 0, 0, 0, 0), some (.getfield 19, 9, 5, 0), none, none, some (.iload 8, 0, 0, 0), none, some (.iaload, 0, 0, 0), some (.iadd, 0, 0, 0), some (.iaload, 0, 0, 0)],
  [some (.istore 9, 0, 0, 0), none, some (.iload 5, 0, 0, 0), none, some (.iload 9, 0, 0, 0), none, some (.iadd, 0, 0, 0), some (.istore 5, 0, 0, 0), none, some (.iload 8, 0, 0, 0), none, some (.istore 10, 0, 0, 0), none, some (.iload 10, 0, 0, 0), none, some (.iload_n 3, 0, 0, 0)],
  [some (.if_icmp .ge 42, 154, 0, 0), none, none, some (.lload 6, 0, 0, 0), none, some (.iload 9, 0, 0, 0), none, some (.i2l, 0, 0, 0), some (.aload_n 0, 0, 0, 0), some (.getfield 32, 9, 9, 0), none, none, some (.iload 10, 0, 0, 0), none, some (.laload, 0, 0, 0), some (.lmul, 0, 0, 0)],
  [some (.aload_n 0, 0, 0, 0), some (.getfield 36, 9, 10, 0), none, none, some (.iload_n 3, 0, 0, 0), some (.laload, 0, 0, 0), some (.aload_n 0, 0, 0, 0), some (.getfield 36, 9, 10, 0), none, none, some (.iload 10, 0, 0, 0), none, some (.iconst 1, 0, 0, 1), some (.iadd, 0, 0, 0), some (.laload, 0, 0, 0), some (.ldiv, 0, 0, 0)],
  [some (.lmul, 0, 0, 0), some (.ladd, 0, 0, 0), some (.lstore 6, 0, 0, 0), none, some (.iinc 10 1, 0, 0, 0), none, none, some (.goto (-42), 109, 0, 0), none, none, some (.iinc 8 1, 0, 0, 0), none, none, some (.goto (-85), 72, 0, 0), none, none],
  [some (.aload_n 0, 0, 0, 0), some (.getfield 32, 9, 9, 0), none, none, some (.iload_n 3, 0, 0, 0), some (.lload 6, 0, 0, 0), none, some (.lastore, 0, 0, 0), some (.aload_n 0, 0, 0, 0), some (.getfield 36, 9, 10, 0), none, none, some (.iload_n 3, 0, 0, 0), some (.iconst 1, 0, 0, 1), some (.iadd, 0, 0, 0), some (.aload_n 0, 0, 0, 0)],
  [some (.getfield 36, 9, 10, 0), none, none, some (.iload_n 3, 0, 0, 0), some (.laload, 0, 0, 0), some (.bipush 10, 0, 0, 10), none, some (.iload 5, 0, 0, 0), none, some (.isub, 0, 0, 0), some (.i2l, 0, 0, 0), some (.lmul, 0, 0, 0), some (.lastore, 0, 0, 0), some (.iinc 3 1, 0, 0, 0), none, none],
  [some (.goto (-183), 9, 0, 0), none, none, some (.lconst 0, 0, 0, 0), some (.lstore_n 3, 0, 0, 0), some (.iconst 0, 0, 0, 0), some (.istore 5, 0, 0, 0), none, some (.iload 5, 0, 0, 0), none, some (.aload_n 0, 0, 0, 0), some (.getfield 55, 9, 1, 0), none, none, some (.if_icmp .ge 39, 245, 0, 0), none],
  [none, some (.lload_n 3, 0, 0, 0), some (.aload_n 0, 0, 0, 0), some (.getfield 32, 9, 9, 0), none, none, some (.iload 5, 0, 0, 0), none, some (.laload, 0, 0, 0), some (.aload_n 0, 0, 0, 0), some (.getfield 36, 9, 10, 0), none, none, some (.aload_n 0, 0, 0, 0), some (.getfield 55, 9, 1, 0), none],
  [none, some (.laload, 0, 0, 0), some (.aload_n 0, 0, 0, 0), some (.getfield 36, 9, 10, 0), none, none, some (.iload 5, 0, 0, 0), none, some (.iconst 1, 0, 0, 1), some (.iadd, 0, 0, 0), some (.laload, 0, 0, 0), some (.ldiv, 0, 0, 0), some (.lmul, 0, 0, 0), some (.ladd, 0, 0, 0), some (.lstore_n 3, 0, 0, 0), some (.iinc 5 1, 0, 0, 0)],
  [none, none, some (.goto (-42), 200, 0, 0), none, none, some (.lload_n 3, 0, 0, 0), some (.aload_n 0, 0, 0, 0), some (.getfield 36, 9, 10, 0), none, none, some (.aload_n 0, 0, 0, 0), some (.getfield 55, 9, 1, 0), none, none, some (.laload, 0, 0, 0), some (.iload_n 2, 0, 0, 0)],
  [some (.invokestatic 105, 90, 0, 0), none, none, some (.lreturn, 0, 0, 0)]]
def mp_117 : List (List (Option mE)) := [
  [some (.aload_n 0, 0, 0, 0), some (.iconst 0, 0, 0, 0), some (.putfield 51, 9, 0, 0), none, none, some (.aload_n 0, 0, 0, 0), some (.bipush (-9), 0, 0, (-9)), none, some (.iload_n 1, 0, 0, 0), some (.invokevirtual 109, 116, 0, 0), none, none, some (.lreturn, 0, 0, 0)]]
def mp_118 : List (List (Option mE)) := [
  [some (.aload_n 0, 0, 0, 0), some (.iconst 0, 0, 0, 0), some (.putfield 51, 9, 0, 0), none, none, some (.aload_n 0, 0, 0, 0), some (.iload_n 1, 0, 0, 0), some (.invokevirtual 64, 89, 0, 0), none, none, some (.ifCond .eq 9, 19, 0, 0), none, none, some (.ldc2_w 113, 0, 0, (-1)), none, none],
  [some (.goto 9, 25, 0, 0), none, none, some (.aload_n 0, 0, 0, 0), some (.iload_n 1, 0, 0, 0), some (.iload_n 2, 0, 0, 0), some (.invokevirtual 109, 116, 0, 0), none, none, some (.lreturn, 0, 0, 0)]]
def mp_119 : List (List (Option mE)) := [
  [some (.iconst 0, 0, 0, 0), some (.istore_n 1, 0, 0, 0), some (.iconst 0, 0, 0, 0), some (.istore_n 2, 0, 0, 0), some (.iload_n 2, 0, 0, 0), some (.aload_n 0, 0, 0, 0), some (.getfield 55, 9, 1, 0), none, none, some (.if_icmp .ge 126, 135, 0, 0), none, none, some (.aload_n 0, 0, 0, 0), some (.getfield 19, 9, 5, 0), none, none],
  [some (.iload_n 2, 0, 0, 0), some (.iaload, 0, 0, 0), some (.istore_n 3, 0, 0, 0), some (.iconst 0, 0, 0, 0), some (.istore 4, 0, 0, 0), none, some (.iconst 0, 0, 0, 0), some (.istore 5, 0, 0, 0), none, some (.iload 5, 0, 0, 0), none, some (.iload_n 2, 0, 0, 0), some (.if_icmp .ge 65, 93, 0, 0), none, none, some (.aload_n 0, 0, 0, 0)],
  [some (.getfield 13, 9, 3, 0), none, none, some (.bipush 8, 0, 0, 8), none, some (.iload_n 3, 0, 0, 0), some (.imul, 0, 0, 0), some (.aload_n 0, 0, 0, 0), some (.getfield 19, 9, 5, 0), none, none, some (.iload 5, 0, 0, 0), none, some (.iaload, 0, 0, 0), some (.iadd, 0, 0, 0), some (.iaload, 0, 0, 0)],
  [some (.ifCond .le 35, 83, 0, 0), none, none, some (.aload_n 0, 0, 0, 0), some (.getfield 39, 9, 11, 0), none, none, some (.aload_n 0, 0, 0, 0), some (.getfield 19, 9, 5, 0), none, none, some (.iload 5, 0, 0, 0), none, some (.iaload, 0, 0, 0), some (.iaload, 0, 0, 0), some (.iload 4, 0, 0, 0)],
  [none, some (.if_icmp .le 18, 83, 0, 0), none, none, some (.aload_n 0, 0, 0, 0), some (.getfield 39, 9, 11, 0), none, none, some (.aload_n 0, 0, 0, 0), some (.getfield 19, 9, 5, 0), none, none, some (.iload 5, 0, 0, 0), none, some (.iaload, 0, 0, 0), some (.iaload, 0, 0, 0)],
  [some (.goto 5, 85, 0, 0), none, none, some (.iload 4, 0, 0, 0), none, some (.istore 4, 0, 0, 0), none, some (.iinc 5 1, 0, 0, 0), none, none, some (.goto (-65), 25, 0, 0), none, none, some (.aload_n 0, 0, 0, 0), some (.getfield 39, 9, 11, 0), none],
  [none, some (.iload_n 3, 0, 0, 0), some (.iload 4, 0, 0, 0), none, some (.aload_n 0, 0, 0, 0), some (.getfield 7, 9, 2, 0), none, none, some (.iload_n 3, 0, 0, 0), some (.iaload, 0, 0, 0), some (.iadd, 0, 0, 0), some (.iastore, 0, 0, 0), some (.aload_n 0, 0, 0, 0), some (.getfield 39, 9, 11, 0), none, none],
  [some (.iload_n 3, 0, 0, 0), some (.iaload, 0, 0, 0), some (.iload_n 1, 0, 0, 0), some (.if_icmp .le 12, 127, 0, 0), none, none, some (.aload_n 0, 0, 0, 0), some (.getfield 39, 9, 11, 0), none, none, some (.iload_n 3, 0, 0, 0), some (.iaload, 0, 0, 0), some (.goto 4, 128, 0, 0), none, none, some (.iload_n 1, 0, 0, 0)],
  [some (.istore_n 1, 0, 0, 0), some (.iinc 2 1, 0, 0, 0), none, none, some (.goto (-128), 4, 0, 0), none, none, some (.iload_n 1, 0, 0, 0), some (.ireturn, 0, 0, 0)]]
def mp_120 : List (List (Option mE)) := [
  [some (.aload_n 0, 0, 0, 0), some (.iconst 0, 0, 0, 0), some (.putfield 51, 9, 0, 0), none, none, some (.aload_n 0, 0, 0, 0), some (.iload_n 1, 0, 0, 0), some (.invokevirtual 64, 89, 0, 0), none, none, some (.ifCond .eq 5, 15, 0, 0), none, none, some (.iconst (-1), 0, 0, (-1)), some (.ireturn, 0, 0, 0), some (.aload_n 0, 0, 0, 0)],
  [some (.invokevirtual 115, 119, 0, 0), none, none, some (.pop, 0, 0, 0), some (.aload_n 0, 0, 0, 0), some (.getfield 39, 9, 11, 0), none, none, some (.iload_n 1, 0, 0, 0), some (.iaload, 0, 0, 0), some (.ireturn, 0, 0, 0)]]
def mp_121 : List (List (Option mE)) := [
  [some (.aload_n 0, 0, 0, 0), some (.iconst 0, 0, 0, 0), some (.putfield 51, 9, 0, 0), none, none, some (.aload_n 0, 0, 0, 0), some (.invokevirtual 115, 119, 0, 0), none, none, some (.ireturn, 0, 0, 0)]]
def mp_122 : List (List (Option mE)) := [
  [some (.iconst 0, 0, 0, 0), some (.istore_n 1, 0, 0, 0), some (.iconst 0, 0, 0, 0), some (.istore_n 2, 0, 0, 0), some (.iload_n 2, 0, 0, 0), some (.aload_n 0, 0, 0, 0), some (.getfield 55, 9, 1, 0), none, none, some (.if_icmp .ge 58, 67, 0, 0), none, none, some (.iconst 0, 0, 0, 0), some (.istore_n 3, 0, 0, 0), some (.iload_n 3, 0, 0, 0), some (.aload_n 0, 0, 0, 0)],
  [some (.getfield 55, 9, 1, 0), none, none, some (.if_icmp .ge 42, 61, 0, 0), none, none, some (.iload_n 1, 0, 0, 0), some (.aload_n 0, 0, 0, 0), some (.getfield 42, 9, 12, 0), none, none, some (.iload_n 2, 0, 0, 0), some (.iaload, 0, 0, 0), some (.aload_n 0, 0, 0, 0), some (.getfield 42, 9, 12, 0), none],
  [none, some (.iload_n 3, 0, 0, 0), some (.iaload, 0, 0, 0), some (.if_icmp .eq 17, 52, 0, 0), none, none, some (.aload_n 0, 0, 0, 0), some (.getfield 13, 9, 3, 0), none, none, some (.bipush 8, 0, 0, 8), none, some (.iload_n 2, 0, 0, 0), some (.imul, 0, 0, 0), some (.iload_n 3, 0, 0, 0), some (.iadd, 0, 0, 0)],
  [some (.iaload, 0, 0, 0), some (.goto 4, 53, 0, 0), none, none, some (.iconst 0, 0, 0, 0), some (.iadd, 0, 0, 0), some (.istore_n 1, 0, 0, 0), some (.iinc 3 1, 0, 0, 0), none, none, some (.goto (-44), 14, 0, 0), none, none, some (.iinc 2 1, 0, 0, 0), none, none],
  [some (.goto (-60), 4, 0, 0), none, none, some (.iload_n 1, 0, 0, 0), some (.ireturn, 0, 0, 0)]]
def mp_123 : List (List (Option mE)) := [
  [some (.iconst 0, 0, 0, 0), some (.istore_n 2, 0, 0, 0), some (.iconst 0, 0, 0, 0), some (.istore_n 3, 0, 0, 0), some (.iload_n 3, 0, 0, 0), some (.aload_n 0, 0, 0, 0), some (.getfield 55, 9, 1, 0), none, none, some (.if_icmp .ge 75, 84, 0, 0), none, none, some (.iconst 0, 0, 0, 0), some (.istore 4, 0, 0, 0), none, some (.iconst 0, 0, 0, 0)],
  [some (.istore 5, 0, 0, 0), none, some (.iload 5, 0, 0, 0), none, some (.aload_n 0, 0, 0, 0), some (.getfield 55, 9, 1, 0), none, none, some (.if_icmp .ge 30, 54, 0, 0), none, none, some (.iload 4, 0, 0, 0), none, some (.aload_n 0, 0, 0, 0), some (.getfield 42, 9, 12, 0), none],
  [none, some (.iload 5, 0, 0, 0), none, some (.iaload, 0, 0, 0), some (.iload_n 3, 0, 0, 0), some (.if_icmp .ne 7, 44, 0, 0), none, none, some (.iconst 1, 0, 0, 1), some (.goto 4, 45, 0, 0), none, none, some (.iconst 0, 0, 0, 0), some (.iadd, 0, 0, 0), some (.istore 4, 0, 0, 0), none],
  [some (.iinc 5 1, 0, 0, 0), none, none, some (.goto (-33), 18, 0, 0), none, none, some (.iload_n 2, 0, 0, 0), some (.iload 4, 0, 0, 0), none, some (.ifCond .ne 7, 64, 0, 0), none, none, some (.iconst 0, 0, 0, 0), some (.goto 15, 76, 0, 0), none, none],
  [some (.iload 4, 0, 0, 0), none, some (.iload_n 1, 0, 0, 0), some (.if_icmp .le 8, 75, 0, 0), none, none, some (.bipush 100, 0, 0, 100), none, some (.goto 4, 76, 0, 0), none, none, some (.iconst 1, 0, 0, 1), some (.iadd, 0, 0, 0), some (.istore_n 2, 0, 0, 0), some (.iinc 3 1, 0, 0, 0), none],
  [none, some (.goto (-77), 4, 0, 0), none, none, some (.iload_n 2, 0, 0, 0), some (.ireturn, 0, 0, 0)]]
def mp_124 : List (List (Option mE)) := [
  [some (.aload_n 0, 0, 0, 0), some (.getfield 55, 9, 1, 0), none, none, some (.iconst 1, 0, 0, 1), some (.isub, 0, 0, 0), some (.istore_n 1, 0, 0, 0), some (.iload_n 1, 0, 0, 0), some (.ifCond .le 23, 31, 0, 0), none, none, some (.aload_n 0, 0, 0, 0), some (.getfield 42, 9, 12, 0), none, none, some (.iload_n 1, 0, 0, 0)],
  [some (.iaload, 0, 0, 0), some (.aload_n 0, 0, 0, 0), some (.iload_n 1, 0, 0, 0), some (.invokevirtual 118, 125, 0, 0), none, none, some (.if_icmp .le 9, 31, 0, 0), none, none, some (.iinc 1 (-1), 0, 0, 0), none, none, some (.goto (-21), 7, 0, 0), none, none, some (.iload_n 1, 0, 0, 0)],
  [some (.ifCond .gt 5, 37, 0, 0), none, none, some (.iconst 0, 0, 0, 0), some (.ireturn, 1, 0, 0), some (.aload_n 0, 0, 0, 0), some (.getfield 42, 9, 12, 0), none, none, some (.iload_n 1, 0, 0, 0), some (.dup2, 0, 0, 0), some (.iaload, 0, 0, 0), some (.iconst 1, 0, 0, 1), some (.iadd, 0, 0, 0), some (.iastore, 0, 0, 0), some (.iload_n 1, 0, 0, 0)],
  [some (.iconst 1, 0, 0, 1), some (.iadd, 0, 0, 0), some (.istore_n 2, 0, 0, 0), some (.iload_n 2, 0, 0, 0), some (.aload_n 0, 0, 0, 0), some (.getfield 55, 9, 1, 0), none, none, some (.if_icmp .ge 16, 72, 0, 0), none, none, some (.aload_n 0, 0, 0, 0), some (.getfield 42, 9, 12, 0), none, none, some (.iload_n 2, 0, 0, 0)],
  [some (.iconst 0, 0, 0, 0), some (.iastore, 0, 0, 0), some (.iinc 2 1, 0, 0, 0), none, none, some (.goto (-18), 51, 0, 0), none, none, some (.iconst 1, 0, 0, 1), some (.ireturn, 1, 0, 0)]]
def mp_125 : List (List (Option mE)) := [
  [some (.iconst 0, 0, 0, 0), some (.istore_n 2, 0, 0, 0), some (.iconst 0, 0, 0, 0), some (.istore_n 3, 0, 0, 0), some (.iload_n 3, 0, 0, 0), some (.iload_n 1, 0, 0, 0), some (.if_icmp .ge 30, 36, 0, 0), none, none, some (.aload_n 0, 0, 0, 0), some (.getfield 42, 9, 12, 0), none, none, some (.iload_n 3, 0, 0, 0), some (.iaload, 0, 0, 0), some (.iload_n 2, 0, 0, 0)],
  [some (.if_icmp .le 12, 28, 0, 0), none, none, some (.aload_n 0, 0, 0, 0), some (.getfield 42, 9, 12, 0), none, none, some (.iload_n 3, 0, 0, 0), some (.iaload, 0, 0, 0), some (.goto 4, 29, 0, 0), none, none, some (.iload_n 2, 0, 0, 0), some (.istore_n 2, 0, 0, 0), some (.iinc 3 1, 0, 0, 0), none],
  [none, some (.goto (-29), 4, 0, 0), none, none, some (.iload_n 2, 0, 0, 0), some (.ireturn, 0, 0, 0)]]
def mp_126 : List (List (Option mE)) := [
  [some (.iconst 0, 0, 0, 0), some (.istore_n 2, 0, 0, 0), some (.iload_n 2, 0, 0, 0), some (.bipush 8, 0, 0, 8), none, some (.if_icmp .ge 23, 28, 0, 0), none, none, some (.aload_n 0, 0, 0, 0), some (.getfield 42, 9, 12, 0), none, none, some (.iload_n 2, 0, 0, 0), some (.iconst 0, 0, 0, 0), some (.iastore, 0, 0, 0), some (.aload_n 0, 0, 0, 0)],
  [some (.getfield 45, 9, 13, 0), none, none, some (.iload_n 2, 0, 0, 0), some (.iconst 0, 0, 0, 0), some (.iastore, 0, 0, 0), some (.iinc 2 1, 0, 0, 0), none, none, some (.goto (-23), 2, 0, 0), none, none, some (.aload_n 0, 0, 0, 0), some (.bipush (-9), 0, 0, (-9)), none, some (.putfield 121, 9, 14, 0)],
  [none, none, some (.iconst 0, 0, 0, 0), some (.istore_n 2, 0, 0, 0), some (.iconst 1, 0, 0, 1), some (.istore_n 3, 0, 0, 0), some (.iload_n 3, 0, 0, 0), some (.ifCond .eq 105, 144, 0, 0), none, none, some (.aload_n 0, 0, 0, 0), some (.iload_n 1, 0, 0, 0), some (.invokevirtual 124, 123, 0, 0), none, none, some (.istore 4, 0, 0, 0)],
  [none, some (.aload_n 0, 0, 0, 0), some (.invokevirtual 127, 122, 0, 0), none, none, some (.istore 5, 0, 0, 0), none, some (.iload 4, 0, 0, 0), none, some (.bipush 100, 0, 0, 100), none, some (.if_icmp .ge 77, 136, 0, 0), none, none, some (.aload_n 0, 0, 0, 0), some (.getfield 121, 9, 14, 0)],
  [none, none, some (.bipush (-9), 0, 0, (-9)), none, some (.if_icmp .eq 27, 95, 0, 0), none, none, some (.iload 5, 0, 0, 0), none, some (.aload_n 0, 0, 0, 0), some (.getfield 121, 9, 14, 0), none, none, some (.if_icmp .lt 18, 95, 0, 0), none, none],
  [some (.iload 5, 0, 0, 0), none, some (.aload_n 0, 0, 0, 0), some (.getfield 121, 9, 14, 0), none, none, some (.if_icmp .ne 50, 136, 0, 0), none, none, some (.iload 4, 0, 0, 0), none, some (.iload_n 2, 0, 0, 0), some (.if_icmp .ge 44, 136, 0, 0), none, none, some (.aload_n 0, 0, 0, 0)],
  [some (.iload 5, 0, 0, 0), none, some (.putfield 121, 9, 14, 0), none, none, some (.iload 4, 0, 0, 0), none, some (.istore_n 2, 0, 0, 0), some (.iconst 0, 0, 0, 0), some (.istore 6, 0, 0, 0), none, some (.iload 6, 0, 0, 0), none, some (.aload_n 0, 0, 0, 0), some (.getfield 55, 9, 1, 0), none],
  [none, some (.if_icmp .ge 23, 136, 0, 0), none, none, some (.aload_n 0, 0, 0, 0), some (.getfield 45, 9, 13, 0), none, none, some (.iload 6, 0, 0, 0), none, some (.aload_n 0, 0, 0, 0), some (.getfield 42, 9, 12, 0), none, none, some (.iload 6, 0, 0, 0), none],
  [some (.iaload, 0, 0, 0), some (.iastore, 0, 0, 0), some (.iinc 6 1, 0, 0, 0), none, none, some (.goto (-26), 107, 0, 0), none, none, some (.aload_n 0, 0, 0, 0), some (.invokevirtual 130, 124, 0, 0), none, none, some (.istore_n 3, 0, 0, 0), some (.goto (-103), 38, 0, 0), none, none],
  [some (.return_, 0, 0, 0)]]
def mp_127 : List (List (Option mE)) := [
  [some (.aload_n 0, 0, 0, 0), some (.iconst 0, 0, 0, 0), some (.putfield 51, 9, 0, 0), none, none, some (.iload_n 1, 0, 0, 0), some (.i2l, 0, 0, 0), some (.lconst 1, 0, 0, 1), some (.ldc2_w 101, 0, 0, 8), none, none, some (.invokestatic 58, 88, 0, 0), none, none, some (.ifCond .ne 6, 20, 0, 0), none],
  [none, some (.bipush (-2), 0, 0, (-2)), none, some (.ireturn, 0, 0, 0), some (.aload_n 0, 0, 0, 0), some (.iload_n 1, 0, 0, 0), some (.invokevirtual 134, 126, 0, 0), none, none, some (.aload_n 0, 0, 0, 0), some (.getfield 121, 9, 14, 0), none, none, some (.ireturn, 0, 0, 0)]]
def mp_128 : List (List (Option mE)) := [
  [some (.aload_n 0, 0, 0, 0), some (.iconst 0, 0, 0, 0), some (.putfield 51, 9, 0, 0), none, none, some (.aload_n 0, 0, 0, 0), some (.iload_n 2, 0, 0, 0), some (.invokevirtual 64, 89, 0, 0), none, none, some (.ifCond .eq 5, 15, 0, 0), none, none, some (.iconst (-1), 0, 0, (-1)), some (.ireturn, 0, 0, 0), some (.iload_n 1, 0, 0, 0)],
  [some (.i2l, 0, 0, 0), some (.lconst 1, 0, 0, 1), some (.ldc2_w 101, 0, 0, 8), none, none, some (.invokestatic 58, 88, 0, 0), none, none, some (.ifCond .ne 6, 30, 0, 0), none, none, some (.bipush (-2), 0, 0, (-2)), none, some (.ireturn, 0, 0, 0), some (.aload_n 0, 0, 0, 0), some (.iload_n 1, 0, 0, 0)],
  [some (.invokevirtual 134, 126, 0, 0), none, none, some (.aload_n 0, 0, 0, 0), some (.getfield 45, 9, 13, 0), none, none, some (.iload_n 2, 0, 0, 0), some (.iaload, 0, 0, 0), some (.ireturn, 0, 0, 0)]]
def mp_129 : List (List (Option mE)) := [
  [some (.iconst 0, 0, 0, 0), some (.istore_n 2, 0, 0, 0), some (.iload_n 2, 0, 0, 0), some (.bipush 8, 0, 0, 8), none, some (.if_icmp .ge 27, 32, 0, 0), none, none, some (.aload_n 0, 0, 0, 0), some (.getfield 48, 9, 15, 0), none, none, some (.iload_n 2, 0, 0, 0), some (.iload_n 2, 0, 0, 0), some (.iload_n 1, 0, 0, 0), some (.if_icmp .ne 9, 24, 0, 0)],
  [none, none, some (.ldc2_w 138, 0, 0, 10000000), none, none, some (.goto 4, 25, 0, 0), none, none, some (.lconst 0, 0, 0, 0), some (.lastore, 0, 0, 0), some (.iinc 2 1, 0, 0, 0), none, none, some (.goto (-27), 2, 0, 0), none, none],
  [some (.iconst 0, 0, 0, 0), some (.istore_n 2, 0, 0, 0), some (.iload_n 2, 0, 0, 0), some (.bipush 8, 0, 0, 8), none, some (.if_icmp .ge 101, 138, 0, 0), none, none, some (.iconst 0, 0, 0, 0), some (.istore_n 3, 0, 0, 0), some (.iload_n 3, 0, 0, 0), some (.aload_n 0, 0, 0, 0), some (.getfield 55, 9, 1, 0), none, none, some (.if_icmp .ge 85, 132, 0, 0)],
  [none, none, some (.iconst 0, 0, 0, 0), some (.istore 4, 0, 0, 0), none, some (.iload 4, 0, 0, 0), none, some (.aload_n 0, 0, 0, 0), some (.getfield 55, 9, 1, 0), none, none, some (.if_icmp .ge 67, 126, 0, 0), none, none, some (.aload_n 0, 0, 0, 0), some (.getfield 48, 9, 15, 0)],
  [none, none, some (.iload_n 3, 0, 0, 0), some (.laload, 0, 0, 0), some (.aload_n 0, 0, 0, 0), some (.getfield 13, 9, 3, 0), none, none, some (.bipush 8, 0, 0, 8), none, some (.iload 4, 0, 0, 0), none, some (.imul, 0, 0, 0), some (.iload_n 3, 0, 0, 0), some (.iadd, 0, 0, 0), some (.iaload, 0, 0, 0)],
  [some (.i2l, 0, 0, 0), some (.lmul, 0, 0, 0), some (.ldc2_w 103, 0, 0, 10), none, none, some (.ldiv, 0, 0, 0), some (.lstore 5, 0, 0, 0), none, some (.aload_n 0, 0, 0, 0), some (.getfield 48, 9, 15, 0), none, none, some (.iload 4, 0, 0, 0), none, some (.lload 5, 0, 0, 0), none],
  [some (.aload_n 0, 0, 0, 0), some (.getfield 48, 9, 15, 0), none, none, some (.iload 4, 0, 0, 0), none, some (.laload, 0, 0, 0), some (.lcmp, 0, 0, 0), some (.ifCond .le 8, 112, 0, 0), none, none, some (.lload 5, 0, 0, 0), none, some (.goto 10, 119, 0, 0), none, none],
  [some (.aload_n 0, 0, 0, 0), some (.getfield 48, 9, 15, 0), none, none, some (.iload 4, 0, 0, 0), none, some (.laload, 0, 0, 0), some (.lastore, 0, 0, 0), some (.iinc 4 1, 0, 0, 0), none, none, some (.goto (-70), 53, 0, 0), none, none, some (.iinc 3 1, 0, 0, 0), none],
  [none, some (.goto (-87), 42, 0, 0), none, none, some (.iinc 2 1, 0, 0, 0), none, none, some (.goto (-101), 34, 0, 0), none, none, some (.return_, 0, 0, 0)]]
def mp_130 : List (List (Option mE)) := [
  [some (.aload_n 0, 0, 0, 0), some (.iconst 0, 0, 0, 0), some (.putfield 51, 9, 0, 0), none, none, some (.aload_n 0, 0, 0, 0), some (.iload_n 1, 0, 0, 0), some (.invokevirtual 64, 89, 0, 0), none, none, some (.ifCond .ne 11, 21, 0, 0), none, none, some (.aload_n 0, 0, 0, 0), some (.iload_n 2, 0, 0, 0), some (.invokevirtual 64, 89, 0, 0)],
  [none, none, some (.ifCond .eq 7, 25, 0, 0), none, none, some (.ldc2_w 113, 0, 0, (-1)), none, none, some (.lreturn, 0, 0, 0), some (.aload_n 0, 0, 0, 0), some (.iload_n 1, 0, 0, 0), some (.invokevirtual 140, 129, 0, 0), none, none, some (.aload_n 0, 0, 0, 0), some (.getfield 48, 9, 15, 0)],
  [none, none, some (.iload_n 2, 0, 0, 0), some (.laload, 0, 0, 0), some (.ldc2_w 138, 0, 0, 10000000), none, none, some (.iload_n 3, 0, 0, 0), some (.invokestatic 105, 90, 0, 0), none, none, some (.lreturn, 0, 0, 0)]]
def mp_131 : List (List (Option mE)) := [
  [some (.aload_n 0, 0, 0, 0), some (.iconst 0, 0, 0, 0), some (.putfield 51, 9, 0, 0), none, none, some (.aload_n 0, 0, 0, 0), some (.iload_n 1, 0, 0, 0), some (.invokevirtual 64, 89, 0, 0), none, none, some (.ifCond .eq 5, 15, 0, 0), none, none, some (.iconst (-1), 0, 0, (-1)), some (.ireturn, 0, 0, 0), some (.iload_n 2, 0, 0, 0)],
  [some (.i2l, 0, 0, 0), some (.lconst 1, 0, 0, 1), some (.ldc2_w 143, 0, 0, 1000), none, none, some (.invokestatic 58, 88, 0, 0), none, none, some (.ifCond .ne 6, 30, 0, 0), none, none, some (.bipush (-2), 0, 0, (-2)), none, some (.ireturn, 0, 0, 0), some (.aload_n 0, 0, 0, 0), some (.iload_n 1, 0, 0, 0)],
  [some (.invokevirtual 140, 129, 0, 0), none, none, some (.iconst 0, 0, 0, 0), some (.istore_n 3, 0, 0, 0), some (.iconst 0, 0, 0, 0), some (.istore 4, 0, 0, 0), none, some (.iload 4, 0, 0, 0), none, some (.aload_n 0, 0, 0, 0), some (.getfield 55, 9, 1, 0), none, none, some (.if_icmp .ge 40, 86, 0, 0), none],
  [none, some (.iload_n 3, 0, 0, 0), some (.iload 4, 0, 0, 0), none, some (.iload_n 1, 0, 0, 0), some (.if_icmp .eq 24, 77, 0, 0), none, none, some (.aload_n 0, 0, 0, 0), some (.getfield 48, 9, 15, 0), none, none, some (.iload 4, 0, 0, 0), none, some (.laload, 0, 0, 0), some (.iload_n 2, 0, 0, 0)],
  [some (.i2l, 0, 0, 0), some (.ldc2_w 145, 0, 0, 10000), none, none, some (.lmul, 0, 0, 0), some (.lcmp, 0, 0, 0), some (.ifCond .lt 7, 77, 0, 0), none, none, some (.iconst 1, 0, 0, 1), some (.goto 4, 78, 0, 0), none, none, some (.iconst 0, 0, 0, 0), some (.iadd, 0, 0, 0), some (.istore_n 3, 0, 0, 0)],
  [some (.iinc 4 1, 0, 0, 0), none, none, some (.goto (-43), 40, 0, 0), none, none, some (.iload_n 3, 0, 0, 0), some (.ireturn, 0, 0, 0)]]
def mp_132 : List (List (Option mE)) := [
  [some (.aload_n 0, 0, 0, 0), some (.iconst 0, 0, 0, 0), some (.putfield 51, 9, 0, 0), none, none, some (.iconst 0, 0, 0, 0), some (.istore_n 2, 0, 0, 0), some (.iconst 0, 0, 0, 0), some (.istore_n 3, 0, 0, 0), some (.iconst 0, 0, 0, 0), some (.istore 4, 0, 0, 0), none, some (.iconst 0, 0, 0, 0), some (.istore 5, 0, 0, 0), none, some (.iconst 0, 0, 0, 0)],
  [some (.istore 6, 0, 0, 0), none, some (.iload 6, 0, 0, 0), none, some (.bipush 64, 0, 0, 64), none, some (.if_icmp .ge 57, 79, 0, 0), none, none, some (.iload_n 2, 0, 0, 0), some (.aload_n 0, 0, 0, 0), some (.getfield 13, 9, 3, 0), none, none, some (.iload 6, 0, 0, 0), none],
  [some (.iaload, 0, 0, 0), some (.ifCond .le 7, 40, 0, 0), none, none, some (.iconst 1, 0, 0, 1), some (.goto 4, 41, 0, 0), none, none, some (.iconst 0, 0, 0, 0), some (.iadd, 0, 0, 0), some (.istore_n 2, 0, 0, 0), some (.iload_n 3, 0, 0, 0), some (.aload_n 0, 0, 0, 0), some (.getfield 13, 9, 3, 0), none, none],
  [some (.iload 6, 0, 0, 0), none, some (.iaload, 0, 0, 0), some (.iadd, 0, 0, 0), some (.istore_n 3, 0, 0, 0), some (.iload 4, 0, 0, 0), none, some (.aload_n 0, 0, 0, 0), some (.getfield 16, 9, 4, 0), none, none, some (.iload 6, 0, 0, 0), none, some (.iaload, 0, 0, 0), some (.ifCond .le 7, 69, 0, 0), none],
  [none, some (.iconst 1, 0, 0, 1), some (.goto 4, 70, 0, 0), none, none, some (.iconst 0, 0, 0, 0), some (.iadd, 0, 0, 0), some (.istore 4, 0, 0, 0), none, some (.iinc 6 1, 0, 0, 0), none, none, some (.goto (-58), 18, 0, 0), none, none, some (.iconst 0, 0, 0, 0)],
  [some (.istore 6, 0, 0, 0), none, some (.iload 6, 0, 0, 0), none, some (.aload_n 0, 0, 0, 0), some (.getfield 55, 9, 1, 0), none, none, some (.if_icmp .ge 21, 109, 0, 0), none, none, some (.iload 5, 0, 0, 0), none, some (.aload_n 0, 0, 0, 0), some (.getfield 7, 9, 2, 0), none],
  [none, some (.iload 6, 0, 0, 0), none, some (.iaload, 0, 0, 0), some (.iadd, 0, 0, 0), some (.istore 5, 0, 0, 0), none, some (.iinc 6 1, 0, 0, 0), none, none, some (.goto (-24), 82, 0, 0), none, none, some (.iload_n 1, 0, 0, 0), some (.ifCond .ne 10, 120, 0, 0), none],
  [none, some (.aload_n 0, 0, 0, 0), some (.getfield 55, 9, 1, 0), none, none, some (.goto 43, 160, 0, 0), none, none, some (.iload_n 1, 0, 0, 0), some (.iconst 1, 0, 0, 1), some (.if_icmp .ne 7, 129, 0, 0), none, none, some (.iload_n 2, 0, 0, 0), some (.goto 34, 160, 0, 0), none],
  [none, some (.iload_n 1, 0, 0, 0), some (.iconst 2, 0, 0, 2), some (.if_icmp .ne 7, 138, 0, 0), none, none, some (.iload_n 3, 0, 0, 0), some (.goto 25, 160, 0, 0), none, none, some (.iload_n 1, 0, 0, 0), some (.iconst 3, 0, 0, 3), some (.if_icmp .ne 8, 148, 0, 0), none, none, some (.iload 4, 0, 0, 0)],
  [none, some (.goto 15, 160, 0, 0), none, none, some (.iload_n 1, 0, 0, 0), some (.iconst 4, 0, 0, 4), some (.if_icmp .ne 8, 158, 0, 0), none, none, some (.iload 5, 0, 0, 0), none, some (.goto 5, 160, 0, 0), none, none, some (.bipush (-2), 0, 0, (-2)), none],
  [some (.ireturn, 0, 0, 0)]]
def mp_133 : List (List (Option mE)) := [
  [some (.new 7, 0, 0, 0), none, none, some (.dup, 0, 0, 0), some (.invokespecial 9, 0, 0, 0), none, none, some (.astore_n 1, 0, 0, 0), some (.new 10, 0, 0, 0), none, none, some (.dup, 0, 0, 0), some (.invokespecial 12, 0, 0, 0), none, none, some (.astore_n 2, 0, 0, 0)],
  [some (.iconst 0, 0, 0, 0), some (.istore_n 3, 0, 0, 0), some (.iload_n 3, 0, 0, 0), some (.aload_n 0, 0, 0, 0), some (.arraylength, 0, 0, 0), some (.iconst 4, 0, 0, 4), some (.isub, 0, 0, 0), some (.if_icmp .gt 857, 880, 0, 0), none, none, some (.aload_n 0, 0, 0, 0), some (.iload_n 3, 0, 0, 0), some (.iaload, 0, 0, 0), some (.bipush 31, 0, 0, 31), none, some (.iand, 0, 0, 0)],
  [some (.tableswitch 842 0 24 #[116, 139, 172, 215, 248, 281, 294, 317, 330, 353, 386, 409, 442, 455, 468, 501, 544, 584, 634, 657, 670, 693, 726, 786, 819], 874, 0, 0), none, none, none, none, none, none, none, none, none, none, none, none, none, none, none],
  [none, none, none, none, none, none, none, none, none, none, none, none, none, none, none, none],
  [none, none, none, none, none, none, none, none, none, none, none, none, none, none, none, none],
  [none, none, none, none, none, none, none, none, none, none, none, none, none, none, none, none],
  [none, none, none, none, none, none, none, none, none, none, none, none, none, none, none, none],
  [none, none, none, none, none, none, none, none, none, none, none, none, none, none, none, none],
  [none, none, none, none, none, none, none, none, none, none, none, none, none, none, none, none],
  [none, none, none, none, some (.aload_n 1, 0, 0, 0), some (.aload_n 0, 0, 0, 0), some (.iload_n 3, 0, 0, 0), some (.iconst 1, 0, 0, 1), some (.iadd, 0, 0, 0), some (.iaload, 0, 0, 0), some (.invokevirtual 13, 56, 0, 0), none, none, some (.aload_n 2, 0, 0, 0), some (.aload_n 0, 0, 0, 0), some (.iload_n 3, 0, 0, 0)],
  [some (.iconst 1, 0, 0, 1), some (.iadd, 0, 0, 0), some (.iaload, 0, 0, 0), some (.invokevirtual 17, 91, 0, 0), none, none, some (.if_icmp .eq 708, 874, 0, 0), none, none, some (.iconst 0, 0, 0, 0), some (.ireturn, 1, 0, 0), some (.aload_n 1, 0, 0, 0), some (.aload_n 0, 0, 0, 0), some (.iload_n 3, 0, 0, 0), some (.iconst 1, 0, 0, 1), some (.iadd, 0, 0, 0)],
  [some (.iaload, 0, 0, 0), some (.aload_n 0, 0, 0, 0), some (.iload_n 3, 0, 0, 0), some (.iconst 2, 0, 0, 2), some (.iadd, 0, 0, 0), some (.iaload, 0, 0, 0), some (.invokevirtual 18, 57, 0, 0), none, none, some (.aload_n 2, 0, 0, 0), some (.aload_n 0, 0, 0, 0), some (.iload_n 3, 0, 0, 0), some (.iconst 1, 0, 0, 1), some (.iadd, 0, 0, 0), some (.iaload, 0, 0, 0), some (.aload_n 0, 0, 0, 0)],
  [some (.iload_n 3, 0, 0, 0), some (.iconst 2, 0, 0, 2), some (.iadd, 0, 0, 0), some (.iaload, 0, 0, 0), some (.invokevirtual 22, 92, 0, 0), none, none, some (.if_icmp .eq 675, 874, 0, 0), none, none, some (.iconst 0, 0, 0, 0), some (.ireturn, 1, 0, 0), some (.aload_n 1, 0, 0, 0), some (.aload_n 0, 0, 0, 0), some (.iload_n 3, 0, 0, 0), some (.iconst 1, 0, 0, 1)],
  [some (.iadd, 0, 0, 0), some (.iaload, 0, 0, 0), some (.aload_n 0, 0, 0, 0), some (.iload_n 3, 0, 0, 0), some (.iconst 2, 0, 0, 2), some (.iadd, 0, 0, 0), some (.iaload, 0, 0, 0), some (.aload_n 0, 0, 0, 0), some (.iload_n 3, 0, 0, 0), some (.iconst 3, 0, 0, 3), some (.iadd, 0, 0, 0), some (.iaload, 0, 0, 0), some (.invokevirtual 23, 58, 0, 0), none, none, some (.aload_n 2, 0, 0, 0)],
  [some (.aload_n 0, 0, 0, 0), some (.iload_n 3, 0, 0, 0), some (.iconst 1, 0, 0, 1), some (.iadd, 0, 0, 0), some (.iaload, 0, 0, 0), some (.aload_n 0, 0, 0, 0), some (.iload_n 3, 0, 0, 0), some (.iconst 2, 0, 0, 2), some (.iadd, 0, 0, 0), some (.iaload, 0, 0, 0), some (.aload_n 0, 0, 0, 0), some (.iload_n 3, 0, 0, 0), some (.iconst 3, 0, 0, 3), some (.iadd, 0, 0, 0), some (.iaload, 0, 0, 0), some (.invokevirtual 27, 93, 0, 0)],
  [none, none, some (.if_icmp .eq 632, 874, 0, 0), none, none, some (.iconst 0, 0, 0, 0), some (.ireturn, 1, 0, 0), some (.aload_n 1, 0, 0, 0), some (.aload_n 0, 0, 0, 0), some (.iload_n 3, 0, 0, 0), some (.iconst 1, 0, 0, 1), some (.iadd, 0, 0, 0), some (.iaload, 0, 0, 0), some (.aload_n 0, 0, 0, 0), some (.iload_n 3, 0, 0, 0), some (.iconst 2, 0, 0, 2)],
  [some (.iadd, 0, 0, 0), some (.iaload, 0, 0, 0), some (.invokevirtual 28, 59, 0, 0), none, none, some (.aload_n 2, 0, 0, 0), some (.aload_n 0, 0, 0, 0), some (.iload_n 3, 0, 0, 0), some (.iconst 1, 0, 0, 1), some (.iadd, 0, 0, 0), some (.iaload, 0, 0, 0), some (.aload_n 0, 0, 0, 0), some (.iload_n 3, 0, 0, 0), some (.iconst 2, 0, 0, 2), some (.iadd, 0, 0, 0), some (.iaload, 0, 0, 0)],
  [some (.invokevirtual 31, 94, 0, 0), none, none, some (.if_icmp .eq 599, 874, 0, 0), none, none, some (.iconst 0, 0, 0, 0), some (.ireturn, 1, 0, 0), some (.aload_n 1, 0, 0, 0), some (.aload_n 0, 0, 0, 0), some (.iload_n 3, 0, 0, 0), some (.iconst 1, 0, 0, 1), some (.iadd, 0, 0, 0), some (.iaload, 0, 0, 0), some (.aload_n 0, 0, 0, 0), some (.iload_n 3, 0, 0, 0)],
  [some (.iconst 2, 0, 0, 2), some (.iadd, 0, 0, 0), some (.iaload, 0, 0, 0), some (.invokevirtual 32, 60, 0, 0), none, none, some (.aload_n 2, 0, 0, 0), some (.aload_n 0, 0, 0, 0), some (.iload_n 3, 0, 0, 0), some (.iconst 1, 0, 0, 1), some (.iadd, 0, 0, 0), some (.iaload, 0, 0, 0), some (.aload_n 0, 0, 0, 0), some (.iload_n 3, 0, 0, 0), some (.iconst 2, 0, 0, 2), some (.iadd, 0, 0, 0)],
  [some (.iaload, 0, 0, 0), some (.invokevirtual 35, 96, 0, 0), none, none, some (.if_icmp .eq 566, 874, 0, 0), none, none, some (.iconst 0, 0, 0, 0), some (.ireturn, 1, 0, 0), some (.aload_n 1, 0, 0, 0), some (.invokevirtual 36, 61, 0, 0), none, none, some (.aload_n 2, 0, 0, 0), some (.invokevirtual 40, 100, 0, 0), none],
  [none, some (.if_icmp .eq 553, 874, 0, 0), none, none, some (.iconst 0, 0, 0, 0), some (.ireturn, 1, 0, 0), some (.aload_n 1, 0, 0, 0), some (.aload_n 0, 0, 0, 0), some (.iload_n 3, 0, 0, 0), some (.iconst 1, 0, 0, 1), some (.iadd, 0, 0, 0), some (.iaload, 0, 0, 0), some (.invokevirtual 41, 62, 0, 0), none, none, some (.aload_n 2, 0, 0, 0)],
  [some (.aload_n 0, 0, 0, 0), some (.iload_n 3, 0, 0, 0), some (.iconst 1, 0, 0, 1), some (.iadd, 0, 0, 0), some (.iaload, 0, 0, 0), some (.invokevirtual 44, 101, 0, 0), none, none, some (.if_icmp .eq 530, 874, 0, 0), none, none, some (.iconst 0, 0, 0, 0), some (.ireturn, 1, 0, 0), some (.aload_n 1, 0, 0, 0), some (.invokevirtual 45, 63, 0, 0), none],
  [none, some (.aload_n 2, 0, 0, 0), some (.invokevirtual 48, 105, 0, 0), none, none, some (.if_icmp .eq 517, 874, 0, 0), none, none, some (.iconst 0, 0, 0, 0), some (.ireturn, 1, 0, 0), some (.aload_n 1, 0, 0, 0), some (.aload_n 0, 0, 0, 0), some (.iload_n 3, 0, 0, 0), some (.iconst 1, 0, 0, 1), some (.iadd, 0, 0, 0), some (.iaload, 0, 0, 0)],
  [some (.invokevirtual 49, 64, 0, 0), none, none, some (.aload_n 2, 0, 0, 0), some (.aload_n 0, 0, 0, 0), some (.iload_n 3, 0, 0, 0), some (.iconst 1, 0, 0, 1), some (.iadd, 0, 0, 0), some (.iaload, 0, 0, 0), some (.invokevirtual 52, 106, 0, 0), none, none, some (.if_icmp .eq 494, 874, 0, 0), none, none, some (.iconst 0, 0, 0, 0)],
  [some (.ireturn, 1, 0, 0), some (.aload_n 1, 0, 0, 0), some (.aload_n 0, 0, 0, 0), some (.iload_n 3, 0, 0, 0), some (.iconst 1, 0, 0, 1), some (.iadd, 0, 0, 0), some (.iaload, 0, 0, 0), some (.aload_n 0, 0, 0, 0), some (.iload_n 3, 0, 0, 0), some (.iconst 2, 0, 0, 2), some (.iadd, 0, 0, 0), some (.iaload, 0, 0, 0), some (.invokevirtual 53, 65, 0, 0), none, none, some (.aload_n 2, 0, 0, 0)],
  [some (.aload_n 0, 0, 0, 0), some (.iload_n 3, 0, 0, 0), some (.iconst 1, 0, 0, 1), some (.iadd, 0, 0, 0), some (.iaload, 0, 0, 0), some (.aload_n 0, 0, 0, 0), some (.iload_n 3, 0, 0, 0), some (.iconst 2, 0, 0, 2), some (.iadd, 0, 0, 0), some (.iaload, 0, 0, 0), some (.invokevirtual 56, 107, 0, 0), none, none, some (.if_icmp .eq 461, 874, 0, 0), none, none],
  [some (.iconst 0, 0, 0, 0), some (.ireturn, 1, 0, 0), some (.aload_n 1, 0, 0, 0), some (.aload_n 0, 0, 0, 0), some (.iload_n 3, 0, 0, 0), some (.iconst 1, 0, 0, 1), some (.iadd, 0, 0, 0), some (.iaload, 0, 0, 0), some (.invokevirtual 57, 66, 0, 0), none, none, some (.aload_n 2, 0, 0, 0), some (.aload_n 0, 0, 0, 0), some (.iload_n 3, 0, 0, 0), some (.iconst 1, 0, 0, 1), some (.iadd, 0, 0, 0)],
  [some (.iaload, 0, 0, 0), some (.invokevirtual 60, 108, 0, 0), none, none, some (.if_icmp .eq 438, 874, 0, 0), none, none, some (.iconst 0, 0, 0, 0), some (.ireturn, 1, 0, 0), some (.aload_n 1, 0, 0, 0), some (.aload_n 0, 0, 0, 0), some (.iload_n 3, 0, 0, 0), some (.iconst 1, 0, 0, 1), some (.iadd, 0, 0, 0), some (.iaload, 0, 0, 0), some (.aload_n 0, 0, 0, 0)],
  [some (.iload_n 3, 0, 0, 0), some (.iconst 2, 0, 0, 2), some (.iadd, 0, 0, 0), some (.iaload, 0, 0, 0), some (.invokevirtual 61, 67, 0, 0), none, none, some (.aload_n 2, 0, 0, 0), some (.aload_n 0, 0, 0, 0), some (.iload_n 3, 0, 0, 0), some (.iconst 1, 0, 0, 1), some (.iadd, 0, 0, 0), some (.iaload, 0, 0, 0), some (.aload_n 0, 0, 0, 0), some (.iload_n 3, 0, 0, 0), some (.iconst 2, 0, 0, 2)],
  [some (.iadd, 0, 0, 0), some (.iaload, 0, 0, 0), some (.invokevirtual 64, 110, 0, 0), none, none, some (.if_icmp .eq 405, 874, 0, 0), none, none, some (.iconst 0, 0, 0, 0), some (.ireturn, 1, 0, 0), some (.aload_n 1, 0, 0, 0), some (.invokevirtual 65, 68, 0, 0), none, none, some (.aload_n 2, 0, 0, 0), some (.invokevirtual 68, 111, 0, 0)],
  [none, none, some (.if_icmp .eq 392, 874, 0, 0), none, none, some (.iconst 0, 0, 0, 0), some (.ireturn, 1, 0, 0), some (.aload_n 1, 0, 0, 0), some (.invokevirtual 69, 69, 0, 0), none, none, some (.aload_n 2, 0, 0, 0), some (.invokevirtual 72, 112, 0, 0), none, none, some (.if_icmp .eq 379, 874, 0, 0)],
  [none, none, some (.iconst 0, 0, 0, 0), some (.ireturn, 1, 0, 0), some (.aload_n 1, 0, 0, 0), some (.aload_n 0, 0, 0, 0), some (.iload_n 3, 0, 0, 0), some (.iconst 1, 0, 0, 1), some (.iadd, 0, 0, 0), some (.iaload, 0, 0, 0), some (.aload_n 0, 0, 0, 0), some (.iload_n 3, 0, 0, 0), some (.iconst 2, 0, 0, 2), some (.iadd, 0, 0, 0), some (.iaload, 0, 0, 0), some (.invokevirtual 73, 70, 0, 0)],
  [none, none, some (.aload_n 2, 0, 0, 0), some (.aload_n 0, 0, 0, 0), some (.iload_n 3, 0, 0, 0), some (.iconst 1, 0, 0, 1), some (.iadd, 0, 0, 0), some (.iaload, 0, 0, 0), some (.aload_n 0, 0, 0, 0), some (.iload_n 3, 0, 0, 0), some (.iconst 2, 0, 0, 2), some (.iadd, 0, 0, 0), some (.iaload, 0, 0, 0), some (.invokevirtual 76, 114, 0, 0), none, none],
  [some (.if_icmp .eq 346, 874, 0, 0), none, none, some (.iconst 0, 0, 0, 0), some (.ireturn, 1, 0, 0), some (.aload_n 1, 0, 0, 0), some (.aload_n 0, 0, 0, 0), some (.iload_n 3, 0, 0, 0), some (.iconst 1, 0, 0, 1), some (.iadd, 0, 0, 0), some (.iaload, 0, 0, 0), some (.aload_n 0, 0, 0, 0), some (.iload_n 3, 0, 0, 0), some (.iconst 2, 0, 0, 2), some (.iadd, 0, 0, 0), some (.iaload, 0, 0, 0)],
  [some (.aload_n 0, 0, 0, 0), some (.iload_n 3, 0, 0, 0), some (.iconst 3, 0, 0, 3), some (.iadd, 0, 0, 0), some (.iaload, 0, 0, 0), some (.invokevirtual 77, 71, 0, 0), none, none, some (.aload_n 2, 0, 0, 0), some (.aload_n 0, 0, 0, 0), some (.iload_n 3, 0, 0, 0), some (.iconst 1, 0, 0, 1), some (.iadd, 0, 0, 0), some (.iaload, 0, 0, 0), some (.aload_n 0, 0, 0, 0), some (.iload_n 3, 0, 0, 0)],
  [some (.iconst 2, 0, 0, 2), some (.iadd, 0, 0, 0), some (.iaload, 0, 0, 0), some (.aload_n 0, 0, 0, 0), some (.iload_n 3, 0, 0, 0), some (.iconst 3, 0, 0, 3), some (.iadd, 0, 0, 0), some (.iaload, 0, 0, 0), some (.invokevirtual 80, 115, 0, 0), none, none, some (.if_icmp .eq 303, 874, 0, 0), none, none, some (.iconst 0, 0, 0, 0), some (.ireturn, 1, 0, 0)],
  [some (.aload_n 1, 0, 0, 0), some (.aload_n 0, 0, 0, 0), some (.iload_n 3, 0, 0, 0), some (.iconst 1, 0, 0, 1), some (.iadd, 0, 0, 0), some (.iaload, 0, 0, 0), some (.ifCond .eq 7, 589, 0, 0), none, none, some (.iconst 1, 0, 0, 1), some (.goto 4, 590, 0, 0), none, none, some (.iconst 0, 0, 0, 0), some (.invokevirtual 81, 72, 0, 0), none],
  [none, some (.aload_n 2, 0, 0, 0), some (.aload_n 0, 0, 0, 0), some (.iload_n 3, 0, 0, 0), some (.iconst 1, 0, 0, 1), some (.iadd, 0, 0, 0), some (.iaload, 0, 0, 0), some (.ifCond .eq 7, 606, 0, 0), none, none, some (.iconst 1, 0, 0, 1), some (.goto 4, 607, 0, 0), none, none, some (.iconst 0, 0, 0, 0), some (.invokevirtual 85, 117, 0, 0)],
  [none, none, some (.lcmp, 0, 0, 0), some (.ifCond .eq 263, 874, 0, 0), none, none, some (.iconst 0, 0, 0, 0), some (.ireturn, 1, 0, 0), some (.aload_n 1, 0, 0, 0), some (.aload_n 0, 0, 0, 0), some (.iload_n 3, 0, 0, 0), some (.iconst 1, 0, 0, 1), some (.iadd, 0, 0, 0), some (.iaload, 0, 0, 0), some (.aload_n 0, 0, 0, 0), some (.iload_n 3, 0, 0, 0)],
  [some (.iconst 2, 0, 0, 2), some (.iadd, 0, 0, 0), some (.iaload, 0, 0, 0), some (.ifCond .eq 7, 634, 0, 0), none, none, some (.iconst 1, 0, 0, 1), some (.goto 4, 635, 0, 0), none, none, some (.iconst 0, 0, 0, 0), some (.invokevirtual 86, 73, 0, 0), none, none, some (.aload_n 2, 0, 0, 0), some (.aload_n 0, 0, 0, 0)],
  [some (.iload_n 3, 0, 0, 0), some (.iconst 1, 0, 0, 1), some (.iadd, 0, 0, 0), some (.iaload, 0, 0, 0), some (.aload_n 0, 0, 0, 0), some (.iload_n 3, 0, 0, 0), some (.iconst 2, 0, 0, 2), some (.iadd, 0, 0, 0), some (.iaload, 0, 0, 0), some (.ifCond .eq 7, 656, 0, 0), none, none, some (.iconst 1, 0, 0, 1), some (.goto 4, 657, 0, 0), none, none],
  [some (.iconst 0, 0, 0, 0), some (.invokevirtual 90, 118, 0, 0), none, none, some (.lcmp, 0, 0, 0), some (.ifCond .eq 213, 874, 0, 0), none, none, some (.iconst 0, 0, 0, 0), some (.ireturn, 1, 0, 0), some (.aload_n 1, 0, 0, 0), some (.aload_n 0, 0, 0, 0), some (.iload_n 3, 0, 0, 0), some (.iconst 1, 0, 0, 1), some (.iadd, 0, 0, 0), some (.iaload, 0, 0, 0)],
  [some (.invokevirtual 91, 74, 0, 0), none, none, some (.aload_n 2, 0, 0, 0), some (.aload_n 0, 0, 0, 0), some (.iload_n 3, 0, 0, 0), some (.iconst 1, 0, 0, 1), some (.iadd, 0, 0, 0), some (.iaload, 0, 0, 0), some (.invokevirtual 94, 120, 0, 0), none, none, some (.if_icmp .eq 190, 874, 0, 0), none, none, some (.iconst 0, 0, 0, 0)],
  [some (.ireturn, 1, 0, 0), some (.aload_n 1, 0, 0, 0), some (.invokevirtual 95, 75, 0, 0), none, none, some (.aload_n 2, 0, 0, 0), some (.invokevirtual 98, 121, 0, 0), none, none, some (.if_icmp .eq 177, 874, 0, 0), none, none, some (.iconst 0, 0, 0, 0), some (.ireturn, 1, 0, 0), some (.aload_n 1, 0, 0, 0), some (.aload_n 0, 0, 0, 0)],
  [some (.iload_n 3, 0, 0, 0), some (.iconst 1, 0, 0, 1), some (.iadd, 0, 0, 0), some (.iaload, 0, 0, 0), some (.invokevirtual 99, 76, 0, 0), none, none, some (.aload_n 2, 0, 0, 0), some (.aload_n 0, 0, 0, 0), some (.iload_n 3, 0, 0, 0), some (.iconst 1, 0, 0, 1), some (.iadd, 0, 0, 0), some (.iaload, 0, 0, 0), some (.invokevirtual 102, 127, 0, 0), none, none],
  [some (.if_icmp .eq 154, 874, 0, 0), none, none, some (.iconst 0, 0, 0, 0), some (.ireturn, 1, 0, 0), some (.aload_n 1, 0, 0, 0), some (.aload_n 0, 0, 0, 0), some (.iload_n 3, 0, 0, 0), some (.iconst 1, 0, 0, 1), some (.iadd, 0, 0, 0), some (.iaload, 0, 0, 0), some (.aload_n 0, 0, 0, 0), some (.iload_n 3, 0, 0, 0), some (.iconst 2, 0, 0, 2), some (.iadd, 0, 0, 0), some (.iaload, 0, 0, 0)],
  [some (.invokevirtual 103, 77, 0, 0), none, none, some (.aload_n 2, 0, 0, 0), some (.aload_n 0, 0, 0, 0), some (.iload_n 3, 0, 0, 0), some (.iconst 1, 0, 0, 1), some (.iadd, 0, 0, 0), some (.iaload, 0, 0, 0), some (.aload_n 0, 0, 0, 0), some (.iload_n 3, 0, 0, 0), some (.iconst 2, 0, 0, 2), some (.iadd, 0, 0, 0), some (.iaload, 0, 0, 0), some (.invokevirtual 106, 128, 0, 0), none],
  [none, some (.if_icmp .eq 121, 874, 0, 0), none, none, some (.iconst 0, 0, 0, 0), some (.ireturn, 1, 0, 0), some (.aload_n 1, 0, 0, 0), some (.aload_n 0, 0, 0, 0), some (.iload_n 3, 0, 0, 0), some (.iconst 1, 0, 0, 1), some (.iadd, 0, 0, 0), some (.iaload, 0, 0, 0), some (.aload_n 0, 0, 0, 0), some (.iload_n 3, 0, 0, 0), some (.iconst 2, 0, 0, 2), some (.iadd, 0, 0, 0)],
  [some (.iaload, 0, 0, 0), some (.aload_n 0, 0, 0, 0), some (.iload_n 3, 0, 0, 0), some (.iconst 3, 0, 0, 3), some (.iadd, 0, 0, 0), some (.iaload, 0, 0, 0), some (.ifCond .eq 7, 781, 0, 0), none, none, some (.iconst 1, 0, 0, 1), some (.goto 4, 782, 0, 0), none, none, some (.iconst 0, 0, 0, 0), some (.invokevirtual 107, 78, 0, 0), none],
  [none, some (.aload_n 2, 0, 0, 0), some (.aload_n 0, 0, 0, 0), some (.iload_n 3, 0, 0, 0), some (.iconst 1, 0, 0, 1), some (.iadd, 0, 0, 0), some (.iaload, 0, 0, 0), some (.aload_n 0, 0, 0, 0), some (.iload_n 3, 0, 0, 0), some (.iconst 2, 0, 0, 2), some (.iadd, 0, 0, 0), some (.iaload, 0, 0, 0), some (.aload_n 0, 0, 0, 0), some (.iload_n 3, 0, 0, 0), some (.iconst 3, 0, 0, 3), some (.iadd, 0, 0, 0)],
  [some (.iaload, 0, 0, 0), some (.ifCond .eq 7, 808, 0, 0), none, none, some (.iconst 1, 0, 0, 1), some (.goto 4, 809, 0, 0), none, none, some (.iconst 0, 0, 0, 0), some (.invokevirtual 111, 130, 0, 0), none, none, some (.lcmp, 0, 0, 0), some (.ifCond .eq 61, 874, 0, 0), none, none],
  [some (.iconst 0, 0, 0, 0), some (.ireturn, 1, 0, 0), some (.aload_n 1, 0, 0, 0), some (.aload_n 0, 0, 0, 0), some (.iload_n 3, 0, 0, 0), some (.iconst 1, 0, 0, 1), some (.iadd, 0, 0, 0), some (.iaload, 0, 0, 0), some (.aload_n 0, 0, 0, 0), some (.iload_n 3, 0, 0, 0), some (.iconst 2, 0, 0, 2), some (.iadd, 0, 0, 0), some (.iaload, 0, 0, 0), some (.invokevirtual 112, 79, 0, 0), none, none],
  [some (.aload_n 2, 0, 0, 0), some (.aload_n 0, 0, 0, 0), some (.iload_n 3, 0, 0, 0), some (.iconst 1, 0, 0, 1), some (.iadd, 0, 0, 0), some (.iaload, 0, 0, 0), some (.aload_n 0, 0, 0, 0), some (.iload_n 3, 0, 0, 0), some (.iconst 2, 0, 0, 2), some (.iadd, 0, 0, 0), some (.iaload, 0, 0, 0), some (.invokevirtual 115, 131, 0, 0), none, none, some (.if_icmp .eq 28, 874, 0, 0), none],
  [none, some (.iconst 0, 0, 0, 0), some (.ireturn, 1, 0, 0), some (.aload_n 1, 0, 0, 0), some (.aload_n 0, 0, 0, 0), some (.iload_n 3, 0, 0, 0), some (.iconst 1, 0, 0, 1), some (.iadd, 0, 0, 0), some (.iaload, 0, 0, 0), some (.invokevirtual 116, 80, 0, 0), none, none, some (.aload_n 2, 0, 0, 0), some (.aload_n 0, 0, 0, 0), some (.iload_n 3, 0, 0, 0), some (.iconst 1, 0, 0, 1)],
  [some (.iadd, 0, 0, 0), some (.iaload, 0, 0, 0), some (.invokevirtual 119, 132, 0, 0), none, none, some (.if_icmp .eq 5, 874, 0, 0), none, none, some (.iconst 0, 0, 0, 0), some (.ireturn, 1, 0, 0), some (.iinc 3 4, 0, 0, 0), none, none, some (.goto (-859), 18, 0, 0), none, none],
  [some (.iconst 1, 0, 0, 1), some (.ireturn, 1, 0, 0)]]
def pgs : List (List (List (List (Option mE)))) := [
  [mp_0, mp_1, mp_2, mp_3, mp_4, mp_5, mp_6, mp_7, mp_8, mp_9, mp_10, mp_11, mp_12, mp_13, mp_14, mp_15],
  [mp_16, mp_17, mp_18, mp_19, mp_20, mp_21, mp_22, mp_23, mp_24, mp_25, mp_26, mp_27, mp_28, mp_29, mp_30, mp_31],
  [mp_32, mp_33, mp_34, mp_35, mp_36, mp_37, mp_38, mp_39, mp_40, mp_41, mp_42, mp_43, mp_44, mp_45, mp_46, mp_47],
  [mp_48, mp_49, mp_50, mp_51, mp_52, mp_53, mp_54, mp_55, mp_56, mp_57, mp_58, mp_59, mp_60, mp_61, mp_62, mp_63],
  [mp_64, mp_65, mp_66, mp_67, mp_68, mp_69, mp_70, mp_71, mp_72, mp_73, mp_74, mp_75, mp_76, mp_77, mp_78, mp_79],
  [mp_80, mp_81, mp_82, mp_83, mp_84, mp_85, mp_86, mp_87, mp_88, mp_89, mp_90, mp_91, mp_92, mp_93, mp_94, mp_95],
  [mp_96, mp_97, mp_98, mp_99, mp_100, mp_101, mp_102, mp_103, mp_104, mp_105, mp_106, mp_107, mp_108, mp_109, mp_110, mp_111],
  [mp_112, mp_113, mp_114, mp_115, mp_116, mp_117, mp_118, mp_119, mp_120, mp_121, mp_122, mp_123, mp_124, mp_125, mp_126, mp_127],
  [mp_128, mp_129, mp_130, mp_131, mp_132, mp_133]]
def mGrid {α : Type} (l : List (List (Option α))) (pc : Nat) : Option α := match mNth l (pc / 16) with
  | some r => match mNth r (pc % 16) with
    | some e => e
    | none => none
  | none => none
def mCode (m : Nat) : List (List (Option mE)) := match mNth pgs (m / 16) with
  | some r => match mNth r (m % 16) with
    | some c => c
    | none => []
  | none => []
def pg (m pc : Nat) : Option mE := mGrid (mCode m) pc
/-- the class of each object -/
def cOs : List Nat := [8, 6, 6, 2, 4, 1, 2, 3, 0, 7, 5, 9]
def cO (o : Nat) : Nat := (mNth cOs o).getD 99
/-- the kinds of the fields: 0 int, 1 long, 2 array, 3 object -/
def fKs : List (List Nat) := [[2], [2, 3], [2, 0], [2, 2, 1], [2, 2, 0], [2, 0], [2], [2, 2, 2, 0, 0, 0, 0], [2, 3, 3, 3, 3, 3, 3, 3, 3, 3, 0], [0, 0, 2, 2, 2, 2, 2, 2, 2, 2, 2, 2, 2, 2, 0, 2]]
def fK (c k : Nat) : Nat := (mNth ((mNth fKs c).getD []) k).getD 99
def sOs : List (List Nat) := [[0, 1, 2, 3, 4, 5, 7, 8, 9, 10, 0], [0], [0], [0, 0], [0, 0, 0], [0, 6], [0, 0], [0, 0, 0], [0], [0, 0, 0, 0, 0, 0, 0], [0, 0], [0, 0, 0, 0, 0, 0, 0, 0, 0, 0, 0, 0, 0, 0, 0, 0]]
def sO (o k : Nat) : Nat := (mNth ((mNth sOs o).getD []) k).getD 99
def aNs : List (List Nat) := [[8, 0, 0, 0, 0, 0, 0, 0, 0, 0, 0], [64], [64], [8, 0], [8, 8, 0], [256, 0], [8, 0], [8, 8, 0], [8], [8, 8, 8, 0, 0, 0, 0], [8, 0], [0, 0, 8, 64, 64, 8, 256, 64, 8, 8, 9, 8, 8, 8, 0, 8]]
def aN (a : Nat) : Nat := (mNth ((mNth aNs (a / 16)).getD []) (a % 16)).getD 0
def aKs : List (List Nat) := [[0, 9, 9, 9, 9, 9, 9, 9, 9, 9, 9], [0], [0], [0, 9], [0, 0, 9], [0, 9], [0, 9], [1, 0, 9], [0], [0, 0, 0, 9, 9, 9, 9], [0, 9], [9, 9, 0, 0, 0, 0, 0, 2, 0, 1, 1, 0, 0, 0, 9, 1]]
def aK (a : Nat) : Nat := if a = 999 then 0 else (mNth ((mNth aKs (a / 16)).getD []) (a % 16)).getD 9
def mAs : List (List Nat) := [[2, 2, 2, 2, 3, 3, 4, 2, 1, 1, 2, 2, 1, 2, 2, 1], [2, 2, 2, 3, 2, 2, 1, 4, 2, 2, 4, 1, 3, 2, 3, 3], [4, 4, 5, 1, 2, 4, 5, 3, 3, 4, 1, 1, 4, 4, 3, 3], [3, 1, 2, 3, 3, 2, 3, 3, 2, 3, 4, 3, 3, 1, 2, 1], [2, 3, 2, 3, 1, 1, 3, 4, 2, 3, 2, 1, 2, 3, 4, 3], [2, 2, 1, 1, 1, 3, 2, 2, 3, 2, 3, 2, 3, 4, 3, 1], [3, 3, 2, 1, 1, 2, 3, 1, 1, 1, 2, 3, 2, 1, 3, 1], [1, 2, 3, 4, 3, 2, 3, 1, 2, 1, 1, 2, 1, 2, 2, 2], [3, 2, 4, 3, 2, 1]]
def mSs : List (List Bool) := [[true, true, true, true, false, false, false, false, false, false, true, false, false, false, false, false], [false, false, false, false, false, false, false, false, false, false, false, false, false, false, false, false], [false, false, false, false, false, false, true, false, false, false, false, false, false, false, false, false], [false, false, false, false, false, false, false, false, false, false, false, false, false, false, false, false], [false, false, false, false, false, false, false, false, false, false, false, false, false, false, false, false], [false, false, true, true, false, true, true, true, true, false, true, false, false, false, false, false], [false, false, false, false, false, false, false, false, false, false, false, false, false, false, false, false], [false, false, false, false, false, false, false, false, false, false, false, false, false, false, false, false], [false, false, false, false, false, true]]
def mKs : List (List Nat) := [[10, 10, 11, 11, 6, 6, 6, 6, 6, 6, 6, 2, 2, 2, 2, 2], [2, 2, 2, 2, 2, 0, 0, 0, 5, 5, 5, 5, 5, 5, 1, 1], [1, 1, 1, 7, 7, 7, 7, 7, 7, 7, 3, 3, 3, 3, 3, 3], [4, 4, 4, 4, 4, 4, 4, 4, 8, 8, 8, 8, 8, 8, 8, 8], [8, 8, 8, 8, 8, 8, 8, 8, 8, 8, 8, 8, 8, 8, 8, 8], [8, 8, 8, 8, 8, 8, 8, 8, 9, 9, 9, 9, 9, 9, 9, 9], [9, 9, 9, 9, 9, 9, 9, 9, 9, 9, 9, 9, 9, 9, 9, 9], [9, 9, 9, 9, 9, 9, 9, 9, 9, 9, 9, 9, 9, 9, 9, 9], [9, 9, 9, 9, 9, 12]]
def mWs : List (List Nat) := [[2, 2, 5, 4, 3, 3, 6, 4, 6, 6, 2, 2, 1, 2, 3, 1], [2, 3, 3, 4, 5, 2, 6, 8, 2, 7, 6, 4, 5, 2, 5, 6], [6, 5, 7, 1, 2, 4, 7, 3, 3, 6, 8, 1, 5, 11, 6, 4], [3, 1, 2, 3, 5, 6, 5, 5, 3, 4, 4, 3, 3, 1, 2, 1], [2, 6, 2, 3, 1, 1, 3, 4, 2, 3, 2, 1, 2, 3, 4, 4], [2, 2, 1, 1, 6, 7, 11, 2, 6, 2, 11, 3, 4, 5, 3, 4], [3, 3, 5, 5, 1, 2, 5, 5, 5, 1, 2, 6, 2, 4, 4, 2], [1, 4, 3, 6, 11, 2, 3, 6, 2, 1, 4, 6, 3, 4, 7, 2], [3, 7, 4, 5, 7, 4]]
def mTab {α : Type} (l : List (List α)) (d : α) (m : Nat) : α := (mNth ((mNth l (m / 16)).getD []) (m % 16)).getD d
def mA (m : Nat) : Nat := mTab mAs 0 m
def mS (m : Nat) : Bool := mTab mSs false m
def mK (m : Nat) : Nat := mTab mKs 99 m
def mW (m : Nat) : Nat := mTab mWs 0 m
def mN : Nat := 134
