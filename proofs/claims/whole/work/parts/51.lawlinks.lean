theorem wc_X11_spare : Cond.code yX11_spare cX11_spare 4 (some .int) ∈ UW := (uw_t 1541 (by decide +kernel) (by decide +kernel))
theorem wp_X11_spare : yX11_spare.cls ≠ "java/lang/invoke/MethodHandle" ∧ yX11_spare.cls ≠ "java/lang/invoke/VarHandle" ∧ (parseMethodDescriptor yX11_spare.desc).map (fun d => d.parameters.length) = some 2 := by decide +kernel
theorem wm_X11_spare : Cond.instanceMethod yX11_spare ∈ UW := (uw_t 1539 (by decide +kernel) (by decide +kernel))
theorem ws_X11_spare : Cond.selects yX11_spare.cls yX11_spare yX11_spare ∈ UW := (uw_t 1540 (by decide +kernel) (by decide +kernel))
theorem mv_R_law_100 : MV R_law 100 yX11_spare cX11_spare 4 (some .int) 2 := ⟨⟨(uw_t 1538 (by decide +kernel) (by decide +kernel)), wm_X11_spare, ws_X11_spare, wi_RX11, wc_X11_spare⟩, wp_X11_spare⟩
theorem wc_X10_ease : Cond.code yX10_ease cX10_ease 5 (some .int) ∈ UW := (uw_t 1042 (by decide +kernel) (by decide +kernel))
theorem wp_X10_ease : yX10_ease.cls ≠ "java/lang/invoke/MethodHandle" ∧ yX10_ease.cls ≠ "java/lang/invoke/VarHandle" ∧ (parseMethodDescriptor yX10_ease.desc).map (fun d => d.parameters.length) = some 2 := by decide +kernel
theorem wm_X10_ease : Cond.instanceMethod yX10_ease ∈ UW := (uw_t 1040 (by decide +kernel) (by decide +kernel))
theorem ws_X10_ease : Cond.selects yX10_ease.cls yX10_ease yX10_ease ∈ UW := (uw_t 1041 (by decide +kernel) (by decide +kernel))
theorem mv_R_law_101 : MV R_law 101 yX10_ease cX10_ease 5 (some .int) 2 := ⟨⟨(uw_t 1039 (by decide +kernel) (by decide +kernel)), wm_X10_ease, ws_X10_ease, wi_RX10, wc_X10_ease⟩, wp_X10_ease⟩
theorem wc_X11_ease : Cond.code yX11_ease cX11_ease 6 (some .int) ∈ UW := (uw_t 1570 (by decide +kernel) (by decide +kernel))
theorem wp_X11_ease : yX11_ease.cls ≠ "java/lang/invoke/MethodHandle" ∧ yX11_ease.cls ≠ "java/lang/invoke/VarHandle" ∧ (parseMethodDescriptor yX11_ease.desc).map (fun d => d.parameters.length) = some 2 := by decide +kernel
theorem wm_X11_ease : Cond.instanceMethod yX11_ease ∈ UW := (uw_t 1568 (by decide +kernel) (by decide +kernel))
theorem ws_X11_ease : Cond.selects yX11_ease.cls yX11_ease yX11_ease ∈ UW := (uw_t 1569 (by decide +kernel) (by decide +kernel))
theorem mv_R_law_104 : MV R_law 104 yX11_ease cX11_ease 6 (some .int) 2 := ⟨⟨(uw_t 1567 (by decide +kernel) (by decide +kernel)), wm_X11_ease, ws_X11_ease, wi_RX11, wc_X11_ease⟩, wp_X11_ease⟩
theorem wc_X10_roof : Cond.code yX10_roof cX10_roof 4 (some .int) ∈ UW := (uw_t 1050 (by decide +kernel) (by decide +kernel))
theorem wp_X10_roof : yX10_roof.cls ≠ "java/lang/invoke/MethodHandle" ∧ yX10_roof.cls ≠ "java/lang/invoke/VarHandle" ∧ (parseMethodDescriptor yX10_roof.desc).map (fun d => d.parameters.length) = some 2 := by decide +kernel
theorem wm_X10_roof : Cond.instanceMethod yX10_roof ∈ UW := (uw_t 1048 (by decide +kernel) (by decide +kernel))
theorem ws_X10_roof : Cond.selects yX10_roof.cls yX10_roof yX10_roof ∈ UW := (uw_t 1049 (by decide +kernel) (by decide +kernel))
theorem mv_R_law_105 : MV R_law 105 yX10_roof cX10_roof 4 (some .int) 2 := ⟨⟨(uw_t 1047 (by decide +kernel) (by decide +kernel)), wm_X10_roof, ws_X10_roof, wi_RX10, wc_X10_roof⟩, wp_X10_roof⟩
theorem wc_X11_roof : Cond.code yX11_roof cX11_roof 3 (some .int) ∈ UW := (uw_t 1634 (by decide +kernel) (by decide +kernel))
theorem wp_X11_roof : yX11_roof.cls ≠ "java/lang/invoke/MethodHandle" ∧ yX11_roof.cls ≠ "java/lang/invoke/VarHandle" ∧ (parseMethodDescriptor yX11_roof.desc).map (fun d => d.parameters.length) = some 2 := by decide +kernel
theorem wm_X11_roof : Cond.instanceMethod yX11_roof ∈ UW := (uw_t 1632 (by decide +kernel) (by decide +kernel))
theorem ws_X11_roof : Cond.selects yX11_roof.cls yX11_roof yX11_roof ∈ UW := (uw_t 1633 (by decide +kernel) (by decide +kernel))
theorem mv_R_law_108 : MV R_law 108 yX11_roof cX11_roof 3 (some .int) 2 := ⟨⟨(uw_t 1631 (by decide +kernel) (by decide +kernel)), wm_X11_roof, ws_X11_roof, wi_RX11, wc_X11_roof⟩, wp_X11_roof⟩
theorem wc_X10_sleep : Cond.code yX10_sleep cX10_sleep 5 (some .long) ∈ UW := (uw_t 1079 (by decide +kernel) (by decide +kernel))
theorem wp_X10_sleep : yX10_sleep.cls ≠ "java/lang/invoke/MethodHandle" ∧ yX10_sleep.cls ≠ "java/lang/invoke/VarHandle" ∧ (parseMethodDescriptor yX10_sleep.desc).map (fun d => d.parameters.length) = some 3 := by decide +kernel
theorem wm_X10_sleep : Cond.instanceMethod yX10_sleep ∈ UW := (uw_t 1077 (by decide +kernel) (by decide +kernel))
theorem ws_X10_sleep : Cond.selects yX10_sleep.cls yX10_sleep yX10_sleep ∈ UW := (uw_t 1078 (by decide +kernel) (by decide +kernel))
theorem mv_R_law_109 : MV R_law 109 yX10_sleep cX10_sleep 5 (some .long) 3 := ⟨⟨(uw_t 1076 (by decide +kernel) (by decide +kernel)), wm_X10_sleep, ws_X10_sleep, wi_RX10, wc_X10_sleep⟩, wp_X10_sleep⟩
theorem wc_X11_sleep : Cond.code yX11_sleep cX11_sleep 6 (some .long) ∈ UW := (uw_t 1666 (by decide +kernel) (by decide +kernel))
theorem wp_X11_sleep : yX11_sleep.cls ≠ "java/lang/invoke/MethodHandle" ∧ yX11_sleep.cls ≠ "java/lang/invoke/VarHandle" ∧ (parseMethodDescriptor yX11_sleep.desc).map (fun d => d.parameters.length) = some 3 := by decide +kernel
theorem wm_X11_sleep : Cond.instanceMethod yX11_sleep ∈ UW := (uw_t 1664 (by decide +kernel) (by decide +kernel))
theorem ws_X11_sleep : Cond.selects yX11_sleep.cls yX11_sleep yX11_sleep ∈ UW := (uw_t 1665 (by decide +kernel) (by decide +kernel))
theorem mv_R_law_113 : MV R_law 113 yX11_sleep cX11_sleep 6 (some .long) 3 := ⟨⟨(uw_t 1663 (by decide +kernel) (by decide +kernel)), wm_X11_sleep, ws_X11_sleep, wi_RX11, wc_X11_sleep⟩, wp_X11_sleep⟩
theorem wc_X10_census : Cond.code yX10_census cX10_census 5 (some .long) ∈ UW := (uw_t 1085 (by decide +kernel) (by decide +kernel))
theorem wp_X10_census : yX10_census.cls ≠ "java/lang/invoke/MethodHandle" ∧ yX10_census.cls ≠ "java/lang/invoke/VarHandle" ∧ (parseMethodDescriptor yX10_census.desc).map (fun d => d.parameters.length) = some 3 := by decide +kernel
theorem wm_X10_census : Cond.instanceMethod yX10_census ∈ UW := (uw_t 1083 (by decide +kernel) (by decide +kernel))
theorem ws_X10_census : Cond.selects yX10_census.cls yX10_census yX10_census ∈ UW := (uw_t 1084 (by decide +kernel) (by decide +kernel))
theorem mv_R_law_114 : MV R_law 114 yX10_census cX10_census 5 (some .long) 3 := ⟨⟨(uw_t 1082 (by decide +kernel) (by decide +kernel)), wm_X10_census, ws_X10_census, wi_RX10, wc_X10_census⟩, wp_X10_census⟩
theorem wc_X11_census : Cond.code yX11_census cX11_census 7 (some .long) ∈ UW := (uw_t 1670 (by decide +kernel) (by decide +kernel))
theorem wp_X11_census : yX11_census.cls ≠ "java/lang/invoke/MethodHandle" ∧ yX11_census.cls ≠ "java/lang/invoke/VarHandle" ∧ (parseMethodDescriptor yX11_census.desc).map (fun d => d.parameters.length) = some 3 := by decide +kernel
theorem wm_X11_census : Cond.instanceMethod yX11_census ∈ UW := (uw_t 1668 (by decide +kernel) (by decide +kernel))
theorem ws_X11_census : Cond.selects yX11_census.cls yX11_census yX11_census ∈ UW := (uw_t 1669 (by decide +kernel) (by decide +kernel))
theorem mv_R_law_117 : MV R_law 117 yX11_census cX11_census 7 (some .long) 3 := ⟨⟨(uw_t 1667 (by decide +kernel) (by decide +kernel)), wm_X11_census, ws_X11_census, wi_RX11, wc_X11_census⟩, wp_X11_census⟩
theorem wc_X10_move : Cond.code yX10_move cX10_move 6 (some .int) ∈ UW := (uw_t 1095 (by decide +kernel) (by decide +kernel))
theorem wp_X10_move : yX10_move.cls ≠ "java/lang/invoke/MethodHandle" ∧ yX10_move.cls ≠ "java/lang/invoke/VarHandle" ∧ (parseMethodDescriptor yX10_move.desc).map (fun d => d.parameters.length) = some 3 := by decide +kernel
theorem wm_X10_move : Cond.instanceMethod yX10_move ∈ UW := (uw_t 1093 (by decide +kernel) (by decide +kernel))
theorem ws_X10_move : Cond.selects yX10_move.cls yX10_move yX10_move ∈ UW := (uw_t 1094 (by decide +kernel) (by decide +kernel))
theorem mv_R_law_118 : MV R_law 118 yX10_move cX10_move 6 (some .int) 3 := ⟨⟨(uw_t 1092 (by decide +kernel) (by decide +kernel)), wm_X10_move, ws_X10_move, wi_RX10, wc_X10_move⟩, wp_X10_move⟩
theorem wc_X11_move : Cond.code yX11_move cX11_move 6 (some .int) ∈ UW := (uw_t 1674 (by decide +kernel) (by decide +kernel))
theorem wp_X11_move : yX11_move.cls ≠ "java/lang/invoke/MethodHandle" ∧ yX11_move.cls ≠ "java/lang/invoke/VarHandle" ∧ (parseMethodDescriptor yX11_move.desc).map (fun d => d.parameters.length) = some 3 := by decide +kernel
theorem wm_X11_move : Cond.instanceMethod yX11_move ∈ UW := (uw_t 1672 (by decide +kernel) (by decide +kernel))
theorem ws_X11_move : Cond.selects yX11_move.cls yX11_move yX11_move ∈ UW := (uw_t 1673 (by decide +kernel) (by decide +kernel))
theorem mv_R_law_121 : MV R_law 121 yX11_move cX11_move 6 (some .int) 3 := ⟨⟨(uw_t 1671 (by decide +kernel) (by decide +kernel)), wm_X11_move, ws_X11_move, wi_RX11, wc_X11_move⟩, wp_X11_move⟩
theorem wc_X10_range : Cond.code yX10_range cX10_range 4 (some .int) ∈ UW := (uw_t 1103 (by decide +kernel) (by decide +kernel))
theorem wp_X10_range : yX10_range.cls ≠ "java/lang/invoke/MethodHandle" ∧ yX10_range.cls ≠ "java/lang/invoke/VarHandle" ∧ (parseMethodDescriptor yX10_range.desc).map (fun d => d.parameters.length) = some 2 := by decide +kernel
theorem wm_X10_range : Cond.instanceMethod yX10_range ∈ UW := (uw_t 1101 (by decide +kernel) (by decide +kernel))
theorem ws_X10_range : Cond.selects yX10_range.cls yX10_range yX10_range ∈ UW := (uw_t 1102 (by decide +kernel) (by decide +kernel))
theorem mv_R_law_122 : MV R_law 122 yX10_range cX10_range 4 (some .int) 2 := ⟨⟨(uw_t 1100 (by decide +kernel) (by decide +kernel)), wm_X10_range, ws_X10_range, wi_RX10, wc_X10_range⟩, wp_X10_range⟩
theorem wc_X11_range : Cond.code yX11_range cX11_range 7 (some .int) ∈ UW := (uw_t 1578 (by decide +kernel) (by decide +kernel))
theorem wp_X11_range : yX11_range.cls ≠ "java/lang/invoke/MethodHandle" ∧ yX11_range.cls ≠ "java/lang/invoke/VarHandle" ∧ (parseMethodDescriptor yX11_range.desc).map (fun d => d.parameters.length) = some 2 := by decide +kernel
theorem wm_X11_range : Cond.instanceMethod yX11_range ∈ UW := (uw_t 1576 (by decide +kernel) (by decide +kernel))
theorem ws_X11_range : Cond.selects yX11_range.cls yX11_range yX11_range ∈ UW := (uw_t 1577 (by decide +kernel) (by decide +kernel))
theorem mv_R_law_125 : MV R_law 125 yX11_range cX11_range 7 (some .int) 2 := ⟨⟨(uw_t 1575 (by decide +kernel) (by decide +kernel)), wm_X11_range, ws_X11_range, wi_RX11, wc_X11_range⟩, wp_X11_range⟩
theorem wc_X10_choir : Cond.code yX10_choir cX10_choir 5 (some .int) ∈ UW := (uw_t 1109 (by decide +kernel) (by decide +kernel))
theorem wp_X10_choir : yX10_choir.cls ≠ "java/lang/invoke/MethodHandle" ∧ yX10_choir.cls ≠ "java/lang/invoke/VarHandle" ∧ (parseMethodDescriptor yX10_choir.desc).map (fun d => d.parameters.length) = some 2 := by decide +kernel
theorem wm_X10_choir : Cond.instanceMethod yX10_choir ∈ UW := (uw_t 1107 (by decide +kernel) (by decide +kernel))
theorem ws_X10_choir : Cond.selects yX10_choir.cls yX10_choir yX10_choir ∈ UW := (uw_t 1108 (by decide +kernel) (by decide +kernel))
theorem mv_R_law_126 : MV R_law 126 yX10_choir cX10_choir 5 (some .int) 2 := ⟨⟨(uw_t 1106 (by decide +kernel) (by decide +kernel)), wm_X10_choir, ws_X10_choir, wi_RX10, wc_X10_choir⟩, wp_X10_choir⟩
theorem wc_X11_choir : Cond.code yX11_choir cX11_choir 5 (some .int) ∈ UW := (uw_t 1582 (by decide +kernel) (by decide +kernel))
theorem wp_X11_choir : yX11_choir.cls ≠ "java/lang/invoke/MethodHandle" ∧ yX11_choir.cls ≠ "java/lang/invoke/VarHandle" ∧ (parseMethodDescriptor yX11_choir.desc).map (fun d => d.parameters.length) = some 2 := by decide +kernel
theorem wm_X11_choir : Cond.instanceMethod yX11_choir ∈ UW := (uw_t 1580 (by decide +kernel) (by decide +kernel))
theorem ws_X11_choir : Cond.selects yX11_choir.cls yX11_choir yX11_choir ∈ UW := (uw_t 1581 (by decide +kernel) (by decide +kernel))
theorem mv_R_law_129 : MV R_law 129 yX11_choir cX11_choir 5 (some .int) 2 := ⟨⟨(uw_t 1579 (by decide +kernel) (by decide +kernel)), wm_X11_choir, ws_X11_choir, wi_RX11, wc_X11_choir⟩, wp_X11_choir⟩
theorem wc_X10_feed : Cond.code yX10_feed cX10_feed 6 (some .int) ∈ UW := (uw_t 445 (by decide +kernel) (by decide +kernel))
theorem wp_X10_feed : yX10_feed.cls ≠ "java/lang/invoke/MethodHandle" ∧ yX10_feed.cls ≠ "java/lang/invoke/VarHandle" ∧ (parseMethodDescriptor yX10_feed.desc).map (fun d => d.parameters.length) = some 5 := by decide +kernel
theorem wm_X10_feed : Cond.instanceMethod yX10_feed ∈ UW := (uw_t 443 (by decide +kernel) (by decide +kernel))
theorem ws_X10_feed : Cond.selects yX10_feed.cls yX10_feed yX10_feed ∈ UW := (uw_t 444 (by decide +kernel) (by decide +kernel))
theorem mv_R_law_13 : MV R_law 13 yX10_feed cX10_feed 6 (some .int) 5 := ⟨⟨(uw_t 442 (by decide +kernel) (by decide +kernel)), wm_X10_feed, ws_X10_feed, wi_RX10, wc_X10_feed⟩, wp_X10_feed⟩
theorem wc_X10_after : Cond.code yX10_after cX10_after 6 (some .int) ∈ UW := (uw_t 1120 (by decide +kernel) (by decide +kernel))
theorem wp_X10_after : yX10_after.cls ≠ "java/lang/invoke/MethodHandle" ∧ yX10_after.cls ≠ "java/lang/invoke/VarHandle" ∧ (parseMethodDescriptor yX10_after.desc).map (fun d => d.parameters.length) = some 3 := by decide +kernel
theorem wm_X10_after : Cond.instanceMethod yX10_after ∈ UW := (uw_t 1118 (by decide +kernel) (by decide +kernel))
theorem ws_X10_after : Cond.selects yX10_after.cls yX10_after yX10_after ∈ UW := (uw_t 1119 (by decide +kernel) (by decide +kernel))
theorem mv_R_law_130 : MV R_law 130 yX10_after cX10_after 6 (some .int) 3 := ⟨⟨(uw_t 1117 (by decide +kernel) (by decide +kernel)), wm_X10_after, ws_X10_after, wi_RX10, wc_X10_after⟩, wp_X10_after⟩
theorem wc_X11_after : Cond.code yX11_after cX11_after 7 (some .int) ∈ UW := (uw_t 1810 (by decide +kernel) (by decide +kernel))
theorem wp_X11_after : yX11_after.cls ≠ "java/lang/invoke/MethodHandle" ∧ yX11_after.cls ≠ "java/lang/invoke/VarHandle" ∧ (parseMethodDescriptor yX11_after.desc).map (fun d => d.parameters.length) = some 3 := by decide +kernel
theorem wm_X11_after : Cond.instanceMethod yX11_after ∈ UW := (uw_t 1808 (by decide +kernel) (by decide +kernel))
theorem ws_X11_after : Cond.selects yX11_after.cls yX11_after yX11_after ∈ UW := (uw_t 1809 (by decide +kernel) (by decide +kernel))
theorem mv_R_law_133 : MV R_law 133 yX11_after cX11_after 7 (some .int) 3 := ⟨⟨(uw_t 1807 (by decide +kernel) (by decide +kernel)), wm_X11_after, ws_X11_after, wi_RX11, wc_X11_after⟩, wp_X11_after⟩
theorem wc_X10_odds : Cond.code yX10_odds cX10_odds 7 (some .long) ∈ UW := (uw_t 1128 (by decide +kernel) (by decide +kernel))
theorem wp_X10_odds : yX10_odds.cls ≠ "java/lang/invoke/MethodHandle" ∧ yX10_odds.cls ≠ "java/lang/invoke/VarHandle" ∧ (parseMethodDescriptor yX10_odds.desc).map (fun d => d.parameters.length) = some 4 := by decide +kernel
theorem wm_X10_odds : Cond.instanceMethod yX10_odds ∈ UW := (uw_t 1126 (by decide +kernel) (by decide +kernel))
theorem ws_X10_odds : Cond.selects yX10_odds.cls yX10_odds yX10_odds ∈ UW := (uw_t 1127 (by decide +kernel) (by decide +kernel))
theorem mv_R_law_134 : MV R_law 134 yX10_odds cX10_odds 7 (some .long) 4 := ⟨⟨(uw_t 1125 (by decide +kernel) (by decide +kernel)), wm_X10_odds, ws_X10_odds, wi_RX10, wc_X10_odds⟩, wp_X10_odds⟩
theorem wc_X11_odds : Cond.code yX11_odds cX11_odds 7 (some .long) ∈ UW := (uw_t 1842 (by decide +kernel) (by decide +kernel))
theorem wp_X11_odds : yX11_odds.cls ≠ "java/lang/invoke/MethodHandle" ∧ yX11_odds.cls ≠ "java/lang/invoke/VarHandle" ∧ (parseMethodDescriptor yX11_odds.desc).map (fun d => d.parameters.length) = some 4 := by decide +kernel
theorem wm_X11_odds : Cond.instanceMethod yX11_odds ∈ UW := (uw_t 1840 (by decide +kernel) (by decide +kernel))
theorem ws_X11_odds : Cond.selects yX11_odds.cls yX11_odds yX11_odds ∈ UW := (uw_t 1841 (by decide +kernel) (by decide +kernel))
theorem mv_R_law_138 : MV R_law 138 yX11_odds cX11_odds 7 (some .long) 4 := ⟨⟨(uw_t 1839 (by decide +kernel) (by decide +kernel)), wm_X11_odds, ws_X11_odds, wi_RX11, wc_X11_odds⟩, wp_X11_odds⟩
theorem wc_X10_hire : Cond.code yX10_hire cX10_hire 3 (some .int) ∈ UW := (uw_t 1132 (by decide +kernel) (by decide +kernel))
theorem wp_X10_hire : yX10_hire.cls ≠ "java/lang/invoke/MethodHandle" ∧ yX10_hire.cls ≠ "java/lang/invoke/VarHandle" ∧ (parseMethodDescriptor yX10_hire.desc).map (fun d => d.parameters.length) = some 1 := by decide +kernel
theorem wm_X10_hire : Cond.instanceMethod yX10_hire ∈ UW := (uw_t 1130 (by decide +kernel) (by decide +kernel))
theorem ws_X10_hire : Cond.selects yX10_hire.cls yX10_hire yX10_hire ∈ UW := (uw_t 1131 (by decide +kernel) (by decide +kernel))
theorem mv_R_law_139 : MV R_law 139 yX10_hire cX10_hire 3 (some .int) 1 := ⟨⟨(uw_t 1129 (by decide +kernel) (by decide +kernel)), wm_X10_hire, ws_X10_hire, wi_RX10, wc_X10_hire⟩, wp_X10_hire⟩
theorem wc_X11_hire : Cond.code yX11_hire cX11_hire 3 (some .int) ∈ UW := (uw_t 1574 (by decide +kernel) (by decide +kernel))
theorem wp_X11_hire : yX11_hire.cls ≠ "java/lang/invoke/MethodHandle" ∧ yX11_hire.cls ≠ "java/lang/invoke/VarHandle" ∧ (parseMethodDescriptor yX11_hire.desc).map (fun d => d.parameters.length) = some 1 := by decide +kernel
theorem wm_X11_hire : Cond.instanceMethod yX11_hire ∈ UW := (uw_t 1572 (by decide +kernel) (by decide +kernel))
theorem ws_X11_hire : Cond.selects yX11_hire.cls yX11_hire yX11_hire ∈ UW := (uw_t 1573 (by decide +kernel) (by decide +kernel))
theorem mv_R_law_142 : MV R_law 142 yX11_hire cX11_hire 3 (some .int) 1 := ⟨⟨(uw_t 1571 (by decide +kernel) (by decide +kernel)), wm_X11_hire, ws_X11_hire, wi_RX11, wc_X11_hire⟩, wp_X11_hire⟩
theorem wc_X10_shift : Cond.code yX10_shift cX10_shift 4 (some .int) ∈ UW := (uw_t 1144 (by decide +kernel) (by decide +kernel))
theorem wp_X10_shift : yX10_shift.cls ≠ "java/lang/invoke/MethodHandle" ∧ yX10_shift.cls ≠ "java/lang/invoke/VarHandle" ∧ (parseMethodDescriptor yX10_shift.desc).map (fun d => d.parameters.length) = some 2 := by decide +kernel
theorem wm_X10_shift : Cond.instanceMethod yX10_shift ∈ UW := (uw_t 1142 (by decide +kernel) (by decide +kernel))
theorem ws_X10_shift : Cond.selects yX10_shift.cls yX10_shift yX10_shift ∈ UW := (uw_t 1143 (by decide +kernel) (by decide +kernel))
theorem mv_R_law_143 : MV R_law 143 yX10_shift cX10_shift 4 (some .int) 2 := ⟨⟨(uw_t 1141 (by decide +kernel) (by decide +kernel)), wm_X10_shift, ws_X10_shift, wi_RX10, wc_X10_shift⟩, wp_X10_shift⟩
theorem wc_X11_shift : Cond.code yX11_shift cX11_shift 3 (some .int) ∈ UW := (uw_t 1590 (by decide +kernel) (by decide +kernel))
theorem wp_X11_shift : yX11_shift.cls ≠ "java/lang/invoke/MethodHandle" ∧ yX11_shift.cls ≠ "java/lang/invoke/VarHandle" ∧ (parseMethodDescriptor yX11_shift.desc).map (fun d => d.parameters.length) = some 2 := by decide +kernel
theorem wm_X11_shift : Cond.instanceMethod yX11_shift ∈ UW := (uw_t 1588 (by decide +kernel) (by decide +kernel))
theorem ws_X11_shift : Cond.selects yX11_shift.cls yX11_shift yX11_shift ∈ UW := (uw_t 1589 (by decide +kernel) (by decide +kernel))
theorem mv_R_law_146 : MV R_law 146 yX11_shift cX11_shift 3 (some .int) 2 := ⟨⟨(uw_t 1587 (by decide +kernel) (by decide +kernel)), wm_X11_shift, ws_X11_shift, wi_RX11, wc_X11_shift⟩, wp_X11_shift⟩
theorem wc_X10_tuned : Cond.code yX10_tuned cX10_tuned 5 (some .int) ∈ UW := (uw_t 1152 (by decide +kernel) (by decide +kernel))
theorem wp_X10_tuned : yX10_tuned.cls ≠ "java/lang/invoke/MethodHandle" ∧ yX10_tuned.cls ≠ "java/lang/invoke/VarHandle" ∧ (parseMethodDescriptor yX10_tuned.desc).map (fun d => d.parameters.length) = some 1 := by decide +kernel
theorem wm_X10_tuned : Cond.instanceMethod yX10_tuned ∈ UW := (uw_t 1150 (by decide +kernel) (by decide +kernel))
theorem ws_X10_tuned : Cond.selects yX10_tuned.cls yX10_tuned yX10_tuned ∈ UW := (uw_t 1151 (by decide +kernel) (by decide +kernel))
theorem mv_R_law_147 : MV R_law 147 yX10_tuned cX10_tuned 5 (some .int) 1 := ⟨⟨(uw_t 1149 (by decide +kernel) (by decide +kernel)), wm_X10_tuned, ws_X10_tuned, wi_RX10, wc_X10_tuned⟩, wp_X10_tuned⟩
theorem wc_X11_tuned : Cond.code yX11_tuned cX11_tuned 4 (some .int) ∈ UW := (uw_t 1598 (by decide +kernel) (by decide +kernel))
theorem wp_X11_tuned : yX11_tuned.cls ≠ "java/lang/invoke/MethodHandle" ∧ yX11_tuned.cls ≠ "java/lang/invoke/VarHandle" ∧ (parseMethodDescriptor yX11_tuned.desc).map (fun d => d.parameters.length) = some 1 := by decide +kernel
theorem wm_X11_tuned : Cond.instanceMethod yX11_tuned ∈ UW := (uw_t 1596 (by decide +kernel) (by decide +kernel))
theorem ws_X11_tuned : Cond.selects yX11_tuned.cls yX11_tuned yX11_tuned ∈ UW := (uw_t 1597 (by decide +kernel) (by decide +kernel))
theorem mv_R_law_150 : MV R_law 150 yX11_tuned cX11_tuned 4 (some .int) 1 := ⟨⟨(uw_t 1595 (by decide +kernel) (by decide +kernel)), wm_X11_tuned, ws_X11_tuned, wi_RX11, wc_X11_tuned⟩, wp_X11_tuned⟩
theorem wc_X10_landing : Cond.code yX10_landing cX10_landing 5 (some .int) ∈ UW := (uw_t 1156 (by decide +kernel) (by decide +kernel))
theorem wp_X10_landing : yX10_landing.cls ≠ "java/lang/invoke/MethodHandle" ∧ yX10_landing.cls ≠ "java/lang/invoke/VarHandle" ∧ (parseMethodDescriptor yX10_landing.desc).map (fun d => d.parameters.length) = some 2 := by decide +kernel
theorem wm_X10_landing : Cond.instanceMethod yX10_landing ∈ UW := (uw_t 1154 (by decide +kernel) (by decide +kernel))
theorem ws_X10_landing : Cond.selects yX10_landing.cls yX10_landing yX10_landing ∈ UW := (uw_t 1155 (by decide +kernel) (by decide +kernel))
theorem mv_R_law_151 : MV R_law 151 yX10_landing cX10_landing 5 (some .int) 2 := ⟨⟨(uw_t 1153 (by decide +kernel) (by decide +kernel)), wm_X10_landing, ws_X10_landing, wi_RX10, wc_X10_landing⟩, wp_X10_landing⟩
theorem wc_X11_landing : Cond.code yX11_landing cX11_landing 5 (some .int) ∈ UW := (uw_t 1678 (by decide +kernel) (by decide +kernel))
theorem wp_X11_landing : yX11_landing.cls ≠ "java/lang/invoke/MethodHandle" ∧ yX11_landing.cls ≠ "java/lang/invoke/VarHandle" ∧ (parseMethodDescriptor yX11_landing.desc).map (fun d => d.parameters.length) = some 2 := by decide +kernel
theorem wm_X11_landing : Cond.instanceMethod yX11_landing ∈ UW := (uw_t 1676 (by decide +kernel) (by decide +kernel))
theorem ws_X11_landing : Cond.selects yX11_landing.cls yX11_landing yX11_landing ∈ UW := (uw_t 1677 (by decide +kernel) (by decide +kernel))
theorem mv_R_law_154 : MV R_law 154 yX11_landing cX11_landing 5 (some .int) 2 := ⟨⟨(uw_t 1675 (by decide +kernel) (by decide +kernel)), wm_X11_landing, ws_X11_landing, wi_RX11, wc_X11_landing⟩, wp_X11_landing⟩
theorem wc_X10_count : Cond.code yX10_count cX10_count 2 (some .int) ∈ UW := (uw_t 1165 (by decide +kernel) (by decide +kernel))
theorem wp_X10_count : yX10_count.cls ≠ "java/lang/invoke/MethodHandle" ∧ yX10_count.cls ≠ "java/lang/invoke/VarHandle" ∧ (parseMethodDescriptor yX10_count.desc).map (fun d => d.parameters.length) = some 1 := by decide +kernel
theorem wm_X10_count : Cond.instanceMethod yX10_count ∈ UW := (uw_t 1163 (by decide +kernel) (by decide +kernel))
theorem ws_X10_count : Cond.selects yX10_count.cls yX10_count yX10_count ∈ UW := (uw_t 1164 (by decide +kernel) (by decide +kernel))
theorem mv_R_law_155 : MV R_law 155 yX10_count cX10_count 2 (some .int) 1 := ⟨⟨(uw_t 1162 (by decide +kernel) (by decide +kernel)), wm_X10_count, ws_X10_count, wi_RX10, wc_X10_count⟩, wp_X10_count⟩
theorem wc_X11_count : Cond.code yX11_count cX11_count 2 (some .int) ∈ UW := (uw_t 1859 (by decide +kernel) (by decide +kernel))
theorem wp_X11_count : yX11_count.cls ≠ "java/lang/invoke/MethodHandle" ∧ yX11_count.cls ≠ "java/lang/invoke/VarHandle" ∧ (parseMethodDescriptor yX11_count.desc).map (fun d => d.parameters.length) = some 1 := by decide +kernel
theorem wm_X11_count : Cond.instanceMethod yX11_count ∈ UW := (uw_t 1857 (by decide +kernel) (by decide +kernel))
theorem ws_X11_count : Cond.selects yX11_count.cls yX11_count yX11_count ∈ UW := (uw_t 1858 (by decide +kernel) (by decide +kernel))
theorem mv_R_law_158 : MV R_law 158 yX11_count cX11_count 2 (some .int) 1 := ⟨⟨(uw_t 1856 (by decide +kernel) (by decide +kernel)), wm_X11_count, ws_X11_count, wi_RX11, wc_X11_count⟩, wp_X11_count⟩
theorem wc_X10_image : Cond.code yX10_image cX10_image 2 (some .boolean) ∈ UW := (uw_t 1169 (by decide +kernel) (by decide +kernel))
theorem wp_X10_image : yX10_image.cls ≠ "java/lang/invoke/MethodHandle" ∧ yX10_image.cls ≠ "java/lang/invoke/VarHandle" ∧ (parseMethodDescriptor yX10_image.desc).map (fun d => d.parameters.length) = some 1 := by decide +kernel
theorem wm_X10_image : Cond.instanceMethod yX10_image ∈ UW := (uw_t 1167 (by decide +kernel) (by decide +kernel))
theorem ws_X10_image : Cond.selects yX10_image.cls yX10_image yX10_image ∈ UW := (uw_t 1168 (by decide +kernel) (by decide +kernel))
theorem mv_R_law_159 : MV R_law 159 yX10_image cX10_image 2 (some .boolean) 1 := ⟨⟨(uw_t 1166 (by decide +kernel) (by decide +kernel)), wm_X10_image, ws_X10_image, wi_RX10, wc_X10_image⟩, wp_X10_image⟩
theorem wc_X11_image : Cond.code yX11_image cX11_image 3 (some .boolean) ∈ UW := (uw_t 1863 (by decide +kernel) (by decide +kernel))
theorem wp_X11_image : yX11_image.cls ≠ "java/lang/invoke/MethodHandle" ∧ yX11_image.cls ≠ "java/lang/invoke/VarHandle" ∧ (parseMethodDescriptor yX11_image.desc).map (fun d => d.parameters.length) = some 1 := by decide +kernel
theorem wm_X11_image : Cond.instanceMethod yX11_image ∈ UW := (uw_t 1861 (by decide +kernel) (by decide +kernel))
theorem ws_X11_image : Cond.selects yX11_image.cls yX11_image yX11_image ∈ UW := (uw_t 1862 (by decide +kernel) (by decide +kernel))
theorem mv_R_law_163 : MV R_law 163 yX11_image cX11_image 3 (some .boolean) 1 := ⟨⟨(uw_t 1860 (by decide +kernel) (by decide +kernel)), wm_X11_image, ws_X11_image, wi_RX11, wc_X11_image⟩, wp_X11_image⟩
theorem wc_X10_again : Cond.code yX10_again cX10_again 2 (some .boolean) ∈ UW := (uw_t 1178 (by decide +kernel) (by decide +kernel))
theorem wp_X10_again : yX10_again.cls ≠ "java/lang/invoke/MethodHandle" ∧ yX10_again.cls ≠ "java/lang/invoke/VarHandle" ∧ (parseMethodDescriptor yX10_again.desc).map (fun d => d.parameters.length) = some 1 := by decide +kernel
theorem wm_X10_again : Cond.instanceMethod yX10_again ∈ UW := (uw_t 1176 (by decide +kernel) (by decide +kernel))
theorem ws_X10_again : Cond.selects yX10_again.cls yX10_again yX10_again ∈ UW := (uw_t 1177 (by decide +kernel) (by decide +kernel))
theorem mv_R_law_164 : MV R_law 164 yX10_again cX10_again 2 (some .boolean) 1 := ⟨⟨(uw_t 1175 (by decide +kernel) (by decide +kernel)), wm_X10_again, ws_X10_again, wi_RX10, wc_X10_again⟩, wp_X10_again⟩
theorem wc_X11_again : Cond.code yX11_again cX11_again 3 (some .boolean) ∈ UW := (uw_t 1867 (by decide +kernel) (by decide +kernel))
theorem wp_X11_again : yX11_again.cls ≠ "java/lang/invoke/MethodHandle" ∧ yX11_again.cls ≠ "java/lang/invoke/VarHandle" ∧ (parseMethodDescriptor yX11_again.desc).map (fun d => d.parameters.length) = some 1 := by decide +kernel
theorem wm_X11_again : Cond.instanceMethod yX11_again ∈ UW := (uw_t 1865 (by decide +kernel) (by decide +kernel))
theorem ws_X11_again : Cond.selects yX11_again.cls yX11_again yX11_again ∈ UW := (uw_t 1866 (by decide +kernel) (by decide +kernel))
theorem mv_R_law_167 : MV R_law 167 yX11_again cX11_again 3 (some .boolean) 1 := ⟨⟨(uw_t 1864 (by decide +kernel) (by decide +kernel)), wm_X11_again, ws_X11_again, wi_RX11, wc_X11_again⟩, wp_X11_again⟩
theorem wc_X11_feed : Cond.code yX11_feed cX11_feed 8 (some .int) ∈ UW := (uw_t 1342 (by decide +kernel) (by decide +kernel))
theorem wp_X11_feed : yX11_feed.cls ≠ "java/lang/invoke/MethodHandle" ∧ yX11_feed.cls ≠ "java/lang/invoke/VarHandle" ∧ (parseMethodDescriptor yX11_feed.desc).map (fun d => d.parameters.length) = some 5 := by decide +kernel
theorem wm_X11_feed : Cond.instanceMethod yX11_feed ∈ UW := (uw_t 1340 (by decide +kernel) (by decide +kernel))
theorem ws_X11_feed : Cond.selects yX11_feed.cls yX11_feed yX11_feed ∈ UW := (uw_t 1341 (by decide +kernel) (by decide +kernel))
theorem mv_R_law_17 : MV R_law 17 yX11_feed cX11_feed 8 (some .int) 5 := ⟨⟨(uw_t 1339 (by decide +kernel) (by decide +kernel)), wm_X11_feed, ws_X11_feed, wi_RX11, wc_X11_feed⟩, wp_X11_feed⟩
theorem wc_X10_end : Cond.code yX10_end cX10_end 2 (some .int) ∈ UW := (uw_t 453 (by decide +kernel) (by decide +kernel))
theorem wp_X10_end : yX10_end.cls ≠ "java/lang/invoke/MethodHandle" ∧ yX10_end.cls ≠ "java/lang/invoke/VarHandle" ∧ (parseMethodDescriptor yX10_end.desc).map (fun d => d.parameters.length) = some 1 := by decide +kernel
theorem wm_X10_end : Cond.instanceMethod yX10_end ∈ UW := (uw_t 451 (by decide +kernel) (by decide +kernel))
theorem ws_X10_end : Cond.selects yX10_end.cls yX10_end yX10_end ∈ UW := (uw_t 452 (by decide +kernel) (by decide +kernel))
theorem mv_R_law_18 : MV R_law 18 yX10_end cX10_end 2 (some .int) 1 := ⟨⟨(uw_t 450 (by decide +kernel) (by decide +kernel)), wm_X10_end, ws_X10_end, wi_RX10, wc_X10_end⟩, wp_X10_end⟩
theorem wc_X11_end : Cond.code yX11_end cX11_end 2 (some .int) ∈ UW := (uw_t 1346 (by decide +kernel) (by decide +kernel))
theorem wp_X11_end : yX11_end.cls ≠ "java/lang/invoke/MethodHandle" ∧ yX11_end.cls ≠ "java/lang/invoke/VarHandle" ∧ (parseMethodDescriptor yX11_end.desc).map (fun d => d.parameters.length) = some 1 := by decide +kernel
theorem wm_X11_end : Cond.instanceMethod yX11_end ∈ UW := (uw_t 1344 (by decide +kernel) (by decide +kernel))
theorem ws_X11_end : Cond.selects yX11_end.cls yX11_end yX11_end ∈ UW := (uw_t 1345 (by decide +kernel) (by decide +kernel))
theorem mv_R_law_22 : MV R_law 22 yX11_end cX11_end 2 (some .int) 1 := ⟨⟨(uw_t 1343 (by decide +kernel) (by decide +kernel)), wm_X11_end, ws_X11_end, wi_RX11, wc_X11_end⟩, wp_X11_end⟩
theorem wc_X10_text : Cond.code yX10_text cX10_text 5 (some .int) ∈ UW := (uw_t 457 (by decide +kernel) (by decide +kernel))
theorem wp_X10_text : yX10_text.cls ≠ "java/lang/invoke/MethodHandle" ∧ yX10_text.cls ≠ "java/lang/invoke/VarHandle" ∧ (parseMethodDescriptor yX10_text.desc).map (fun d => d.parameters.length) = some 2 := by decide +kernel
theorem wm_X10_text : Cond.instanceMethod yX10_text ∈ UW := (uw_t 455 (by decide +kernel) (by decide +kernel))
theorem ws_X10_text : Cond.selects yX10_text.cls yX10_text yX10_text ∈ UW := (uw_t 456 (by decide +kernel) (by decide +kernel))
theorem mv_R_law_23 : MV R_law 23 yX10_text cX10_text 5 (some .int) 2 := ⟨⟨(uw_t 454 (by decide +kernel) (by decide +kernel)), wm_X10_text, ws_X10_text, wi_RX10, wc_X10_text⟩, wp_X10_text⟩
theorem wc_X11_text : Cond.code yX11_text cX11_text 5 (some .int) ∈ UW := (uw_t 1350 (by decide +kernel) (by decide +kernel))
theorem wp_X11_text : yX11_text.cls ≠ "java/lang/invoke/MethodHandle" ∧ yX11_text.cls ≠ "java/lang/invoke/VarHandle" ∧ (parseMethodDescriptor yX11_text.desc).map (fun d => d.parameters.length) = some 2 := by decide +kernel
theorem wm_X11_text : Cond.instanceMethod yX11_text ∈ UW := (uw_t 1348 (by decide +kernel) (by decide +kernel))
theorem ws_X11_text : Cond.selects yX11_text.cls yX11_text yX11_text ∈ UW := (uw_t 1349 (by decide +kernel) (by decide +kernel))
theorem mv_R_law_27 : MV R_law 27 yX11_text cX11_text 5 (some .int) 2 := ⟨⟨(uw_t 1347 (by decide +kernel) (by decide +kernel)), wm_X11_text, ws_X11_text, wi_RX11, wc_X11_text⟩, wp_X11_text⟩
theorem wc_X10_fault : Cond.code yX10_fault cX10_fault 2 (some .int) ∈ UW := (uw_t 632 (by decide +kernel) (by decide +kernel))
theorem wp_X10_fault : yX10_fault.cls ≠ "java/lang/invoke/MethodHandle" ∧ yX10_fault.cls ≠ "java/lang/invoke/VarHandle" ∧ (parseMethodDescriptor yX10_fault.desc).map (fun d => d.parameters.length) = some 1 := by decide +kernel
theorem wm_X10_fault : Cond.instanceMethod yX10_fault ∈ UW := (uw_t 630 (by decide +kernel) (by decide +kernel))
theorem ws_X10_fault : Cond.selects yX10_fault.cls yX10_fault yX10_fault ∈ UW := (uw_t 631 (by decide +kernel) (by decide +kernel))
theorem mv_R_law_28 : MV R_law 28 yX10_fault cX10_fault 2 (some .int) 1 := ⟨⟨(uw_t 629 (by decide +kernel) (by decide +kernel)), wm_X10_fault, ws_X10_fault, wi_RX10, wc_X10_fault⟩, wp_X10_fault⟩
theorem wc_X11_fault : Cond.code yX11_fault cX11_fault 2 (some .int) ∈ UW := (uw_t 1441 (by decide +kernel) (by decide +kernel))
theorem wp_X11_fault : yX11_fault.cls ≠ "java/lang/invoke/MethodHandle" ∧ yX11_fault.cls ≠ "java/lang/invoke/VarHandle" ∧ (parseMethodDescriptor yX11_fault.desc).map (fun d => d.parameters.length) = some 1 := by decide +kernel
theorem wm_X11_fault : Cond.instanceMethod yX11_fault ∈ UW := (uw_t 1439 (by decide +kernel) (by decide +kernel))
theorem ws_X11_fault : Cond.selects yX11_fault.cls yX11_fault yX11_fault ∈ UW := (uw_t 1440 (by decide +kernel) (by decide +kernel))
theorem mv_R_law_31 : MV R_law 31 yX11_fault cX11_fault 2 (some .int) 1 := ⟨⟨(uw_t 1438 (by decide +kernel) (by decide +kernel)), wm_X11_fault, ws_X11_fault, wi_RX11, wc_X11_fault⟩, wp_X11_fault⟩
theorem wc_X10_house : Cond.code yX10_house cX10_house 4 (some .int) ∈ UW := (uw_t 636 (by decide +kernel) (by decide +kernel))
theorem wp_X10_house : yX10_house.cls ≠ "java/lang/invoke/MethodHandle" ∧ yX10_house.cls ≠ "java/lang/invoke/VarHandle" ∧ (parseMethodDescriptor yX10_house.desc).map (fun d => d.parameters.length) = some 2 := by decide +kernel
theorem wm_X10_house : Cond.instanceMethod yX10_house ∈ UW := (uw_t 634 (by decide +kernel) (by decide +kernel))
theorem ws_X10_house : Cond.selects yX10_house.cls yX10_house yX10_house ∈ UW := (uw_t 635 (by decide +kernel) (by decide +kernel))
theorem mv_R_law_32 : MV R_law 32 yX10_house cX10_house 4 (some .int) 2 := ⟨⟨(uw_t 633 (by decide +kernel) (by decide +kernel)), wm_X10_house, ws_X10_house, wi_RX10, wc_X10_house⟩, wp_X10_house⟩
theorem wc_X11_house : Cond.code yX11_house cX11_house 4 (some .int) ∈ UW := (uw_t 1445 (by decide +kernel) (by decide +kernel))
theorem wp_X11_house : yX11_house.cls ≠ "java/lang/invoke/MethodHandle" ∧ yX11_house.cls ≠ "java/lang/invoke/VarHandle" ∧ (parseMethodDescriptor yX11_house.desc).map (fun d => d.parameters.length) = some 2 := by decide +kernel
theorem wm_X11_house : Cond.instanceMethod yX11_house ∈ UW := (uw_t 1443 (by decide +kernel) (by decide +kernel))
theorem ws_X11_house : Cond.selects yX11_house.cls yX11_house yX11_house ∈ UW := (uw_t 1444 (by decide +kernel) (by decide +kernel))
theorem mv_R_law_35 : MV R_law 35 yX11_house cX11_house 4 (some .int) 2 := ⟨⟨(uw_t 1442 (by decide +kernel) (by decide +kernel)), wm_X11_house, ws_X11_house, wi_RX11, wc_X11_house⟩, wp_X11_house⟩
theorem wc_X10_deed : Cond.code yX10_deed cX10_deed 4 (some .int) ∈ UW := (uw_t 660 (by decide +kernel) (by decide +kernel))
theorem wp_X10_deed : yX10_deed.cls ≠ "java/lang/invoke/MethodHandle" ∧ yX10_deed.cls ≠ "java/lang/invoke/VarHandle" ∧ (parseMethodDescriptor yX10_deed.desc).map (fun d => d.parameters.length) = some 3 := by decide +kernel
theorem wm_X10_deed : Cond.instanceMethod yX10_deed ∈ UW := (uw_t 658 (by decide +kernel) (by decide +kernel))
theorem ws_X10_deed : Cond.selects yX10_deed.cls yX10_deed yX10_deed ∈ UW := (uw_t 659 (by decide +kernel) (by decide +kernel))
theorem mv_R_law_36 : MV R_law 36 yX10_deed cX10_deed 4 (some .int) 3 := ⟨⟨(uw_t 657 (by decide +kernel) (by decide +kernel)), wm_X10_deed, ws_X10_deed, wi_RX10, wc_X10_deed⟩, wp_X10_deed⟩
theorem wc_X11_deed : Cond.code yX11_deed cX11_deed 4 (some .int) ∈ UW := (uw_t 1746 (by decide +kernel) (by decide +kernel))
theorem wp_X11_deed : yX11_deed.cls ≠ "java/lang/invoke/MethodHandle" ∧ yX11_deed.cls ≠ "java/lang/invoke/VarHandle" ∧ (parseMethodDescriptor yX11_deed.desc).map (fun d => d.parameters.length) = some 3 := by decide +kernel
theorem wm_X11_deed : Cond.instanceMethod yX11_deed ∈ UW := (uw_t 1744 (by decide +kernel) (by decide +kernel))
theorem ws_X11_deed : Cond.selects yX11_deed.cls yX11_deed yX11_deed ∈ UW := (uw_t 1745 (by decide +kernel) (by decide +kernel))
theorem mv_R_law_40 : MV R_law 40 yX11_deed cX11_deed 4 (some .int) 3 := ⟨⟨(uw_t 1743 (by decide +kernel) (by decide +kernel)), wm_X11_deed, ws_X11_deed, wi_RX11, wc_X11_deed⟩, wp_X11_deed⟩
theorem wc_X10_stop : Cond.code yX10_stop cX10_stop 5 (some .int) ∈ UW := (uw_t 672 (by decide +kernel) (by decide +kernel))
theorem wp_X10_stop : yX10_stop.cls ≠ "java/lang/invoke/MethodHandle" ∧ yX10_stop.cls ≠ "java/lang/invoke/VarHandle" ∧ (parseMethodDescriptor yX10_stop.desc).map (fun d => d.parameters.length) = some 2 := by decide +kernel
theorem wm_X10_stop : Cond.instanceMethod yX10_stop ∈ UW := (uw_t 670 (by decide +kernel) (by decide +kernel))
theorem ws_X10_stop : Cond.selects yX10_stop.cls yX10_stop yX10_stop ∈ UW := (uw_t 671 (by decide +kernel) (by decide +kernel))
theorem mv_R_law_41 : MV R_law 41 yX10_stop cX10_stop 5 (some .int) 2 := ⟨⟨(uw_t 669 (by decide +kernel) (by decide +kernel)), wm_X10_stop, ws_X10_stop, wi_RX10, wc_X10_stop⟩, wp_X10_stop⟩
theorem wc_X11_stop : Cond.code yX11_stop cX11_stop 3 (some .int) ∈ UW := (uw_t 1754 (by decide +kernel) (by decide +kernel))
theorem wp_X11_stop : yX11_stop.cls ≠ "java/lang/invoke/MethodHandle" ∧ yX11_stop.cls ≠ "java/lang/invoke/VarHandle" ∧ (parseMethodDescriptor yX11_stop.desc).map (fun d => d.parameters.length) = some 2 := by decide +kernel
theorem wm_X11_stop : Cond.instanceMethod yX11_stop ∈ UW := (uw_t 1752 (by decide +kernel) (by decide +kernel))
theorem ws_X11_stop : Cond.selects yX11_stop.cls yX11_stop yX11_stop ∈ UW := (uw_t 1753 (by decide +kernel) (by decide +kernel))
theorem mv_R_law_44 : MV R_law 44 yX11_stop cX11_stop 3 (some .int) 2 := ⟨⟨(uw_t 1751 (by decide +kernel) (by decide +kernel)), wm_X11_stop, ws_X11_stop, wi_RX11, wc_X11_stop⟩, wp_X11_stop⟩
theorem wc_X10_state : Cond.code yX10_state cX10_state 7 (some .int) ∈ UW := (uw_t 742 (by decide +kernel) (by decide +kernel))
theorem wp_X10_state : yX10_state.cls ≠ "java/lang/invoke/MethodHandle" ∧ yX10_state.cls ≠ "java/lang/invoke/VarHandle" ∧ (parseMethodDescriptor yX10_state.desc).map (fun d => d.parameters.length) = some 4 := by decide +kernel
theorem wm_X10_state : Cond.instanceMethod yX10_state ∈ UW := (uw_t 740 (by decide +kernel) (by decide +kernel))
theorem ws_X10_state : Cond.selects yX10_state.cls yX10_state yX10_state ∈ UW := (uw_t 741 (by decide +kernel) (by decide +kernel))
theorem mv_R_law_45 : MV R_law 45 yX10_state cX10_state 7 (some .int) 4 := ⟨⟨(uw_t 739 (by decide +kernel) (by decide +kernel)), wm_X10_state, ws_X10_state, wi_RX10, wc_X10_state⟩, wp_X10_state⟩
theorem wc_X11_state : Cond.code yX11_state cX11_state 5 (some .int) ∈ UW := (uw_t 1802 (by decide +kernel) (by decide +kernel))
theorem wp_X11_state : yX11_state.cls ≠ "java/lang/invoke/MethodHandle" ∧ yX11_state.cls ≠ "java/lang/invoke/VarHandle" ∧ (parseMethodDescriptor yX11_state.desc).map (fun d => d.parameters.length) = some 4 := by decide +kernel
theorem wm_X11_state : Cond.instanceMethod yX11_state ∈ UW := (uw_t 1800 (by decide +kernel) (by decide +kernel))
theorem ws_X11_state : Cond.selects yX11_state.cls yX11_state yX11_state ∈ UW := (uw_t 1801 (by decide +kernel) (by decide +kernel))
theorem mv_R_law_49 : MV R_law 49 yX11_state cX11_state 5 (some .int) 4 := ⟨⟨(uw_t 1799 (by decide +kernel) (by decide +kernel)), wm_X11_state, ws_X11_state, wi_RX11, wc_X11_state⟩, wp_X11_state⟩
theorem wc_X10_rota : Cond.code yX10_rota cX10_rota 4 (some .int) ∈ UW := (uw_t 750 (by decide +kernel) (by decide +kernel))
theorem wp_X10_rota : yX10_rota.cls ≠ "java/lang/invoke/MethodHandle" ∧ yX10_rota.cls ≠ "java/lang/invoke/VarHandle" ∧ (parseMethodDescriptor yX10_rota.desc).map (fun d => d.parameters.length) = some 2 := by decide +kernel
theorem wm_X10_rota : Cond.instanceMethod yX10_rota ∈ UW := (uw_t 748 (by decide +kernel) (by decide +kernel))
theorem ws_X10_rota : Cond.selects yX10_rota.cls yX10_rota yX10_rota ∈ UW := (uw_t 749 (by decide +kernel) (by decide +kernel))
theorem mv_R_law_50 : MV R_law 50 yX10_rota cX10_rota 4 (some .int) 2 := ⟨⟨(uw_t 747 (by decide +kernel) (by decide +kernel)), wm_X10_rota, ws_X10_rota, wi_RX10, wc_X10_rota⟩, wp_X10_rota⟩
theorem wc_X11_rota : Cond.code yX11_rota cX11_rota 3 (some .int) ∈ UW := (uw_t 1473 (by decide +kernel) (by decide +kernel))
theorem wp_X11_rota : yX11_rota.cls ≠ "java/lang/invoke/MethodHandle" ∧ yX11_rota.cls ≠ "java/lang/invoke/VarHandle" ∧ (parseMethodDescriptor yX11_rota.desc).map (fun d => d.parameters.length) = some 2 := by decide +kernel
theorem wm_X11_rota : Cond.instanceMethod yX11_rota ∈ UW := (uw_t 1471 (by decide +kernel) (by decide +kernel))
theorem ws_X11_rota : Cond.selects yX11_rota.cls yX11_rota yX11_rota ∈ UW := (uw_t 1472 (by decide +kernel) (by decide +kernel))
theorem mv_R_law_53 : MV R_law 53 yX11_rota cX11_rota 3 (some .int) 2 := ⟨⟨(uw_t 1470 (by decide +kernel) (by decide +kernel)), wm_X11_rota, ws_X11_rota, wi_RX11, wc_X11_rota⟩, wp_X11_rota⟩
theorem wc_X10_few : Cond.code yX10_few cX10_few 5 (some .int) ∈ UW := (uw_t 792 (by decide +kernel) (by decide +kernel))
theorem wp_X10_few : yX10_few.cls ≠ "java/lang/invoke/MethodHandle" ∧ yX10_few.cls ≠ "java/lang/invoke/VarHandle" ∧ (parseMethodDescriptor yX10_few.desc).map (fun d => d.parameters.length) = some 2 := by decide +kernel
theorem wm_X10_few : Cond.instanceMethod yX10_few ∈ UW := (uw_t 790 (by decide +kernel) (by decide +kernel))
theorem ws_X10_few : Cond.selects yX10_few.cls yX10_few yX10_few ∈ UW := (uw_t 791 (by decide +kernel) (by decide +kernel))
theorem mv_R_law_54 : MV R_law 54 yX10_few cX10_few 5 (some .int) 2 := ⟨⟨(uw_t 789 (by decide +kernel) (by decide +kernel)), wm_X10_few, ws_X10_few, wi_RX10, wc_X10_few⟩, wp_X10_few⟩
theorem wc_X11_few : Cond.code yX11_few cX11_few 5 (some .int) ∈ UW := (uw_t 1518 (by decide +kernel) (by decide +kernel))
theorem wp_X11_few : yX11_few.cls ≠ "java/lang/invoke/MethodHandle" ∧ yX11_few.cls ≠ "java/lang/invoke/VarHandle" ∧ (parseMethodDescriptor yX11_few.desc).map (fun d => d.parameters.length) = some 2 := by decide +kernel
theorem wm_X11_few : Cond.instanceMethod yX11_few ∈ UW := (uw_t 1516 (by decide +kernel) (by decide +kernel))
theorem ws_X11_few : Cond.selects yX11_few.cls yX11_few yX11_few ∈ UW := (uw_t 1517 (by decide +kernel) (by decide +kernel))
theorem mv_R_law_58 : MV R_law 58 yX11_few cX11_few 5 (some .int) 2 := ⟨⟨(uw_t 1515 (by decide +kernel) (by decide +kernel)), wm_X11_few, ws_X11_few, wi_RX11, wc_X11_few⟩, wp_X11_few⟩
theorem wc_X10_far : Cond.code yX10_far cX10_far 4 (some .int) ∈ UW := (uw_t 815 (by decide +kernel) (by decide +kernel))
theorem wp_X10_far : yX10_far.cls ≠ "java/lang/invoke/MethodHandle" ∧ yX10_far.cls ≠ "java/lang/invoke/VarHandle" ∧ (parseMethodDescriptor yX10_far.desc).map (fun d => d.parameters.length) = some 2 := by decide +kernel
theorem wm_X10_far : Cond.instanceMethod yX10_far ∈ UW := (uw_t 813 (by decide +kernel) (by decide +kernel))
theorem ws_X10_far : Cond.selects yX10_far.cls yX10_far yX10_far ∈ UW := (uw_t 814 (by decide +kernel) (by decide +kernel))
theorem mv_R_law_59 : MV R_law 59 yX10_far cX10_far 4 (some .int) 2 := ⟨⟨(uw_t 812 (by decide +kernel) (by decide +kernel)), wm_X10_far, ws_X10_far, wi_RX10, wc_X10_far⟩, wp_X10_far⟩
theorem wc_X11_far : Cond.code yX11_far cX11_far 5 (some .int) ∈ UW := (uw_t 1525 (by decide +kernel) (by decide +kernel))
theorem wp_X11_far : yX11_far.cls ≠ "java/lang/invoke/MethodHandle" ∧ yX11_far.cls ≠ "java/lang/invoke/VarHandle" ∧ (parseMethodDescriptor yX11_far.desc).map (fun d => d.parameters.length) = some 2 := by decide +kernel
theorem wm_X11_far : Cond.instanceMethod yX11_far ∈ UW := (uw_t 1523 (by decide +kernel) (by decide +kernel))
theorem ws_X11_far : Cond.selects yX11_far.cls yX11_far yX11_far ∈ UW := (uw_t 1524 (by decide +kernel) (by decide +kernel))
theorem mv_R_law_62 : MV R_law 62 yX11_far cX11_far 5 (some .int) 2 := ⟨⟨(uw_t 1522 (by decide +kernel) (by decide +kernel)), wm_X11_far, ws_X11_far, wi_RX11, wc_X11_far⟩, wp_X11_far⟩
theorem wc_X10_wakes : Cond.code yX10_wakes cX10_wakes 4 (some .long) ∈ UW := (uw_t 833 (by decide +kernel) (by decide +kernel))
theorem wp_X10_wakes : yX10_wakes.cls ≠ "java/lang/invoke/MethodHandle" ∧ yX10_wakes.cls ≠ "java/lang/invoke/VarHandle" ∧ (parseMethodDescriptor yX10_wakes.desc).map (fun d => d.parameters.length) = some 2 := by decide +kernel
theorem wm_X10_wakes : Cond.instanceMethod yX10_wakes ∈ UW := (uw_t 831 (by decide +kernel) (by decide +kernel))
theorem ws_X10_wakes : Cond.selects yX10_wakes.cls yX10_wakes yX10_wakes ∈ UW := (uw_t 832 (by decide +kernel) (by decide +kernel))
theorem mv_R_law_63 : MV R_law 63 yX10_wakes cX10_wakes 4 (some .long) 2 := ⟨⟨(uw_t 830 (by decide +kernel) (by decide +kernel)), wm_X10_wakes, ws_X10_wakes, wi_RX10, wc_X10_wakes⟩, wp_X10_wakes⟩
theorem wc_X11_wakes : Cond.code yX11_wakes cX11_wakes 5 (some .long) ∈ UW := (uw_t 1602 (by decide +kernel) (by decide +kernel))
theorem wp_X11_wakes : yX11_wakes.cls ≠ "java/lang/invoke/MethodHandle" ∧ yX11_wakes.cls ≠ "java/lang/invoke/VarHandle" ∧ (parseMethodDescriptor yX11_wakes.desc).map (fun d => d.parameters.length) = some 2 := by decide +kernel
theorem wm_X11_wakes : Cond.instanceMethod yX11_wakes ∈ UW := (uw_t 1600 (by decide +kernel) (by decide +kernel))
theorem ws_X11_wakes : Cond.selects yX11_wakes.cls yX11_wakes yX11_wakes ∈ UW := (uw_t 1601 (by decide +kernel) (by decide +kernel))
theorem mv_R_law_67 : MV R_law 67 yX11_wakes cX11_wakes 5 (some .long) 2 := ⟨⟨(uw_t 1599 (by decide +kernel) (by decide +kernel)), wm_X11_wakes, ws_X11_wakes, wi_RX11, wc_X11_wakes⟩, wp_X11_wakes⟩
theorem wc_X10_change : Cond.code yX10_change cX10_change 3 (some .int) ∈ UW := (uw_t 859 (by decide +kernel) (by decide +kernel))
theorem wp_X10_change : yX10_change.cls ≠ "java/lang/invoke/MethodHandle" ∧ yX10_change.cls ≠ "java/lang/invoke/VarHandle" ∧ (parseMethodDescriptor yX10_change.desc).map (fun d => d.parameters.length) = some 1 := by decide +kernel
theorem wm_X10_change : Cond.instanceMethod yX10_change ∈ UW := (uw_t 857 (by decide +kernel) (by decide +kernel))
theorem ws_X10_change : Cond.selects yX10_change.cls yX10_change yX10_change ∈ UW := (uw_t 858 (by decide +kernel) (by decide +kernel))
theorem mv_R_law_68 : MV R_law 68 yX10_change cX10_change 3 (some .int) 1 := ⟨⟨(uw_t 856 (by decide +kernel) (by decide +kernel)), wm_X10_change, ws_X10_change, wi_RX10, wc_X10_change⟩, wp_X10_change⟩
theorem wc_X11_change : Cond.code yX11_change cX11_change 9 (some .int) ∈ UW := (uw_t 1630 (by decide +kernel) (by decide +kernel))
theorem wp_X11_change : yX11_change.cls ≠ "java/lang/invoke/MethodHandle" ∧ yX11_change.cls ≠ "java/lang/invoke/VarHandle" ∧ (parseMethodDescriptor yX11_change.desc).map (fun d => d.parameters.length) = some 1 := by decide +kernel
theorem wm_X11_change : Cond.instanceMethod yX11_change ∈ UW := (uw_t 1628 (by decide +kernel) (by decide +kernel))
theorem ws_X11_change : Cond.selects yX11_change.cls yX11_change yX11_change ∈ UW := (uw_t 1629 (by decide +kernel) (by decide +kernel))
theorem mv_R_law_71 : MV R_law 71 yX11_change cX11_change 9 (some .int) 1 := ⟨⟨(uw_t 1627 (by decide +kernel) (by decide +kernel)), wm_X11_change, ws_X11_change, wi_RX11, wc_X11_change⟩, wp_X11_change⟩
theorem wc_X10_tussle : Cond.code yX10_tussle cX10_tussle 5 (some .int) ∈ UW := (uw_t 872 (by decide +kernel) (by decide +kernel))
theorem wp_X10_tussle : yX10_tussle.cls ≠ "java/lang/invoke/MethodHandle" ∧ yX10_tussle.cls ≠ "java/lang/invoke/VarHandle" ∧ (parseMethodDescriptor yX10_tussle.desc).map (fun d => d.parameters.length) = some 3 := by decide +kernel
theorem wm_X10_tussle : Cond.instanceMethod yX10_tussle ∈ UW := (uw_t 870 (by decide +kernel) (by decide +kernel))
theorem ws_X10_tussle : Cond.selects yX10_tussle.cls yX10_tussle yX10_tussle ∈ UW := (uw_t 871 (by decide +kernel) (by decide +kernel))
theorem mv_R_law_72 : MV R_law 72 yX10_tussle cX10_tussle 5 (some .int) 3 := ⟨⟨(uw_t 869 (by decide +kernel) (by decide +kernel)), wm_X10_tussle, ws_X10_tussle, wi_RX10, wc_X10_tussle⟩, wp_X10_tussle⟩
theorem wc_X11_tussle : Cond.code yX11_tussle cX11_tussle 5 (some .int) ∈ UW := (uw_t 1686 (by decide +kernel) (by decide +kernel))
theorem wp_X11_tussle : yX11_tussle.cls ≠ "java/lang/invoke/MethodHandle" ∧ yX11_tussle.cls ≠ "java/lang/invoke/VarHandle" ∧ (parseMethodDescriptor yX11_tussle.desc).map (fun d => d.parameters.length) = some 3 := by decide +kernel
theorem wm_X11_tussle : Cond.instanceMethod yX11_tussle ∈ UW := (uw_t 1684 (by decide +kernel) (by decide +kernel))
theorem ws_X11_tussle : Cond.selects yX11_tussle.cls yX11_tussle yX11_tussle ∈ UW := (uw_t 1685 (by decide +kernel) (by decide +kernel))
theorem mv_R_law_76 : MV R_law 76 yX11_tussle cX11_tussle 5 (some .int) 3 := ⟨⟨(uw_t 1683 (by decide +kernel) (by decide +kernel)), wm_X11_tussle, ws_X11_tussle, wi_RX11, wc_X11_tussle⟩, wp_X11_tussle⟩
theorem wc_X10_tunes : Cond.code yX10_tunes cX10_tunes 5 (some .int) ∈ UW := (uw_t 896 (by decide +kernel) (by decide +kernel))
theorem wp_X10_tunes : yX10_tunes.cls ≠ "java/lang/invoke/MethodHandle" ∧ yX10_tunes.cls ≠ "java/lang/invoke/VarHandle" ∧ (parseMethodDescriptor yX10_tunes.desc).map (fun d => d.parameters.length) = some 2 := by decide +kernel
theorem wm_X10_tunes : Cond.instanceMethod yX10_tunes ∈ UW := (uw_t 894 (by decide +kernel) (by decide +kernel))
theorem ws_X10_tunes : Cond.selects yX10_tunes.cls yX10_tunes yX10_tunes ∈ UW := (uw_t 895 (by decide +kernel) (by decide +kernel))
theorem mv_R_law_77 : MV R_law 77 yX10_tunes cX10_tunes 5 (some .int) 2 := ⟨⟨(uw_t 893 (by decide +kernel) (by decide +kernel)), wm_X10_tunes, ws_X10_tunes, wi_RX10, wc_X10_tunes⟩, wp_X10_tunes⟩
theorem wc_X11_tunes : Cond.code yX11_tunes cX11_tunes 3 (some .int) ∈ UW := (uw_t 1710 (by decide +kernel) (by decide +kernel))
theorem wp_X11_tunes : yX11_tunes.cls ≠ "java/lang/invoke/MethodHandle" ∧ yX11_tunes.cls ≠ "java/lang/invoke/VarHandle" ∧ (parseMethodDescriptor yX11_tunes.desc).map (fun d => d.parameters.length) = some 2 := by decide +kernel
theorem wm_X11_tunes : Cond.instanceMethod yX11_tunes ∈ UW := (uw_t 1708 (by decide +kernel) (by decide +kernel))
theorem ws_X11_tunes : Cond.selects yX11_tunes.cls yX11_tunes yX11_tunes ∈ UW := (uw_t 1709 (by decide +kernel) (by decide +kernel))
theorem mv_R_law_80 : MV R_law 80 yX11_tunes cX11_tunes 3 (some .int) 2 := ⟨⟨(uw_t 1707 (by decide +kernel) (by decide +kernel)), wm_X11_tunes, ws_X11_tunes, wi_RX11, wc_X11_tunes⟩, wp_X11_tunes⟩
theorem wc_X10_fact : Cond.code yX10_fact cX10_fact 4 (some .int) ∈ UW := (uw_t 946 (by decide +kernel) (by decide +kernel))
theorem wp_X10_fact : yX10_fact.cls ≠ "java/lang/invoke/MethodHandle" ∧ yX10_fact.cls ≠ "java/lang/invoke/VarHandle" ∧ (parseMethodDescriptor yX10_fact.desc).map (fun d => d.parameters.length) = some 3 := by decide +kernel
theorem wm_X10_fact : Cond.instanceMethod yX10_fact ∈ UW := (uw_t 944 (by decide +kernel) (by decide +kernel))
theorem ws_X10_fact : Cond.selects yX10_fact.cls yX10_fact yX10_fact ∈ UW := (uw_t 945 (by decide +kernel) (by decide +kernel))
theorem mv_R_law_81 : MV R_law 81 yX10_fact cX10_fact 4 (some .int) 3 := ⟨⟨(uw_t 943 (by decide +kernel) (by decide +kernel)), wm_X10_fact, ws_X10_fact, wi_RX10, wc_X10_fact⟩, wp_X10_fact⟩
theorem wc_X11_fact : Cond.code yX11_fact cX11_fact 4 (some .int) ∈ UW := (uw_t 1814 (by decide +kernel) (by decide +kernel))
theorem wp_X11_fact : yX11_fact.cls ≠ "java/lang/invoke/MethodHandle" ∧ yX11_fact.cls ≠ "java/lang/invoke/VarHandle" ∧ (parseMethodDescriptor yX11_fact.desc).map (fun d => d.parameters.length) = some 3 := by decide +kernel
theorem wm_X11_fact : Cond.instanceMethod yX11_fact ∈ UW := (uw_t 1812 (by decide +kernel) (by decide +kernel))
theorem ws_X11_fact : Cond.selects yX11_fact.cls yX11_fact yX11_fact ∈ UW := (uw_t 1813 (by decide +kernel) (by decide +kernel))
theorem mv_R_law_84 : MV R_law 84 yX11_fact cX11_fact 4 (some .int) 3 := ⟨⟨(uw_t 1811 (by decide +kernel) (by decide +kernel)), wm_X11_fact, ws_X11_fact, wi_RX11, wc_X11_fact⟩, wp_X11_fact⟩
theorem wc_X10_fits : Cond.code yX10_fits cX10_fits 6 (some .int) ∈ UW := (uw_t 954 (by decide +kernel) (by decide +kernel))
theorem wp_X10_fits : yX10_fits.cls ≠ "java/lang/invoke/MethodHandle" ∧ yX10_fits.cls ≠ "java/lang/invoke/VarHandle" ∧ (parseMethodDescriptor yX10_fits.desc).map (fun d => d.parameters.length) = some 3 := by decide +kernel
theorem wm_X10_fits : Cond.instanceMethod yX10_fits ∈ UW := (uw_t 952 (by decide +kernel) (by decide +kernel))
theorem ws_X10_fits : Cond.selects yX10_fits.cls yX10_fits yX10_fits ∈ UW := (uw_t 953 (by decide +kernel) (by decide +kernel))
theorem mv_R_law_85 : MV R_law 85 yX10_fits cX10_fits 6 (some .int) 3 := ⟨⟨(uw_t 951 (by decide +kernel) (by decide +kernel)), wm_X10_fits, ws_X10_fits, wi_RX10, wc_X10_fits⟩, wp_X10_fits⟩
theorem wc_X11_fits : Cond.code yX11_fits cX11_fits 8 (some .int) ∈ UW := (uw_t 1822 (by decide +kernel) (by decide +kernel))
theorem wp_X11_fits : yX11_fits.cls ≠ "java/lang/invoke/MethodHandle" ∧ yX11_fits.cls ≠ "java/lang/invoke/VarHandle" ∧ (parseMethodDescriptor yX11_fits.desc).map (fun d => d.parameters.length) = some 3 := by decide +kernel
theorem wm_X11_fits : Cond.instanceMethod yX11_fits ∈ UW := (uw_t 1820 (by decide +kernel) (by decide +kernel))
theorem ws_X11_fits : Cond.selects yX11_fits.cls yX11_fits yX11_fits ∈ UW := (uw_t 1821 (by decide +kernel) (by decide +kernel))
theorem mv_R_law_88 : MV R_law 88 yX11_fits cX11_fits 8 (some .int) 3 := ⟨⟨(uw_t 1819 (by decide +kernel) (by decide +kernel)), wm_X11_fits, ws_X11_fits, wi_RX11, wc_X11_fits⟩, wp_X11_fits⟩
theorem wc_X10_drawn : Cond.code yX10_drawn cX10_drawn 6 (some .int) ∈ UW := (uw_t 989 (by decide +kernel) (by decide +kernel))
theorem wp_X10_drawn : yX10_drawn.cls ≠ "java/lang/invoke/MethodHandle" ∧ yX10_drawn.cls ≠ "java/lang/invoke/VarHandle" ∧ (parseMethodDescriptor yX10_drawn.desc).map (fun d => d.parameters.length) = some 4 := by decide +kernel
theorem wm_X10_drawn : Cond.instanceMethod yX10_drawn ∈ UW := (uw_t 987 (by decide +kernel) (by decide +kernel))
theorem ws_X10_drawn : Cond.selects yX10_drawn.cls yX10_drawn yX10_drawn ∈ UW := (uw_t 988 (by decide +kernel) (by decide +kernel))
theorem mv_R_law_89 : MV R_law 89 yX10_drawn cX10_drawn 6 (some .int) 4 := ⟨⟨(uw_t 986 (by decide +kernel) (by decide +kernel)), wm_X10_drawn, ws_X10_drawn, wi_RX10, wc_X10_drawn⟩, wp_X10_drawn⟩
theorem wc_X11_drawn : Cond.code yX11_drawn cX11_drawn 6 (some .int) ∈ UW := (uw_t 1846 (by decide +kernel) (by decide +kernel))
theorem wp_X11_drawn : yX11_drawn.cls ≠ "java/lang/invoke/MethodHandle" ∧ yX11_drawn.cls ≠ "java/lang/invoke/VarHandle" ∧ (parseMethodDescriptor yX11_drawn.desc).map (fun d => d.parameters.length) = some 4 := by decide +kernel
theorem wm_X11_drawn : Cond.instanceMethod yX11_drawn ∈ UW := (uw_t 1844 (by decide +kernel) (by decide +kernel))
theorem ws_X11_drawn : Cond.selects yX11_drawn.cls yX11_drawn yX11_drawn ∈ UW := (uw_t 1845 (by decide +kernel) (by decide +kernel))
theorem mv_R_law_92 : MV R_law 92 yX11_drawn cX11_drawn 6 (some .int) 4 := ⟨⟨(uw_t 1843 (by decide +kernel) (by decide +kernel)), wm_X11_drawn, ws_X11_drawn, wi_RX11, wc_X11_drawn⟩, wp_X11_drawn⟩
theorem wc_X10_sung : Cond.code yX10_sung cX10_sung 5 (some .int) ∈ UW := (uw_t 1006 (by decide +kernel) (by decide +kernel))
theorem wp_X10_sung : yX10_sung.cls ≠ "java/lang/invoke/MethodHandle" ∧ yX10_sung.cls ≠ "java/lang/invoke/VarHandle" ∧ (parseMethodDescriptor yX10_sung.desc).map (fun d => d.parameters.length) = some 3 := by decide +kernel
theorem wm_X10_sung : Cond.instanceMethod yX10_sung ∈ UW := (uw_t 1004 (by decide +kernel) (by decide +kernel))
theorem ws_X10_sung : Cond.selects yX10_sung.cls yX10_sung yX10_sung ∈ UW := (uw_t 1005 (by decide +kernel) (by decide +kernel))
theorem mv_R_law_93 : MV R_law 93 yX10_sung cX10_sung 5 (some .int) 3 := ⟨⟨(uw_t 1003 (by decide +kernel) (by decide +kernel)), wm_X10_sung, ws_X10_sung, wi_RX10, wc_X10_sung⟩, wp_X10_sung⟩
theorem wc_X11_sung : Cond.code yX11_sung cX11_sung 6 (some .int) ∈ UW := (uw_t 1537 (by decide +kernel) (by decide +kernel))
theorem wp_X11_sung : yX11_sung.cls ≠ "java/lang/invoke/MethodHandle" ∧ yX11_sung.cls ≠ "java/lang/invoke/VarHandle" ∧ (parseMethodDescriptor yX11_sung.desc).map (fun d => d.parameters.length) = some 3 := by decide +kernel
theorem wm_X11_sung : Cond.instanceMethod yX11_sung ∈ UW := (uw_t 1535 (by decide +kernel) (by decide +kernel))
theorem ws_X11_sung : Cond.selects yX11_sung.cls yX11_sung yX11_sung ∈ UW := (uw_t 1536 (by decide +kernel) (by decide +kernel))
theorem mv_R_law_96 : MV R_law 96 yX11_sung cX11_sung 6 (some .int) 3 := ⟨⟨(uw_t 1534 (by decide +kernel) (by decide +kernel)), wm_X11_sung, ws_X11_sung, wi_RX11, wc_X11_sung⟩, wp_X11_sung⟩
theorem wc_X10_spare : Cond.code yX10_spare cX10_spare 4 (some .int) ∈ UW := (uw_t 1019 (by decide +kernel) (by decide +kernel))
theorem wp_X10_spare : yX10_spare.cls ≠ "java/lang/invoke/MethodHandle" ∧ yX10_spare.cls ≠ "java/lang/invoke/VarHandle" ∧ (parseMethodDescriptor yX10_spare.desc).map (fun d => d.parameters.length) = some 2 := by decide +kernel
theorem wm_X10_spare : Cond.instanceMethod yX10_spare ∈ UW := (uw_t 1017 (by decide +kernel) (by decide +kernel))
theorem ws_X10_spare : Cond.selects yX10_spare.cls yX10_spare yX10_spare ∈ UW := (uw_t 1018 (by decide +kernel) (by decide +kernel))
theorem mv_R_law_97 : MV R_law 97 yX10_spare cX10_spare 4 (some .int) 2 := ⟨⟨(uw_t 1016 (by decide +kernel) (by decide +kernel)), wm_X10_spare, ws_X10_spare, wi_RX10, wc_X10_spare⟩, wp_X10_spare⟩
