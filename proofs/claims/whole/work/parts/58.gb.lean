/-! every method by its number, printed by a few lines of wip/whole/mk.py -/
set_option maxRecDepth 20000 in
theorem gb_0 (C : gOrc) : (gBods C)[0]? = some (bX0_init C) := rfl
set_option maxRecDepth 20000 in
theorem gb_1 (C : gOrc) : (gBods C)[1]? = some (bX0_begin C) := rfl
set_option maxRecDepth 20000 in
theorem gb_2 (C : gOrc) : (gBods C)[2]? = some (bX0_morning C) := rfl
set_option maxRecDepth 20000 in
theorem gb_3 (C : gOrc) : (gBods C)[3]? = some (bX0_evening C) := rfl
set_option maxRecDepth 20000 in
theorem gb_4 (C : gOrc) : (gBods C)[4]? = some (bX0_night C) := rfl
set_option maxRecDepth 20000 in
theorem gb_5 (C : gOrc) : (gBods C)[5]? = some (bX0_exchange C) := rfl
set_option maxRecDepth 20000 in
theorem gb_6 (C : gOrc) : (gBods C)[6]? = some (bX0_tintAt C) := rfl
set_option maxRecDepth 20000 in
theorem gb_7 (C : gOrc) : (gBods C)[7]? = some (bX0_save C) := rfl
set_option maxRecDepth 20000 in
theorem gb_8 (C : gOrc) : (gBods C)[8]? = some (bX0_restore C) := rfl
set_option maxRecDepth 20000 in
theorem gb_9 (C : gOrc) : (gBods C)[9]? = some (bX0_comeIn C) := rfl
set_option maxRecDepth 20000 in
theorem gb_10 (C : gOrc) : (gBods C)[10]? = some (bX0_renew C) := rfl
set_option maxRecDepth 20000 in
theorem gb_11 (C : gOrc) : (gBods C)[11]? = some (bX0_buy C) := rfl
set_option maxRecDepth 20000 in
theorem gb_12 (C : gOrc) : (gBods C)[12]? = some (bX0_pickColour C) := rfl
set_option maxRecDepth 20000 in
theorem gb_13 (C : gOrc) : (gBods C)[13]? = some (bX0_lift C) := rfl
set_option maxRecDepth 20000 in
theorem gb_14 (C : gOrc) : (gBods C)[14]? = some (bX0_standSomewhere C) := rfl
set_option maxRecDepth 20000 in
theorem gb_15 (C : gOrc) : (gBods C)[15]? = some (bX0_chosen C) := rfl
set_option maxRecDepth 20000 in
theorem gb_16 (C : gOrc) : (gBods C)[16]? = some (bX1_init C) := rfl
set_option maxRecDepth 20000 in
theorem gb_17 (C : gOrc) : (gBods C)[17]? = some (bX1_write C) := rfl
set_option maxRecDepth 20000 in
theorem gb_18 (C : gOrc) : (gBods C)[18]? = some (bX1_brushAt C) := rfl
set_option maxRecDepth 20000 in
theorem gb_19 (C : gOrc) : (gBods C)[19]? = some (bX1_tintAt C) := rfl
set_option maxRecDepth 20000 in
theorem gb_20 (C : gOrc) : (gBods C)[20]? = some (bX1_spotOf C) := rfl
set_option maxRecDepth 20000 in
theorem gb_21 (C : gOrc) : (gBods C)[21]? = some (bX1_usedBy C) := rfl
set_option maxRecDepth 20000 in
theorem gb_22 (C : gOrc) : (gBods C)[22]? = some (bX1_wrongPlace C) := rfl
set_option maxRecDepth 20000 in
theorem gb_23 (C : gOrc) : (gBods C)[23]? = some (bX1_notePlaces C) := rfl
set_option maxRecDepth 20000 in
theorem gb_24 (C : gOrc) : (gBods C)[24]? = some (bX1_notePeople C) := rfl
set_option maxRecDepth 20000 in
theorem gb_25 (C : gOrc) : (gBods C)[25]? = some (bX2_init C) := rfl
set_option maxRecDepth 20000 in
theorem gb_26 (C : gOrc) : (gBods C)[26]? = some (bX2_after C) := rfl
set_option maxRecDepth 20000 in
theorem gb_27 (C : gOrc) : (gBods C)[27]? = some (bX2_reachIn C) := rfl
set_option maxRecDepth 20000 in
theorem gb_28 (C : gOrc) : (gBods C)[28]? = some (bX2_commonDivisor C) := rfl
set_option maxRecDepth 20000 in
theorem gb_29 (C : gOrc) : (gBods C)[29]? = some (bX3_init C) := rfl
set_option maxRecDepth 20000 in
theorem gb_30 (C : gOrc) : (gBods C)[30]? = some (bX3_search C) := rfl
set_option maxRecDepth 20000 in
theorem gb_31 (C : gOrc) : (gBods C)[31]? = some (bX3_part C) := rfl
set_option maxRecDepth 20000 in
theorem gb_32 (C : gOrc) : (gBods C)[32]? = some (bX3_endsRight C) := rfl
set_option maxRecDepth 20000 in
theorem gb_33 (C : gOrc) : (gBods C)[33]? = some (bX3_isRight C) := rfl
set_option maxRecDepth 20000 in
theorem gb_34 (C : gOrc) : (gBods C)[34]? = some (bX4_init C) := rfl
set_option maxRecDepth 20000 in
theorem gb_35 (C : gOrc) : (gBods C)[35]? = some (bX4_clear C) := rfl
set_option maxRecDepth 20000 in
theorem gb_36 (C : gOrc) : (gBods C)[36]? = some (bX4_addStay C) := rfl
set_option maxRecDepth 20000 in
theorem gb_37 (C : gOrc) : (gBods C)[37]? = some (bX4_crowd C) := rfl
set_option maxRecDepth 20000 in
theorem gb_38 (C : gOrc) : (gBods C)[38]? = some (bX4_lastSeenDay C) := rfl
set_option maxRecDepth 20000 in
theorem gb_39 (C : gOrc) : (gBods C)[39]? = some (bX5_init C) := rfl
set_option maxRecDepth 20000 in
theorem gb_40 (C : gOrc) : (gBods C)[40]? = some (bX5_forget C) := rfl
set_option maxRecDepth 20000 in
theorem gb_41 (C : gOrc) : (gBods C)[41]? = some (bX5_keepAhead C) := rfl
set_option maxRecDepth 20000 in
theorem gb_42 (C : gOrc) : (gBods C)[42]? = some (bX5_takeBack C) := rfl
set_option maxRecDepth 20000 in
theorem gb_43 (C : gOrc) : (gBods C)[43]? = some (bX5_setMark C) := rfl
set_option maxRecDepth 20000 in
theorem gb_44 (C : gOrc) : (gBods C)[44]? = some (bX5_goBack C) := rfl
set_option maxRecDepth 20000 in
theorem gb_45 (C : gOrc) : (gBods C)[45]? = some (bX6_init C) := rfl
set_option maxRecDepth 20000 in
theorem gb_46 (C : gOrc) : (gBods C)[46]? = some (bX6_paint C) := rfl
set_option maxRecDepth 20000 in
theorem gb_47 (C : gOrc) : (gBods C)[47]? = some (bX6_finish C) := rfl
set_option maxRecDepth 20000 in
theorem gb_48 (C : gOrc) : (gBods C)[48]? = some (bX7_init C) := rfl
set_option maxRecDepth 20000 in
theorem gb_49 (C : gOrc) : (gBods C)[49]? = some (bX7_gather C) := rfl
set_option maxRecDepth 20000 in
theorem gb_50 (C : gOrc) : (gBods C)[50]? = some (bX7_count C) := rfl
set_option maxRecDepth 20000 in
theorem gb_51 (C : gOrc) : (gBods C)[51]? = some (bX7_possible C) := rfl
set_option maxRecDepth 20000 in
theorem gb_52 (C : gOrc) : (gBods C)[52]? = some (bX7_fewestToAsk C) := rfl
set_option maxRecDepth 20000 in
theorem gb_53 (C : gOrc) : (gBods C)[53]? = some (bX8_init C) := rfl
set_option maxRecDepth 20000 in
theorem gb_54 (C : gOrc) : (gBods C)[54]? = some (bX8_isLiked C) := rfl
set_option maxRecDepth 20000 in
theorem gb_55 (C : gOrc) : (gBods C)[55]? = some (bX9_init C) := rfl
set_option maxRecDepth 20000 in
theorem gb_56 (C : gOrc) : (gBods C)[56]? = some (bX9_read C) := rfl
set_option maxRecDepth 20000 in
theorem gb_57 (C : gOrc) : (gBods C)[57]? = some (bX9_fail C) := rfl
set_option maxRecDepth 20000 in
theorem gb_58 (C : gOrc) : (gBods C)[58]? = some (bX9_advance C) := rfl
set_option maxRecDepth 20000 in
theorem gb_59 (C : gOrc) : (gBods C)[59]? = some (bX9_scan C) := rfl
set_option maxRecDepth 20000 in
theorem gb_60 (C : gOrc) : (gBods C)[60]? = some (bX9_valueOfDigits C) := rfl
set_option maxRecDepth 20000 in
theorem gb_61 (C : gOrc) : (gBods C)[61]? = some (bX9_tokenIs C) := rfl
set_option maxRecDepth 20000 in
theorem gb_62 (C : gOrc) : (gBods C)[62]? = some (bX9_sortOfLine C) := rfl
set_option maxRecDepth 20000 in
theorem gb_63 (C : gOrc) : (gBods C)[63]? = some (bX9_choice C) := rfl
set_option maxRecDepth 20000 in
theorem gb_64 (C : gOrc) : (gBods C)[64]? = some (bX9_readLine C) := rfl
set_option maxRecDepth 20000 in
theorem gb_65 (C : gOrc) : (gBods C)[65]? = some (bX9_hasRoom C) := rfl
set_option maxRecDepth 20000 in
theorem gb_66 (C : gOrc) : (gBods C)[66]? = some (bX9_word C) := rfl
set_option maxRecDepth 20000 in
theorem gb_67 (C : gOrc) : (gBods C)[67]? = some (bX9_whole C) := rfl
set_option maxRecDepth 20000 in
theorem gb_68 (C : gOrc) : (gBods C)[68]? = some (bX9_toldPerson C) := rfl
set_option maxRecDepth 20000 in
theorem gb_69 (C : gOrc) : (gBods C)[69]? = some (bX9_isNamed C) := rfl
set_option maxRecDepth 20000 in
theorem gb_70 (C : gOrc) : (gBods C)[70]? = some (bX9_toldName C) := rfl
set_option maxRecDepth 20000 in
theorem gb_71 (C : gOrc) : (gBods C)[71]? = some (bX9_glassLine C) := rfl
set_option maxRecDepth 20000 in
theorem gb_72 (C : gOrc) : (gBods C)[72]? = some (bX9_personLine C) := rfl
set_option maxRecDepth 20000 in
theorem gb_73 (C : gOrc) : (gBods C)[73]? = some (bX9_newName C) := rfl
set_option maxRecDepth 20000 in
theorem gb_74 (C : gOrc) : (gBods C)[74]? = some (bX9_kindWord C) := rfl
set_option maxRecDepth 20000 in
theorem gb_75 (C : gOrc) : (gBods C)[75]? = some (bX9_habitWord C) := rfl
set_option maxRecDepth 20000 in
theorem gb_76 (C : gOrc) : (gBods C)[76]? = some (bX9_takesWord C) := rfl
set_option maxRecDepth 20000 in
theorem gb_77 (C : gOrc) : (gBods C)[77]? = some (bX9_order C) := rfl
set_option maxRecDepth 20000 in
theorem gb_78 (C : gOrc) : (gBods C)[78]? = some (bX9_stayLine C) := rfl
set_option maxRecDepth 20000 in
theorem gb_79 (C : gOrc) : (gBods C)[79]? = some (bX9_movesLine C) := rfl
set_option maxRecDepth 20000 in
theorem gb_80 (C : gOrc) : (gBods C)[80]? = some (bX9_seenLine C) := rfl
set_option maxRecDepth 20000 in
theorem gb_81 (C : gOrc) : (gBods C)[81]? = some (bX9_saysLine C) := rfl
set_option maxRecDepth 20000 in
theorem gb_82 (C : gOrc) : (gBods C)[82]? = some (bX10_init C) := rfl
set_option maxRecDepth 20000 in
theorem gb_83 (C : gOrc) : (gBods C)[83]? = some (bX10_begin C) := rfl
set_option maxRecDepth 20000 in
theorem gb_84 (C : gOrc) : (gBods C)[84]? = some (bX10_take C) := rfl
set_option maxRecDepth 20000 in
theorem gb_85 (C : gOrc) : (gBods C)[85]? = some (bX10_addMove C) := rfl
set_option maxRecDepth 20000 in
theorem gb_86 (C : gOrc) : (gBods C)[86]? = some (bX10_draw C) := rfl
set_option maxRecDepth 20000 in
theorem gb_87 (C : gOrc) : (gBods C)[87]? = some (bX11_init C) := rfl
set_option maxRecDepth 20000 in
theorem gb_88 (C : gOrc) : (gBods C)[88]? = some (bX11_feed C) := rfl
set_option maxRecDepth 20000 in
theorem gb_89 (C : gOrc) : (gBods C)[89]? = some (bX11_glass C) := rfl
set_option maxRecDepth 20000 in
theorem gb_90 (C : gOrc) : (gBods C)[90]? = some (bX11_fault C) := rfl
set_option maxRecDepth 20000 in
theorem gb_91 (C : gOrc) : (gBods C)[91]? = some (bX11_where C) := rfl
set_option maxRecDepth 20000 in
theorem gb_92 (C : gOrc) : (gBods C)[92]? = some (bX11_person C) := rfl
set_option maxRecDepth 20000 in
theorem gb_93 (C : gOrc) : (gBods C)[93]? = some (bX11_likes C) := rfl
set_option maxRecDepth 20000 in
theorem gb_94 (C : gOrc) : (gBods C)[94]? = some (bX11_stay C) := rfl
set_option maxRecDepth 20000 in
theorem gb_95 (C : gOrc) : (gBods C)[95]? = some (bX11_here C) := rfl
set_option maxRecDepth 20000 in
theorem gb_96 (C : gOrc) : (gBods C)[96]? = some (bX11_most C) := rfl
set_option maxRecDepth 20000 in
theorem gb_97 (C : gOrc) : (gBods C)[97]? = some (bX11_brushes C) := rfl
set_option maxRecDepth 20000 in
theorem gb_98 (C : gOrc) : (gBods C)[98]? = some (bX11_brush C) := rfl
set_option maxRecDepth 20000 in
theorem gb_99 (C : gOrc) : (gBods C)[99]? = some (bX11_at C) := rfl
set_option maxRecDepth 20000 in
theorem gb_100 (C : gOrc) : (gBods C)[100]? = some (bX11_colour C) := rfl
set_option maxRecDepth 20000 in
theorem gb_101 (C : gOrc) : (gBods C)[101]? = some (bX11_whose C) := rfl
set_option maxRecDepth 20000 in
theorem gb_102 (C : gOrc) : (gBods C)[102]? = some (bX11_place C) := rfl
set_option maxRecDepth 20000 in
theorem gb_103 (C : gOrc) : (gBods C)[103]? = some (bX11_many C) := rfl
set_option maxRecDepth 20000 in
theorem gb_104 (C : gOrc) : (gBods C)[104]? = some (bX11_full C) := rfl
set_option maxRecDepth 20000 in
theorem gb_105 (C : gOrc) : (gBods C)[105]? = some (bX11_uses C) := rfl
set_option maxRecDepth 20000 in
theorem gb_106 (C : gOrc) : (gBods C)[106]? = some (bX11_wet C) := rfl
set_option maxRecDepth 20000 in
theorem gb_107 (C : gOrc) : (gBods C)[107]? = some (bX11_shared C) := rfl
set_option maxRecDepth 20000 in
theorem gb_108 (C : gOrc) : (gBods C)[108]? = some (bX11_sharedAll C) := rfl
set_option maxRecDepth 20000 in
theorem gb_109 (C : gOrc) : (gBods C)[109]? = some (bX11_suffers C) := rfl
set_option maxRecDepth 20000 in
theorem gb_110 (C : gOrc) : (gBods C)[110]? = some (bX11_sins C) := rfl
set_option maxRecDepth 20000 in
theorem gb_111 (C : gOrc) : (gBods C)[111]? = some (bX11_alike C) := rfl
set_option maxRecDepth 20000 in
theorem gb_112 (C : gOrc) : (gBods C)[112]? = some (bX11_alikeDays C) := rfl
set_option maxRecDepth 20000 in
theorem gb_113 (C : gOrc) : (gBods C)[113]? = some (bX11_notches C) := rfl
set_option maxRecDepth 20000 in
theorem gb_114 (C : gOrc) : (gBods C)[114]? = some (bX11_byHabit C) := rfl
set_option maxRecDepth 20000 in
theorem gb_115 (C : gOrc) : (gBods C)[115]? = some (bX11_bestHabit C) := rfl
set_option maxRecDepth 20000 in
theorem gb_116 (C : gOrc) : (gBods C)[116]? = some (bX11_byKind C) := rfl
set_option maxRecDepth 20000 in
theorem gb_117 (C : gOrc) : (gBods C)[117]? = some (bX11_bestKind C) := rfl
set_option maxRecDepth 20000 in
theorem gb_118 (C : gOrc) : (gBods C)[118]? = some (bX11_colours C) := rfl
set_option maxRecDepth 20000 in
theorem gb_119 (C : gOrc) : (gBods C)[119]? = some (bX11_colourOf C) := rfl
set_option maxRecDepth 20000 in
theorem gb_120 (C : gOrc) : (gBods C)[120]? = some (bX11_judge C) := rfl
set_option maxRecDepth 20000 in
theorem gb_121 (C : gOrc) : (gBods C)[121]? = some (bX11_judgeAt C) := rfl
set_option maxRecDepth 20000 in
theorem gb_122 (C : gOrc) : (gBods C)[122]? = some (bX11_explains C) := rfl
set_option maxRecDepth 20000 in
theorem gb_123 (C : gOrc) : (gBods C)[123]? = some (bX11_explain C) := rfl
set_option maxRecDepth 20000 in
theorem gb_124 (C : gOrc) : (gBods C)[124]? = some (bX11_isTrue C) := rfl
set_option maxRecDepth 20000 in
theorem gb_125 (C : gOrc) : (gBods C)[125]? = some (bX11_wrongOnes C) := rfl
set_option maxRecDepth 20000 in
theorem gb_126 (C : gOrc) : (gBods C)[126]? = some (bX11_pairings C) := rfl
set_option maxRecDepth 20000 in
theorem gb_127 (C : gOrc) : (gBods C)[127]? = some (bX11_could C) := rfl
set_option maxRecDepth 20000 in
theorem gb_128 (C : gOrc) : (gBods C)[128]? = some (bX11_surely C) := rfl
set_option maxRecDepth 20000 in
theorem gb_129 (C : gOrc) : (gBods C)[129]? = some (bX11_ask C) := rfl
set_option maxRecDepth 20000 in
theorem gb_130 (C : gOrc) : (gBods C)[130]? = some (bX11_drift C) := rfl
set_option maxRecDepth 20000 in
theorem gb_131 (C : gOrc) : (gBods C)[131]? = some (bX11_move C) := rfl
set_option maxRecDepth 20000 in
theorem gb_132 (C : gOrc) : (gBods C)[132]? = some (bX11_shake C) := rfl
set_option maxRecDepth 20000 in
theorem gb_133 (C : gOrc) : (gBods C)[133]? = some (bX11_kind C) := rfl
set_option maxRecDepth 20000 in
theorem gb_134 (C : gOrc) : (gBods C)[134]? = some (bX11_habit C) := rfl
set_option maxRecDepth 20000 in
theorem gb_135 (C : gOrc) : (gBods C)[135]? = some (bX11_keep C) := rfl
set_option maxRecDepth 20000 in
theorem gb_136 (C : gOrc) : (gBods C)[136]? = some (bX11_seed C) := rfl
set_option maxRecDepth 20000 in
theorem gb_137 (C : gOrc) : (gBods C)[137]? = some (bX11_undo C) := rfl
set_option maxRecDepth 20000 in
theorem gb_138 (C : gOrc) : (gBods C)[138]? = some (bX11_mark C) := rfl
set_option maxRecDepth 20000 in
theorem gb_139 (C : gOrc) : (gBods C)[139]? = some (bX11_back C) := rfl
set_option maxRecDepth 20000 in
theorem gb_141 (C : gOrc) : (gBods C)[141]? = some (bX11_size C) := rfl
set_option maxRecDepth 20000 in
theorem gb_142 (C : gOrc) : (gBods C)[142]? = some (bX11_trouble C) := rfl
set_option maxRecDepth 20000 in
theorem gb_143 (C : gOrc) : (gBods C)[143]? = some (bX11_answer C) := rfl
set_option maxRecDepth 20000 in
theorem gb_144 (C : gOrc) : (gBods C)[144]? = some (bX11_refuse C) := rfl
set_option maxRecDepth 20000 in
theorem gb_145 (C : gOrc) : (gBods C)[145]? = some (bX11_deny C) := rfl
set_option maxRecDepth 20000 in
theorem gb_146 (C : gOrc) : (gBods C)[146]? = some (bX11_done C) := rfl
set_option maxRecDepth 20000 in
theorem gb_147 (C : gOrc) : (gBods C)[147]? = some (bX11_hasGlass C) := rfl
set_option maxRecDepth 20000 in
theorem gb_148 (C : gOrc) : (gBods C)[148]? = some (bX11_isDay C) := rfl
set_option maxRecDepth 20000 in
theorem gb_149 (C : gOrc) : (gBods C)[149]? = some (bX11_isPlace C) := rfl
set_option maxRecDepth 20000 in
theorem gb_150 (C : gOrc) : (gBods C)[150]? = some (bX11_isPerson C) := rfl
set_option maxRecDepth 20000 in
theorem gb_151 (C : gOrc) : (gBods C)[151]? = some (bX11_allowsGlass C) := rfl
set_option maxRecDepth 20000 in
theorem gb_152 (C : gOrc) : (gBods C)[152]? = some (bX11_allowsOne C) := rfl
set_option maxRecDepth 20000 in
theorem gb_153 (C : gOrc) : (gBods C)[153]? = some (bX11_allowsDay C) := rfl
set_option maxRecDepth 20000 in
theorem gb_154 (C : gOrc) : (gBods C)[154]? = some (bX11_allowsPerson C) := rfl
set_option maxRecDepth 20000 in
theorem gb_155 (C : gOrc) : (gBods C)[155]? = some (bX11_allowsPlace C) := rfl
set_option maxRecDepth 20000 in
theorem gb_156 (C : gOrc) : (gBods C)[156]? = some (bX11_allowsNumber C) := rfl
set_option maxRecDepth 20000 in
theorem gb_157 (C : gOrc) : (gBods C)[157]? = some (bX11_append C) := rfl
set_option maxRecDepth 20000 in
theorem gb_158 (C : gOrc) : (gBods C)[158]? = some (bX11_changed C) := rfl
set_option maxRecDepth 20000 in
theorem gb_159 (C : gOrc) : (gBods C)[159]? = some (bX11_today C) := rfl
set_option maxRecDepth 20000 in
theorem gb_160 (C : gOrc) : (gBods C)[160]? = some (bX11_daysAlikeIfAllBuyBy C) := rfl
set_option maxRecDepth 20000 in
theorem gb_161 (C : gOrc) : (gBods C)[161]? = some (bX11_sharedIfAllAre C) := rfl
set_option maxRecDepth 20000 in
theorem gb_162 (C : gOrc) : (gBods C)[162]? = some (bX11_firstWrongSeeing C) := rfl
set_option maxRecDepth 20000 in
theorem gb_163 (C : gOrc) : (gBods C)[163]? = some (bX11_holds C) := rfl
set_option maxRecDepth 20000 in
theorem gb_164 (C : gOrc) : (gBods C)[164]? = some (bX12_init C) := rfl
set_option maxRecDepth 20000 in
theorem gb_165 (C : gOrc) : (gBods C)[165]? = some (bX12_find C) := rfl
set_option maxRecDepth 20000 in
theorem gb_166 (C : gOrc) : (gBods C)[166]? = some (bX12_isHere C) := rfl
set_option maxRecDepth 20000 in
theorem gb_167 (C : gOrc) : (gBods C)[167]? = some (bX12_comes C) := rfl
set_option maxRecDepth 20000 in
theorem gb_168 (C : gOrc) : (gBods C)[168]? = some (bX12_goes C) := rfl
set_option maxRecDepth 20000 in
theorem gb_169 (C : gOrc) : (gBods C)[169]? = some (bX12_here C) := rfl
set_option maxRecDepth 20000 in
theorem gb_170 (C : gOrc) : (gBods C)[170]? = some (bX13_init C) := rfl
set_option maxRecDepth 20000 in
theorem gb_171 (C : gOrc) : (gBods C)[171]? = some (bX13_thrown C) := rfl
set_option maxRecDepth 20000 in
theorem gb_173 (C : gOrc) : (gBods C)[173]? = some (bX13_denied C) := rfl
set_option maxRecDepth 20000 in
theorem gb_175 (C : gOrc) : (gBods C)[175]? = some (bX13_granted C) := rfl
set_option maxRecDepth 20000 in
theorem gb_176 (C : gOrc) : (gBods C)[176]? = some (bX13_in C) := rfl
set_option maxRecDepth 20000 in
theorem gb_177 (C : gOrc) : (gBods C)[177]? = some (bX13_bit C) := rfl
set_option maxRecDepth 20000 in
theorem gb_178 (C : gOrc) : (gBods C)[178]? = some (bX13_bits C) := rfl
set_option maxRecDepth 20000 in
theorem gb_179 (C : gOrc) : (gBods C)[179]? = some (bX13_byteAt C) := rfl
set_option maxRecDepth 20000 in
theorem gb_180 (C : gOrc) : (gBods C)[180]? = some (bX13_isLetter C) := rfl
set_option maxRecDepth 20000 in
theorem gb_181 (C : gOrc) : (gBods C)[181]? = some (bX13_isDigit C) := rfl
set_option maxRecDepth 20000 in
theorem gb_182 (C : gOrc) : (gBods C)[182]? = some (bX13_wordOf C) := rfl
set_option maxRecDepth 20000 in
theorem gb_183 (C : gOrc) : (gBods C)[183]? = some (bX13_goesOn C) := rfl
set_option maxRecDepth 20000 in
theorem gb_184 (C : gOrc) : (gBods C)[184]? = some (bX13_flaw C) := rfl
set_option maxRecDepth 20000 in
theorem gb_185 (C : gOrc) : (gBods C)[185]? = some (bX13_isWord C) := rfl
set_option maxRecDepth 20000 in
theorem gb_186 (C : gOrc) : (gBods C)[186]? = some (bX13_eatsSemicolon C) := rfl
set_option maxRecDepth 20000 in
theorem gb_187 (C : gOrc) : (gBods C)[187]? = some (bX13_needs C) := rfl
set_option maxRecDepth 20000 in
theorem gb_188 (C : gOrc) : (gBods C)[188]? = some (bX13_needsComma C) := rfl
set_option maxRecDepth 20000 in
theorem gb_189 (C : gOrc) : (gBods C)[189]? = some (bX13_bounded C) := rfl
set_option maxRecDepth 20000 in
theorem gb_190 (C : gOrc) : (gBods C)[190]? = some (bX13_readWhole C) := rfl
set_option maxRecDepth 20000 in
theorem gb_191 (C : gOrc) : (gBods C)[191]? = some (bX13_readPart C) := rfl
set_option maxRecDepth 20000 in
theorem gb_192 (C : gOrc) : (gBods C)[192]? = some (bX13_isName C) := rfl
set_option maxRecDepth 20000 in
theorem gb_193 (C : gOrc) : (gBods C)[193]? = some (bX13_begins C) := rfl
set_option maxRecDepth 20000 in
theorem gb_194 (C : gOrc) : (gBods C)[194]? = some (bX13_known C) := rfl
set_option maxRecDepth 20000 in
theorem gb_195 (C : gOrc) : (gBods C)[195]? = some (bX13_readAll C) := rfl
set_option maxRecDepth 20000 in
theorem gb_196 (C : gOrc) : (gBods C)[196]? = some (bX13_readLine C) := rfl
set_option maxRecDepth 20000 in
theorem gb_197 (C : gOrc) : (gBods C)[197]? = some (bX13_readGlass C) := rfl
set_option maxRecDepth 20000 in
theorem gb_198 (C : gOrc) : (gBods C)[198]? = some (bX13_readPerson C) := rfl
set_option maxRecDepth 20000 in
theorem gb_199 (C : gOrc) : (gBods C)[199]? = some (bX13_readStay C) := rfl
set_option maxRecDepth 20000 in
theorem gb_200 (C : gOrc) : (gBods C)[200]? = some (bX13_readMove C) := rfl
set_option maxRecDepth 20000 in
theorem gb_201 (C : gOrc) : (gBods C)[201]? = some (bX13_readSeen C) := rfl
set_option maxRecDepth 20000 in
theorem gb_202 (C : gOrc) : (gBods C)[202]? = some (bX13_readSays C) := rfl
set_option maxRecDepth 20000 in
theorem gb_203 (C : gOrc) : (gBods C)[203]? = some (bX13_feed C) := rfl
set_option maxRecDepth 20000 in
theorem gb_204 (C : gOrc) : (gBods C)[204]? = some (bX13_glass C) := rfl
set_option maxRecDepth 20000 in
theorem gb_205 (C : gOrc) : (gBods C)[205]? = some (bX13_fault C) := rfl
set_option maxRecDepth 20000 in
theorem gb_206 (C : gOrc) : (gBods C)[206]? = some (bX13_where C) := rfl
set_option maxRecDepth 20000 in
theorem gb_207 (C : gOrc) : (gBods C)[207]? = some (bX13_kindOf C) := rfl
set_option maxRecDepth 20000 in
theorem gb_208 (C : gOrc) : (gBods C)[208]? = some (bX13_habitOf C) := rfl
set_option maxRecDepth 20000 in
theorem gb_209 (C : gOrc) : (gBods C)[209]? = some (bX13_runs C) := rfl
set_option maxRecDepth 20000 in
theorem gb_210 (C : gOrc) : (gBods C)[210]? = some (bX13_runsBy C) := rfl
set_option maxRecDepth 20000 in
theorem gb_211 (C : gOrc) : (gBods C)[211]? = some (bX13_day C) := rfl
set_option maxRecDepth 20000 in
theorem gb_212 (C : gOrc) : (gBods C)[212]? = some (bX13_inGlass C) := rfl
set_option maxRecDepth 20000 in
theorem gb_213 (C : gOrc) : (gBods C)[213]? = some (bX13_chosen C) := rfl
set_option maxRecDepth 20000 in
theorem gb_214 (C : gOrc) : (gBods C)[214]? = some (bX13_buys C) := rfl
set_option maxRecDepth 20000 in
theorem gb_215 (C : gOrc) : (gBods C)[215]? = some (bX13_firstFree C) := rfl
set_option maxRecDepth 20000 in
theorem gb_216 (C : gOrc) : (gBods C)[216]? = some (bX13_puts C) := rfl
set_option maxRecDepth 20000 in
theorem gb_217 (C : gOrc) : (gBods C)[217]? = some (bX13_exchanges C) := rfl
set_option maxRecDepth 20000 in
theorem gb_218 (C : gOrc) : (gBods C)[218]? = some (bX13_brushesAt C) := rfl
set_option maxRecDepth 20000 in
theorem gb_219 (C : gOrc) : (gBods C)[219]? = some (bX13_isPerson C) := rfl
set_option maxRecDepth 20000 in
theorem gb_220 (C : gOrc) : (gBods C)[220]? = some (bX13_isDay C) := rfl
set_option maxRecDepth 20000 in
theorem gb_221 (C : gOrc) : (gBods C)[221]? = some (bX13_isPlace C) := rfl
set_option maxRecDepth 20000 in
theorem gb_222 (C : gOrc) : (gBods C)[222]? = some (bX13_refusesDay C) := rfl
set_option maxRecDepth 20000 in
theorem gb_223 (C : gOrc) : (gBods C)[223]? = some (bX13_person C) := rfl
set_option maxRecDepth 20000 in
theorem gb_224 (C : gOrc) : (gBods C)[224]? = some (bX13_likes C) := rfl
set_option maxRecDepth 20000 in
theorem gb_225 (C : gOrc) : (gBods C)[225]? = some (bX13_stay C) := rfl
set_option maxRecDepth 20000 in
theorem gb_226 (C : gOrc) : (gBods C)[226]? = some (bX13_here C) := rfl
set_option maxRecDepth 20000 in
theorem gb_227 (C : gOrc) : (gBods C)[227]? = some (bX13_most C) := rfl
set_option maxRecDepth 20000 in
theorem gb_228 (C : gOrc) : (gBods C)[228]? = some (bX13_brushes C) := rfl
set_option maxRecDepth 20000 in
theorem gb_229 (C : gOrc) : (gBods C)[229]? = some (bX13_brush C) := rfl
set_option maxRecDepth 20000 in
theorem gb_230 (C : gOrc) : (gBods C)[230]? = some (bX13_standsIn C) := rfl
set_option maxRecDepth 20000 in
theorem gb_231 (C : gOrc) : (gBods C)[231]? = some (bX13_at C) := rfl
set_option maxRecDepth 20000 in
theorem gb_232 (C : gOrc) : (gBods C)[232]? = some (bX13_colour C) := rfl
set_option maxRecDepth 20000 in
theorem gb_233 (C : gOrc) : (gBods C)[233]? = some (bX13_colourIn C) := rfl
set_option maxRecDepth 20000 in
theorem gb_234 (C : gOrc) : (gBods C)[234]? = some (bX13_whose C) := rfl
set_option maxRecDepth 20000 in
theorem gb_235 (C : gOrc) : (gBods C)[235]? = some (bX13_place C) := rfl
set_option maxRecDepth 20000 in
theorem gb_236 (C : gOrc) : (gBods C)[236]? = some (bX13_there C) := rfl
set_option maxRecDepth 20000 in
theorem gb_237 (C : gOrc) : (gBods C)[237]? = some (bX13_many C) := rfl
set_option maxRecDepth 20000 in
theorem gb_238 (C : gOrc) : (gBods C)[238]? = some (bX13_full C) := rfl
set_option maxRecDepth 20000 in
theorem gb_239 (C : gOrc) : (gBods C)[239]? = some (bX13_useOf C) := rfl
set_option maxRecDepth 20000 in
theorem gb_240 (C : gOrc) : (gBods C)[240]? = some (bX13_uses C) := rfl
set_option maxRecDepth 20000 in
theorem gb_241 (C : gOrc) : (gBods C)[241]? = some (bX13_wet C) := rfl
set_option maxRecDepth 20000 in
theorem gb_242 (C : gOrc) : (gBods C)[242]? = some (bX13_isShared C) := rfl
set_option maxRecDepth 20000 in
theorem gb_243 (C : gOrc) : (gBods C)[243]? = some (bX13_sharedIn C) := rfl
set_option maxRecDepth 20000 in
theorem gb_244 (C : gOrc) : (gBods C)[244]? = some (bX13_sharedInAll C) := rfl
set_option maxRecDepth 20000 in
theorem gb_245 (C : gOrc) : (gBods C)[245]? = some (bX13_shared C) := rfl
set_option maxRecDepth 20000 in
theorem gb_246 (C : gOrc) : (gBods C)[246]? = some (bX13_sharedAll C) := rfl
set_option maxRecDepth 20000 in
theorem gb_247 (C : gOrc) : (gBods C)[247]? = some (bX13_suffers C) := rfl
set_option maxRecDepth 20000 in
theorem gb_248 (C : gOrc) : (gBods C)[248]? = some (bX13_sinsOf C) := rfl
set_option maxRecDepth 20000 in
theorem gb_249 (C : gOrc) : (gBods C)[249]? = some (bX13_sins C) := rfl
set_option maxRecDepth 20000 in
theorem gb_250 (C : gOrc) : (gBods C)[250]? = some (bX13_alikeIn C) := rfl
set_option maxRecDepth 20000 in
theorem gb_251 (C : gOrc) : (gBods C)[251]? = some (bX13_alikeInAll C) := rfl
set_option maxRecDepth 20000 in
theorem gb_252 (C : gOrc) : (gBods C)[252]? = some (bX13_alike C) := rfl
set_option maxRecDepth 20000 in
theorem gb_253 (C : gOrc) : (gBods C)[253]? = some (bX13_alikeDays C) := rfl
set_option maxRecDepth 20000 in
theorem gb_254 (C : gOrc) : (gBods C)[254]? = some (bX13_notches C) := rfl
set_option maxRecDepth 20000 in
theorem gb_255 (C : gOrc) : (gBods C)[255]? = some (bX13_daysByHabit C) := rfl
set_option maxRecDepth 20000 in
theorem gb_256 (C : gOrc) : (gBods C)[256]? = some (bX13_sharedByKind C) := rfl
set_option maxRecDepth 20000 in
theorem gb_257 (C : gOrc) : (gBods C)[257]? = some (bX13_byHabit C) := rfl
set_option maxRecDepth 20000 in
theorem gb_258 (C : gOrc) : (gBods C)[258]? = some (bX13_bestHabit C) := rfl
set_option maxRecDepth 20000 in
theorem gb_259 (C : gOrc) : (gBods C)[259]? = some (bX13_byKind C) := rfl
set_option maxRecDepth 20000 in
theorem gb_260 (C : gOrc) : (gBods C)[260]? = some (bX13_bestKind C) := rfl
set_option maxRecDepth 20000 in
theorem gb_261 (C : gOrc) : (gBods C)[261]? = some (bX13_areTogether C) := rfl
set_option maxRecDepth 20000 in
theorem gb_262 (C : gOrc) : (gBods C)[262]? = some (bX13_isGood C) := rfl
set_option maxRecDepth 20000 in
theorem gb_263 (C : gOrc) : (gBods C)[263]? = some (bX13_gives C) := rfl
set_option maxRecDepth 20000 in
theorem gb_264 (C : gOrc) : (gBods C)[264]? = some (bX13_fewestColours C) := rfl
set_option maxRecDepth 20000 in
theorem gb_265 (C : gOrc) : (gBods C)[265]? = some (bX13_colours C) := rfl
set_option maxRecDepth 20000 in
theorem gb_266 (C : gOrc) : (gBods C)[266]? = some (bX13_colourOf C) := rfl
set_option maxRecDepth 20000 in
theorem gb_267 (C : gOrc) : (gBods C)[267]? = some (bX13_wrongPlace C) := rfl
set_option maxRecDepth 20000 in
theorem gb_268 (C : gOrc) : (gBods C)[268]? = some (bX13_firstWrong C) := rfl
set_option maxRecDepth 20000 in
theorem gb_269 (C : gOrc) : (gBods C)[269]? = some (bX13_judge C) := rfl
set_option maxRecDepth 20000 in
theorem gb_270 (C : gOrc) : (gBods C)[270]? = some (bX13_judgeAt C) := rfl
set_option maxRecDepth 20000 in
theorem gb_271 (C : gOrc) : (gBods C)[271]? = some (bX13_explaining C) := rfl
set_option maxRecDepth 20000 in
theorem gb_272 (C : gOrc) : (gBods C)[272]? = some (bX13_refusesExplain C) := rfl
set_option maxRecDepth 20000 in
theorem gb_273 (C : gOrc) : (gBods C)[273]? = some (bX13_explains C) := rfl
set_option maxRecDepth 20000 in
theorem gb_274 (C : gOrc) : (gBods C)[274]? = some (bX13_explain C) := rfl
set_option maxRecDepth 20000 in
theorem gb_275 (C : gOrc) : (gBods C)[275]? = some (bX13_holds C) := rfl
set_option maxRecDepth 20000 in
theorem gb_276 (C : gOrc) : (gBods C)[276]? = some (bX13_isTrue C) := rfl
set_option maxRecDepth 20000 in
theorem gb_277 (C : gOrc) : (gBods C)[277]? = some (bX13_wrongOnes C) := rfl
set_option maxRecDepth 20000 in
theorem gb_278 (C : gOrc) : (gBods C)[278]? = some (bX13_mayHave C) := rfl
set_option maxRecDepth 20000 in
theorem gb_279 (C : gOrc) : (gBods C)[279]? = some (bX13_laysWho C) := rfl
set_option maxRecDepth 20000 in
theorem gb_280 (C : gOrc) : (gBods C)[280]? = some (bX13_pairs C) := rfl
set_option maxRecDepth 20000 in
theorem gb_281 (C : gOrc) : (gBods C)[281]? = some (bX13_pairings C) := rfl
set_option maxRecDepth 20000 in
theorem gb_282 (C : gOrc) : (gBods C)[282]? = some (bX13_could C) := rfl
set_option maxRecDepth 20000 in
theorem gb_283 (C : gOrc) : (gBods C)[283]? = some (bX13_surely C) := rfl
set_option maxRecDepth 20000 in
theorem gb_284 (C : gOrc) : (gBods C)[284]? = some (bX13_ask C) := rfl
set_option maxRecDepth 20000 in
theorem gb_285 (C : gOrc) : (gBods C)[285]? = some (bX13_drift C) := rfl
set_option maxRecDepth 20000 in
theorem gb_286 (C : gOrc) : (gBods C)[286]? = some (bX13_keepsAll C) := rfl
set_option maxRecDepth 20000 in
theorem gb_287 (C : gOrc) : (gBods C)[287]? = some (bX13_adds C) := rfl
set_option maxRecDepth 20000 in
theorem gb_288 (C : gOrc) : (gBods C)[288]? = some (bX13_move C) := rfl
set_option maxRecDepth 20000 in
theorem gb_289 (C : gOrc) : (gBods C)[289]? = some (bX13_drawn C) := rfl
set_option maxRecDepth 20000 in
theorem gb_290 (C : gOrc) : (gBods C)[290]? = some (bX13_shake C) := rfl
set_option maxRecDepth 20000 in
theorem gb_291 (C : gOrc) : (gBods C)[291]? = some (bX13_changes C) := rfl
set_option maxRecDepth 20000 in
theorem gb_292 (C : gOrc) : (gBods C)[292]? = some (bX13_kind C) := rfl
set_option maxRecDepth 20000 in
theorem gb_293 (C : gOrc) : (gBods C)[293]? = some (bX13_habit C) := rfl
set_option maxRecDepth 20000 in
theorem gb_294 (C : gOrc) : (gBods C)[294]? = some (bX13_keep C) := rfl
set_option maxRecDepth 20000 in
theorem gb_295 (C : gOrc) : (gBods C)[295]? = some (bX13_seed C) := rfl
set_option maxRecDepth 20000 in
theorem gb_296 (C : gOrc) : (gBods C)[296]? = some (bX13_undo C) := rfl
set_option maxRecDepth 20000 in
theorem gb_297 (C : gOrc) : (gBods C)[297]? = some (bX13_mark C) := rfl
set_option maxRecDepth 20000 in
theorem gb_298 (C : gOrc) : (gBods C)[298]? = some (bX13_back C) := rfl
set_option maxRecDepth 20000 in
theorem gb_299 (C : gOrc) : (gBods C)[299]? = some (bX13_led C) := rfl
set_option maxRecDepth 20000 in
theorem gb_300 (C : gOrc) : (gBods C)[300]? = some (bX13_size C) := rfl
set_option maxRecDepth 20000 in
theorem gb_301 (C : gOrc) : (gBods C)[301]? = some (bX13_trouble C) := rfl
set_option maxRecDepth 20000 in
theorem gb_302 (C : gOrc) : (gBods C)[302]? = some (bJ6_bitCount_0f7a4 C) := rfl
set_option maxRecDepth 20000 in
theorem gb_315 (C : gOrc) : (gBods C)[315]? = some (bJ7_fill_d0a16 C) := rfl
set_option maxRecDepth 20000 in
theorem gb_316 (C : gOrc) : (gBods C)[316]? = some (bJ7_fill_53178 C) := rfl
