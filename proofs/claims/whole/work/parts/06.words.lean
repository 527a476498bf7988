theorem m_0 : Cond.selects RX0 yX0_countSolutions yX0_countSolutions ∈ Ug := Ug_at 0 (by decide +kernel) (by decide +kernel)
theorem m_1 : Cond.selects RX0 yX0_wordCount yX0_wordCount ∈ Ug := Ug_at 1 (by decide +kernel) (by decide +kernel)
theorem m_2 : Cond.selects RX0 yX0_solutionsIn yX0_solutionsIn ∈ Ug := Ug_at 2 (by decide +kernel) (by decide +kernel)
theorem m_3 : Cond.selects RX0 yX0_assignmentsOfAWord yX0_assignmentsOfAWord ∈ Ug := Ug_at 3 (by decide +kernel) (by decide +kernel)
theorem m_4 : Cond.selects RX0 yX0_satisfying yX0_satisfying ∈ Ug := Ug_at 4 (by decide +kernel) (by decide +kernel)
theorem m_5 : Cond.selects RX0 yX0_isSpare yX0_isSpare ∈ Ug := Ug_at 5 (by decide +kernel) (by decide +kernel)
theorem m_6 : Cond.selects RX0 yX0_removeConstraints yX0_removeConstraints ∈ Ug := Ug_at 6 (by decide +kernel) (by decide +kernel)
theorem m_7 : Cond.selects RX0 yX0_copyFrom yX0_copyFrom ∈ Ug := Ug_at 7 (by decide +kernel) (by decide +kernel)
theorem m_9 : Cond.selects RX1 yX1_addNew yX1_addNew ∈ Ug := Ug_at 9 (by decide +kernel) (by decide +kernel)
theorem m_10 : Cond.selects RX1 yX1_requireRoomForRelation yX1_requireRoomForRelation ∈ Ug := Ug_at 10 (by decide +kernel) (by decide +kernel)
theorem m_11 : Cond.selects RX1 yX1_requireRelation yX1_requireRelation ∈ Ug := Ug_at 11 (by decide +kernel) (by decide +kernel)
theorem m_12 : Cond.selects RX1 yX1_requireTuple yX1_requireTuple ∈ Ug := Ug_at 12 (by decide +kernel) (by decide +kernel)
theorem m_13 : Cond.selects RX1 yX1_requirePosition yX1_requirePosition ∈ Ug := Ug_at 13 (by decide +kernel) (by decide +kernel)
theorem m_14 : Cond.selects RX1 yX1_isPreserved yX1_isPreserved ∈ Ug := Ug_at 14 (by decide +kernel) (by decide +kernel)
theorem m_15 : Cond.selects RX1 yX1_areAllPreserved yX1_areAllPreserved ∈ Ug := Ug_at 15 (by decide +kernel) (by decide +kernel)
theorem m_16 : Cond.selects RX1 yX1_isOfKind yX1_isOfKind ∈ Ug := Ug_at 16 (by decide +kernel) (by decide +kernel)
theorem m_17 : Cond.selects RX1 yX1_requireVariables yX1_requireVariables ∈ Ug := Ug_at 17 (by decide +kernel) (by decide +kernel)
theorem m_18 : Cond.selects RX1 yX1_requireVariable yX1_requireVariable ∈ Ug := Ug_at 18 (by decide +kernel) (by decide +kernel)
theorem m_19 : Cond.selects RX0 yX0_findSolution yX0_findSolution ∈ Ug := Ug_at 19 (by decide +kernel) (by decide +kernel)
theorem m_20 : Cond.selects RX0 yX0_variablesThatTake yX0_variablesThatTake ∈ Ug := Ug_at 20 (by decide +kernel) (by decide +kernel)
theorem m_21 : Cond.selects RX1 yX1_requireKindOfLanguage yX1_requireKindOfLanguage ∈ Ug := Ug_at 21 (by decide +kernel) (by decide +kernel)
theorem m_22 : Cond.selects RX1 yX1_requireSolutions yX1_requireSolutions ∈ Ug := Ug_at 22 (by decide +kernel) (by decide +kernel)
theorem m_23 : Cond.selects RX0 yX0_greatestAssignment yX0_greatestAssignment ∈ Ug := Ug_at 23 (by decide +kernel) (by decide +kernel)
theorem m_24 : Cond.selects RX0 yX0_hasSolutionWith yX0_hasSolutionWith ∈ Ug := Ug_at 24 (by decide +kernel) (by decide +kernel)
theorem m_25 : Cond.selects RX0 yX0_tuplesOfSolutions yX0_tuplesOfSolutions ∈ Ug := Ug_at 25 (by decide +kernel) (by decide +kernel)
theorem m_26 : Cond.selects RX0 yX0_isSatisfied yX0_isSatisfied ∈ Ug := Ug_at 26 (by decide +kernel) (by decide +kernel)
theorem m_27 : Cond.selects RX1 yX1_wrongPosition yX1_wrongPosition ∈ Ug := Ug_at 27 (by decide +kernel) (by decide +kernel)
theorem m_28 : Cond.selects RX1 yX1_firstTupleLength yX1_firstTupleLength ∈ Ug := Ug_at 28 (by decide +kernel) (by decide +kernel)
theorem m_29 : Cond.selects RX1 yX1_readTuples yX1_readTuples ∈ Ug := Ug_at 29 (by decide +kernel) (by decide +kernel)
theorem m_30 : Cond.selects RX1 yX1_writeTuple yX1_writeTuple ∈ Ug := Ug_at 30 (by decide +kernel) (by decide +kernel)
theorem m_31 : Cond.selects RX1 yX1_writeCharacter yX1_writeCharacter ∈ Ug := Ug_at 31 (by decide +kernel) (by decide +kernel)
theorem m_32 : Cond.selects RX1 yX1_requireFlags yX1_requireFlags ∈ Ug := Ug_at 32 (by decide +kernel) (by decide +kernel)
theorem m_33 : Cond.selects RX2 yX2_fails yX2_fails ∈ Ug := Ug_at 33 (by decide +kernel) (by decide +kernel)
theorem m_34 : Cond.selects RX2 yX2_adds yX2_adds ∈ Ug := Ug_at 34 (by decide +kernel) (by decide +kernel)
theorem m_35 : Cond.selects RX2 yX2_noTuple yX2_noTuple ∈ Ug := Ug_at 35 (by decide +kernel) (by decide +kernel)
theorem m_36 : Cond.selects RX2 yX2_isRelation yX2_isRelation ∈ Ug := Ug_at 36 (by decide +kernel) (by decide +kernel)
theorem m_37 : Cond.selects RX2 yX2_refuses yX2_refuses ∈ Ug := Ug_at 37 (by decide +kernel) (by decide +kernel)
theorem m_38 : Cond.selects RX2 yX2_doesPreserve yX2_doesPreserve ∈ Ug := Ug_at 38 (by decide +kernel) (by decide +kernel)
theorem m_39 : Cond.selects RX2 yX2_isKept yX2_isKept ∈ Ug := Ug_at 39 (by decide +kernel) (by decide +kernel)
theorem m_40 : Cond.selects RX2 yX2_has yX2_has ∈ Ug := Ug_at 40 (by decide +kernel) (by decide +kernel)
theorem m_41 : Cond.selects RX2 yX2_areVariables yX2_areVariables ∈ Ug := Ug_at 41 (by decide +kernel) (by decide +kernel)
theorem m_42 : Cond.selects RX2 yX2_isVariable yX2_isVariable ∈ Ug := Ug_at 42 (by decide +kernel) (by decide +kernel)
theorem m_43 : Cond.selects RX2 yX2_solutions yX2_solutions ∈ Ug := Ug_at 43 (by decide +kernel) (by decide +kernel)
theorem m_44 : Cond.selects RX2 yX2_solves yX2_solves ∈ Ug := Ug_at 44 (by decide +kernel) (by decide +kernel)
theorem m_45 : Cond.selects RX2 yX2_isSatisfied yX2_isSatisfied ∈ Ug := Ug_at 45 (by decide +kernel) (by decide +kernel)
theorem m_46 : Cond.selects RX2 yX2_doesImply yX2_doesImply ∈ Ug := Ug_at 46 (by decide +kernel) (by decide +kernel)
theorem m_47 : Cond.selects RX2 yX2_isIdle yX2_isIdle ∈ Ug := Ug_at 47 (by decide +kernel) (by decide +kernel)
theorem m_48 : Cond.selects RX2 yX2_reads yX2_reads ∈ Ug := Ug_at 48 (by decide +kernel) (by decide +kernel)
theorem m_49 : Cond.selects RX2 yX2_puts yX2_puts ∈ Ug := Ug_at 49 (by decide +kernel) (by decide +kernel)
theorem m_50 : Cond.selects RX2 yX2_passState yX2_passState ∈ Ug := Ug_at 50 (by decide +kernel) (by decide +kernel)
theorem m_51 : Cond.selects RX2 yX2_passes yX2_passes ∈ Ug := Ug_at 51 (by decide +kernel) (by decide +kernel)
theorem m_52 : Cond.selects RX2 yX2_passAll yX2_passAll ∈ Ug := Ug_at 52 (by decide +kernel) (by decide +kernel)
theorem m_54 : Cond.initialized RX1 ∈ Ug := Ug_at 54 (by decide +kernel) (by decide +kernel)
theorem m_55 : Cond.initialized RX0 ∈ Ug := Ug_at 55 (by decide +kernel) (by decide +kernel)
theorem m_56 : Cond.initialized RX2 ∈ Ug := Ug_at 56 (by decide +kernel) (by decide +kernel)
theorem m_60 : Cond.initialized eIA ∈ Ug := Ug_at 60 (by decide +kernel) (by decide +kernel)
theorem m_61 : Cond.initialized eIS ∈ Ug := Ug_at 61 (by decide +kernel) (by decide +kernel)
theorem m_62 : Cond.initialized RJ6 ∈ Ug := Ug_at 62 (by decide +kernel) (by decide +kernel)
theorem m_63 : Cond.initialized eIO ∈ Ug := Ug_at 63 (by decide +kernel) (by decide +kernel)
theorem m_64 : Cond.initialized eNS ∈ Ug := Ug_at 64 (by decide +kernel) (by decide +kernel)
theorem m_65 : Cond.initialized RJ13 ∈ Ug := Ug_at 65 (by decide +kernel) (by decide +kernel)
theorem m_66 : Cond.initialized eUO ∈ Ug := Ug_at 66 (by decide +kernel) (by decide +kernel)
theorem m_82 : Cond.fieldLink RX0 9 RX0 "relationCount" "I" ∈ Ug := Ug_at 82 (by decide +kernel) (by decide +kernel)
theorem e_83 : Cond.fieldLinkNest RX1 97 RX0 "relationCount" "I" RX1 ∈ Ue := Ue_at 83 (by decide +kernel) rfl
theorem m_84 : Cond.fieldLink RX0 15 RX0 "arities" "[I" ∈ Ug := Ug_at 84 (by decide +kernel) (by decide +kernel)
theorem e_85 : Cond.fieldLinkNest RX1 94 RX0 "arities" "[I" RX1 ∈ Ue := Ue_at 85 (by decide +kernel) rfl
theorem m_86 : Cond.fieldLink RX0 19 RX0 "tuples" "[I" ∈ Ug := Ug_at 86 (by decide +kernel) (by decide +kernel)
theorem e_87 : Cond.fieldLinkNest RX1 82 RX0 "tuples" "[I" RX1 ∈ Ue := Ue_at 87 (by decide +kernel) rfl
theorem m_88 : Cond.fieldLink RX0 22 RX0 "variableCount" "I" ∈ Ug := Ug_at 88 (by decide +kernel) (by decide +kernel)
theorem e_89 : Cond.fieldLinkNest RX1 177 RX0 "variableCount" "I" RX1 ∈ Ue := Ue_at 89 (by decide +kernel) rfl
theorem m_90 : Cond.fieldLink RX0 25 RX0 "constraintCount" "I" ∈ Ug := Ug_at 90 (by decide +kernel) (by decide +kernel)
theorem e_91 : Cond.fieldLinkNest RX1 100 RX0 "constraintCount" "I" RX1 ∈ Ue := Ue_at 91 (by decide +kernel) rfl
theorem m_92 : Cond.fieldLink RX0 28 RX0 "constraintRelations" "[I" ∈ Ug := Ug_at 92 (by decide +kernel) (by decide +kernel)
theorem e_93 : Cond.fieldLinkNest RX1 189 RX0 "constraintRelations" "[I" RX1 ∈ Ue := Ue_at 93 (by decide +kernel) rfl
theorem m_94 : Cond.fieldLink RX0 31 RX0 "constraintVariables" "[I" ∈ Ug := Ug_at 94 (by decide +kernel) (by decide +kernel)
theorem e_95 : Cond.fieldLinkNest RX1 192 RX0 "constraintVariables" "[I" RX1 ∈ Ue := Ue_at 95 (by decide +kernel) rfl
theorem m_112 : Cond.fieldLink RX1 10 RX1 "current" "LBooleanConstraints$Instance;" ∈ Ug := Ug_at 112 (by decide +kernel) (by decide +kernel)
theorem m_113 : Cond.fieldLink RX1 16 RX1 "saved" "LBooleanConstraints$Instance;" ∈ Ug := Ug_at 113 (by decide +kernel) (by decide +kernel)
theorem m_114 : Cond.fieldLink RX1 19 RX1 "hasSnapshot" "Z" ∈ Ug := Ug_at 114 (by decide +kernel) (by decide +kernel)
theorem m_115 : Cond.fieldLink RX1 23 RX1 "input" "[C" ∈ Ug := Ug_at 115 (by decide +kernel) (by decide +kernel)
theorem m_116 : Cond.fieldLink RX1 27 RX1 "inputLength" "I" ∈ Ug := Ug_at 116 (by decide +kernel) (by decide +kernel)
theorem m_117 : Cond.fieldLink RX1 31 RX1 "lastErrorPosition" "I" ∈ Ug := Ug_at 117 (by decide +kernel) (by decide +kernel)
theorem m_118 : Cond.fieldLink RX1 34 RX1 "output" "[C" ∈ Ug := Ug_at 118 (by decide +kernel) (by decide +kernel)
theorem m_119 : Cond.fieldLink RX1 37 RX1 "outputLength" "I" ∈ Ug := Ug_at 119 (by decide +kernel) (by decide +kernel)
theorem m_120 : Cond.fieldLink RX1 40 RX1 "flagLengths" "[I" ∈ Ug := Ug_at 120 (by decide +kernel) (by decide +kernel)
theorem m_121 : Cond.fieldLink RX1 44 RX1 "flagBits" "[I" ∈ Ug := Ug_at 121 (by decide +kernel) (by decide +kernel)
theorem e_156 : Cond.methodLinkNest RX1 201 yX0_countSolutions RX1 ∈ Ue := Ue_at 156 (by decide +kernel) rfl
theorem m_158 : Cond.instanceMethod yX0_countSolutions ∈ Ug := Ug_at 158 (by decide +kernel) (by decide +kernel)
theorem m_159 : Cond.code yX0_countSolutions cX0_countSolutions 3 (some .int) ∈ Ug := Ug_at 159 (by decide +kernel) (by decide +kernel)
theorem m_160 : Cond.methodLink RX0 73 yX0_wordCount ∈ Ug := Ug_at 160 (by decide +kernel) (by decide +kernel)
theorem m_162 : Cond.instanceMethod yX0_wordCount ∈ Ug := Ug_at 162 (by decide +kernel) (by decide +kernel)
theorem m_163 : Cond.code yX0_wordCount cX0_wordCount 1 (some .int) ∈ Ug := Ug_at 163 (by decide +kernel) (by decide +kernel)
theorem m_164 : Cond.methodLink RX0 77 yX0_solutionsIn ∈ Ug := Ug_at 164 (by decide +kernel) (by decide +kernel)
theorem m_166 : Cond.instanceMethod yX0_solutionsIn ∈ Ug := Ug_at 166 (by decide +kernel) (by decide +kernel)
theorem m_167 : Cond.code yX0_solutionsIn cX0_solutionsIn 6 (some .long) ∈ Ug := Ug_at 167 (by decide +kernel) (by decide +kernel)
theorem m_168 : Cond.methodLink RX0 66 yX0_assignmentsOfAWord ∈ Ug := Ug_at 168 (by decide +kernel) (by decide +kernel)
theorem m_170 : Cond.instanceMethod yX0_assignmentsOfAWord ∈ Ug := Ug_at 170 (by decide +kernel) (by decide +kernel)
theorem m_171 : Cond.code yX0_assignmentsOfAWord cX0_assignmentsOfAWord 1 (some .long) ∈ Ug := Ug_at 171 (by decide +kernel) (by decide +kernel)
theorem m_172 : Cond.constantLong RX0 40 (-1 : Int64) ∈ Ug := Ug_at 172 (by decide +kernel) (by decide +kernel)
theorem e_173 : Cond.methodLinkNest RX0 46 yX1_has RX1 ∈ Ue := Ue_at 173 (by decide +kernel) rfl
theorem m_174 : Cond.static yX1_has ∈ Ug := Ug_at 174 (by decide +kernel) (by decide +kernel)
theorem m_175 : Cond.code yX1_has cX1_has 2 (some .boolean) ∈ Ug := Ug_at 175 (by decide +kernel) (by decide +kernel)
theorem m_176 : Cond.methodLink RX0 70 yX0_satisfying ∈ Ug := Ug_at 176 (by decide +kernel) (by decide +kernel)
theorem m_178 : Cond.instanceMethod yX0_satisfying ∈ Ug := Ug_at 178 (by decide +kernel) (by decide +kernel)
theorem m_179 : Cond.code yX0_satisfying cX0_satisfying 4 (some .long) ∈ Ug := Ug_at 179 (by decide +kernel) (by decide +kernel)
theorem m_180 : Cond.methodLink RX0 62 yX0_assignmentsInto ∈ Ug := Ug_at 180 (by decide +kernel) (by decide +kernel)
theorem m_181 : Cond.static yX0_assignmentsInto ∈ Ug := Ug_at 181 (by decide +kernel) (by decide +kernel)
theorem m_182 : Cond.code yX0_assignmentsInto cX0_assignmentsInto 11 (some .long) ∈ Ug := Ug_at 182 (by decide +kernel) (by decide +kernel)
theorem e_183 : Cond.methodLinkNest RX0 54 yX1_allTuples RX1 ∈ Ue := Ue_at 183 (by decide +kernel) rfl
theorem m_184 : Cond.static yX1_allTuples ∈ Ug := Ug_at 184 (by decide +kernel) (by decide +kernel)
theorem m_185 : Cond.code yX1_allTuples cX1_allTuples 1 (some .int) ∈ Ug := Ug_at 185 (by decide +kernel) (by decide +kernel)
theorem m_186 : Cond.methodLink RX0 58 yX0_variableAt ∈ Ug := Ug_at 186 (by decide +kernel) (by decide +kernel)
theorem m_187 : Cond.static yX0_variableAt ∈ Ug := Ug_at 187 (by decide +kernel) (by decide +kernel)
theorem m_188 : Cond.code yX0_variableAt cX0_variableAt 2 (some .int) ∈ Ug := Ug_at 188 (by decide +kernel) (by decide +kernel)
theorem m_189 : Cond.methodLink RX0 50 yX0_assignmentsWithOne ∈ Ug := Ug_at 189 (by decide +kernel) (by decide +kernel)
theorem m_190 : Cond.static yX0_assignmentsWithOne ∈ Ug := Ug_at 190 (by decide +kernel) (by decide +kernel)
theorem m_191 : Cond.code yX0_assignmentsWithOne cX0_assignmentsWithOne 2 (some .long) ∈ Ug := Ug_at 191 (by decide +kernel) (by decide +kernel)
theorem m_192 : Cond.fieldLink RX0 42 RX0 "ONES" "[J" ∈ Ug := Ug_at 192 (by decide +kernel) (by decide +kernel)
theorem m_194 : Cond.methodLink RX0 80 yJ13_bitCount_95d88 ∈ Ug := Ug_at 194 (by decide +kernel) (by decide +kernel)
theorem m_195 : Cond.static yJ13_bitCount_95d88 ∈ Ug := Ug_at 195 (by decide +kernel) (by decide +kernel)
theorem m_196 : Cond.code yJ13_bitCount_95d88 cJ13_bitCount_95d88 2 (some .int) ∈ Ug := Ug_at 196 (by decide +kernel) (by decide +kernel)
theorem m_197 : Cond.constantLong RJ13 314 (6148914691236517205 : Int64) ∈ Ug := Ug_at 197 (by decide +kernel) (by decide +kernel)
theorem m_198 : Cond.constantLong RJ13 316 (3689348814741910323 : Int64) ∈ Ug := Ug_at 198 (by decide +kernel) (by decide +kernel)
theorem m_199 : Cond.constantLong RJ13 318 (1085102592571150095 : Int64) ∈ Ug := Ug_at 199 (by decide +kernel) (by decide +kernel)
theorem e_204 : Cond.methodLinkNest RX1 241 yX0_isSpare RX1 ∈ Ue := Ue_at 204 (by decide +kernel) rfl
theorem m_206 : Cond.instanceMethod yX0_isSpare ∈ Ug := Ug_at 206 (by decide +kernel) (by decide +kernel)
theorem m_207 : Cond.code yX0_isSpare cX0_isSpare 6 (some .boolean) ∈ Ug := Ug_at 207 (by decide +kernel) (by decide +kernel)
theorem e_208 : Cond.methodLinkNest RX1 244 yX0_removeConstraints RX1 ∈ Ue := Ue_at 208 (by decide +kernel) rfl
theorem m_210 : Cond.instanceMethod yX0_removeConstraints ∈ Ug := Ug_at 210 (by decide +kernel) (by decide +kernel)
theorem m_211 : Cond.code yX0_removeConstraints cX0_removeConstraints 4 none ∈ Ug := Ug_at 211 (by decide +kernel) (by decide +kernel)
theorem m_212 : Cond.methodLink RX1 89 yJ6_bitCount_0f7a4 ∈ Ug := Ug_at 212 (by decide +kernel) (by decide +kernel)
theorem m_213 : Cond.static yJ6_bitCount_0f7a4 ∈ Ug := Ug_at 213 (by decide +kernel) (by decide +kernel)
theorem m_214 : Cond.code yJ6_bitCount_0f7a4 cJ6_bitCount_0f7a4 1 (some .int) ∈ Ug := Ug_at 214 (by decide +kernel) (by decide +kernel)
theorem m_215 : Cond.constant RJ6 265 (1431655765 : Int32) ∈ Ug := Ug_at 215 (by decide +kernel) (by decide +kernel)
theorem m_216 : Cond.constant RJ6 266 (858993459 : Int32) ∈ Ug := Ug_at 216 (by decide +kernel) (by decide +kernel)
theorem m_217 : Cond.constant RJ6 267 (252645135 : Int32) ∈ Ug := Ug_at 217 (by decide +kernel) (by decide +kernel)
theorem e_222 : Cond.methodLinkNest RX1 279 yX0_copyFrom RX1 ∈ Ue := Ue_at 222 (by decide +kernel) rfl
theorem m_224 : Cond.instanceMethod yX0_copyFrom ∈ Ug := Ug_at 224 (by decide +kernel) (by decide +kernel)
theorem m_225 : Cond.code yX0_copyFrom cX0_copyFrom 2 none ∈ Ug := Ug_at 225 (by decide +kernel) (by decide +kernel)
theorem m_238 : Cond.methodLink RX1 47 yX1_requireRelationArity ∈ Ug := Ug_at 238 (by decide +kernel) (by decide +kernel)
theorem m_239 : Cond.static yX1_requireRelationArity ∈ Ug := Ug_at 239 (by decide +kernel) (by decide +kernel)
theorem m_240 : Cond.code yX1_requireRelationArity cX1_requireRelationArity 1 none ∈ Ug := Ug_at 240 (by decide +kernel) (by decide +kernel)
theorem m_241 : Cond.classLink RX1 59 eIA ∈ Ug := Ug_at 241 (by decide +kernel) (by decide +kernel)
theorem m_311 : Cond.methodLink RX1 51 yX1_addNew ∈ Ug := Ug_at 311 (by decide +kernel) (by decide +kernel)
theorem m_313 : Cond.instanceMethod yX1_addNew ∈ Ug := Ug_at 313 (by decide +kernel) (by decide +kernel)
theorem m_314 : Cond.code yX1_addNew cX1_addNew 4 (some .int) ∈ Ug := Ug_at 314 (by decide +kernel) (by decide +kernel)
theorem m_315 : Cond.methodLink RX1 314 yX1_requireRoomForRelation ∈ Ug := Ug_at 315 (by decide +kernel) (by decide +kernel)
theorem m_317 : Cond.instanceMethod yX1_requireRoomForRelation ∈ Ug := Ug_at 317 (by decide +kernel) (by decide +kernel)
theorem m_318 : Cond.code yX1_requireRoomForRelation cX1_requireRoomForRelation 1 none ∈ Ug := Ug_at 318 (by decide +kernel) (by decide +kernel)
theorem m_319 : Cond.classLink RX1 184 eIS ∈ Ug := Ug_at 319 (by decide +kernel) (by decide +kernel)
theorem m_342 : Cond.methodLink RX1 55 yX1_greatestTuple ∈ Ug := Ug_at 342 (by decide +kernel) (by decide +kernel)
theorem m_343 : Cond.static yX1_greatestTuple ∈ Ug := Ug_at 343 (by decide +kernel) (by decide +kernel)
theorem m_344 : Cond.code yX1_greatestTuple cX1_greatestTuple 1 (some .int) ∈ Ug := Ug_at 344 (by decide +kernel) (by decide +kernel)
theorem m_346 : Cond.methodLink RX1 66 yX1_allTuples ∈ Ug := Ug_at 346 (by decide +kernel) (by decide +kernel)
theorem m_354 : Cond.methodLink RX1 69 yX1_requireBit ∈ Ug := Ug_at 354 (by decide +kernel) (by decide +kernel)
theorem m_355 : Cond.static yX1_requireBit ∈ Ug := Ug_at 355 (by decide +kernel) (by decide +kernel)
theorem m_356 : Cond.code yX1_requireBit cX1_requireBit 1 none ∈ Ug := Ug_at 356 (by decide +kernel) (by decide +kernel)
theorem m_358 : Cond.methodLink RX1 72 yX1_tuplesWithSum ∈ Ug := Ug_at 358 (by decide +kernel) (by decide +kernel)
theorem m_359 : Cond.static yX1_tuplesWithSum ∈ Ug := Ug_at 359 (by decide +kernel) (by decide +kernel)
theorem m_360 : Cond.code yX1_tuplesWithSum cX1_tuplesWithSum 4 (some .int) ∈ Ug := Ug_at 360 (by decide +kernel) (by decide +kernel)
theorem m_369 : Cond.methodLink RX1 75 yX1_requireRelation ∈ Ug := Ug_at 369 (by decide +kernel) (by decide +kernel)
theorem m_371 : Cond.instanceMethod yX1_requireRelation ∈ Ug := Ug_at 371 (by decide +kernel) (by decide +kernel)
theorem m_372 : Cond.code yX1_requireRelation cX1_requireRelation 2 none ∈ Ug := Ug_at 372 (by decide +kernel) (by decide +kernel)
theorem m_373 : Cond.classLink RX1 153 eIO ∈ Ug := Ug_at 373 (by decide +kernel) (by decide +kernel)
theorem m_389 : Cond.methodLink RX1 78 yX1_requireTuple ∈ Ug := Ug_at 389 (by decide +kernel) (by decide +kernel)
theorem m_391 : Cond.instanceMethod yX1_requireTuple ∈ Ug := Ug_at 391 (by decide +kernel) (by decide +kernel)
theorem m_392 : Cond.code yX1_requireTuple cX1_requireTuple 3 none ∈ Ug := Ug_at 392 (by decide +kernel) (by decide +kernel)
theorem m_394 : Cond.methodLink RX1 85 yX1_has ∈ Ug := Ug_at 394 (by decide +kernel) (by decide +kernel)
theorem m_452 : Cond.methodLink RX1 105 yX1_requirePosition ∈ Ug := Ug_at 452 (by decide +kernel) (by decide +kernel)
theorem m_454 : Cond.instanceMethod yX1_requirePosition ∈ Ug := Ug_at 454 (by decide +kernel) (by decide +kernel)
theorem m_455 : Cond.code yX1_requirePosition cX1_requirePosition 3 none ∈ Ug := Ug_at 455 (by decide +kernel) (by decide +kernel)
theorem m_458 : Cond.methodLink RX1 110 yX1_tuplesWithoutPosition ∈ Ug := Ug_at 458 (by decide +kernel) (by decide +kernel)
theorem m_459 : Cond.static yX1_tuplesWithoutPosition ∈ Ug := Ug_at 459 (by decide +kernel) (by decide +kernel)
theorem m_460 : Cond.code yX1_tuplesWithoutPosition cX1_tuplesWithoutPosition 5 (some .int) ∈ Ug := Ug_at 460 (by decide +kernel) (by decide +kernel)
theorem m_468 : Cond.methodLink RX1 113 yX1_tuplesWithExchange ∈ Ug := Ug_at 468 (by decide +kernel) (by decide +kernel)
theorem m_469 : Cond.static yX1_tuplesWithExchange ∈ Ug := Ug_at 469 (by decide +kernel) (by decide +kernel)
theorem m_470 : Cond.code yX1_tuplesWithExchange cX1_tuplesWithExchange 7 (some .int) ∈ Ug := Ug_at 470 (by decide +kernel) (by decide +kernel)
theorem m_478 : Cond.methodLink RX1 117 yX1_requireOperation ∈ Ug := Ug_at 478 (by decide +kernel) (by decide +kernel)
theorem m_479 : Cond.static yX1_requireOperation ∈ Ug := Ug_at 479 (by decide +kernel) (by decide +kernel)
theorem m_480 : Cond.code yX1_requireOperation cX1_requireOperation 2 none ∈ Ug := Ug_at 480 (by decide +kernel) (by decide +kernel)
theorem m_481 : Cond.methodLink RX1 130 yX1_requireOperationArity ∈ Ug := Ug_at 481 (by decide +kernel) (by decide +kernel)
theorem m_482 : Cond.static yX1_requireOperationArity ∈ Ug := Ug_at 482 (by decide +kernel) (by decide +kernel)
theorem m_483 : Cond.code yX1_requireOperationArity cX1_requireOperationArity 1 none ∈ Ug := Ug_at 483 (by decide +kernel) (by decide +kernel)
theorem m_485 : Cond.methodLink RX1 120 yX1_valueFor ∈ Ug := Ug_at 485 (by decide +kernel) (by decide +kernel)
theorem m_486 : Cond.static yX1_valueFor ∈ Ug := Ug_at 486 (by decide +kernel) (by decide +kernel)
theorem m_487 : Cond.code yX1_valueFor cX1_valueFor 3 (some .int) ∈ Ug := Ug_at 487 (by decide +kernel) (by decide +kernel)
theorem m_495 : Cond.methodLink RX1 123 yX1_isPreserved ∈ Ug := Ug_at 495 (by decide +kernel) (by decide +kernel)
theorem m_497 : Cond.instanceMethod yX1_isPreserved ∈ Ug := Ug_at 497 (by decide +kernel) (by decide +kernel)
theorem m_498 : Cond.code yX1_isPreserved cX1_isPreserved 4 (some .boolean) ∈ Ug := Ug_at 498 (by decide +kernel) (by decide +kernel)
theorem m_499 : Cond.methodLink RX1 149 yX1_escapingTuples ∈ Ug := Ug_at 499 (by decide +kernel) (by decide +kernel)
theorem m_500 : Cond.static yX1_escapingTuples ∈ Ug := Ug_at 500 (by decide +kernel) (by decide +kernel)
theorem m_501 : Cond.code yX1_escapingTuples cX1_escapingTuples 12 (some .int) ∈ Ug := Ug_at 501 (by decide +kernel) (by decide +kernel)
theorem m_502 : Cond.methodLink RX1 320 yX1_appliedToTwo ∈ Ug := Ug_at 502 (by decide +kernel) (by decide +kernel)
theorem m_503 : Cond.static yX1_appliedToTwo ∈ Ug := Ug_at 503 (by decide +kernel) (by decide +kernel)
theorem m_504 : Cond.code yX1_appliedToTwo cX1_appliedToTwo 3 (some .int) ∈ Ug := Ug_at 504 (by decide +kernel) (by decide +kernel)
theorem m_505 : Cond.methodLink RX1 323 yX1_tuplesChosenBy ∈ Ug := Ug_at 505 (by decide +kernel) (by decide +kernel)
theorem m_506 : Cond.static yX1_tuplesChosenBy ∈ Ug := Ug_at 506 (by decide +kernel) (by decide +kernel)
theorem m_507 : Cond.code yX1_tuplesChosenBy cX1_tuplesChosenBy 6 (some .int) ∈ Ug := Ug_at 507 (by decide +kernel) (by decide +kernel)
theorem m_515 : Cond.methodLink RX1 127 yX1_areAllPreserved ∈ Ug := Ug_at 515 (by decide +kernel) (by decide +kernel)
theorem m_517 : Cond.instanceMethod yX1_areAllPreserved ∈ Ug := Ug_at 517 (by decide +kernel) (by decide +kernel)
theorem m_518 : Cond.code yX1_areAllPreserved cX1_areAllPreserved 4 (some .boolean) ∈ Ug := Ug_at 518 (by decide +kernel) (by decide +kernel)
theorem m_534 : Cond.classLink RX1 133 eNS ∈ Ug := Ug_at 534 (by decide +kernel) (by decide +kernel)
theorem m_564 : Cond.methodLink RX1 138 yX1_valuesAtZero ∈ Ug := Ug_at 564 (by decide +kernel) (by decide +kernel)
theorem m_565 : Cond.static yX1_valuesAtZero ∈ Ug := Ug_at 565 (by decide +kernel) (by decide +kernel)
theorem m_566 : Cond.code yX1_valuesAtZero cX1_valuesAtZero 3 (some .int) ∈ Ug := Ug_at 566 (by decide +kernel) (by decide +kernel)
theorem m_567 : Cond.methodLink RX1 144 yX1_argumentCode ∈ Ug := Ug_at 567 (by decide +kernel) (by decide +kernel)
theorem m_568 : Cond.static yX1_argumentCode ∈ Ug := Ug_at 568 (by decide +kernel) (by decide +kernel)
theorem m_569 : Cond.code yX1_argumentCode cX1_argumentCode 2 (some .int) ∈ Ug := Ug_at 569 (by decide +kernel) (by decide +kernel)
theorem m_570 : Cond.fieldLink RX1 317 RX1 "ARGUMENT_CODES" "[I" ∈ Ug := Ug_at 570 (by decide +kernel) (by decide +kernel)
theorem m_572 : Cond.methodLink RX1 141 yX1_valuesAtOne ∈ Ug := Ug_at 572 (by decide +kernel) (by decide +kernel)
theorem m_573 : Cond.static yX1_valuesAtOne ∈ Ug := Ug_at 573 (by decide +kernel) (by decide +kernel)
theorem m_574 : Cond.code yX1_valuesAtOne cX1_valuesAtOne 3 (some .int) ∈ Ug := Ug_at 574 (by decide +kernel) (by decide +kernel)
theorem m_620 : Cond.methodLink RX1 160 yX1_requireKind ∈ Ug := Ug_at 620 (by decide +kernel) (by decide +kernel)
theorem m_621 : Cond.static yX1_requireKind ∈ Ug := Ug_at 621 (by decide +kernel) (by decide +kernel)
theorem m_622 : Cond.code yX1_requireKind cX1_requireKind 1 none ∈ Ug := Ug_at 622 (by decide +kernel) (by decide +kernel)
theorem m_624 : Cond.fieldLink RX1 163 RX1 "KIND_ARITIES" "[I" ∈ Ug := Ug_at 624 (by decide +kernel) (by decide +kernel)
theorem m_626 : Cond.fieldLink RX1 166 RX1 "KIND_CODES" "[I" ∈ Ug := Ug_at 626 (by decide +kernel) (by decide +kernel)
theorem m_635 : Cond.methodLink RX1 169 yX1_isOfKind ∈ Ug := Ug_at 635 (by decide +kernel) (by decide +kernel)
theorem m_637 : Cond.instanceMethod yX1_isOfKind ∈ Ug := Ug_at 637 (by decide +kernel) (by decide +kernel)
theorem m_638 : Cond.code yX1_isOfKind cX1_isOfKind 2 (some .boolean) ∈ Ug := Ug_at 638 (by decide +kernel) (by decide +kernel)
theorem m_662 : Cond.methodLink RX1 180 yX1_requireVariables ∈ Ug := Ug_at 662 (by decide +kernel) (by decide +kernel)
theorem m_664 : Cond.instanceMethod yX1_requireVariables ∈ Ug := Ug_at 664 (by decide +kernel) (by decide +kernel)
theorem m_665 : Cond.code yX1_requireVariables cX1_requireVariables 6 none ∈ Ug := Ug_at 665 (by decide +kernel) (by decide +kernel)
theorem m_666 : Cond.methodLink RX1 210 yX1_requireVariable ∈ Ug := Ug_at 666 (by decide +kernel) (by decide +kernel)
theorem m_668 : Cond.instanceMethod yX1_requireVariable ∈ Ug := Ug_at 668 (by decide +kernel) (by decide +kernel)
theorem m_669 : Cond.code yX1_requireVariable cX1_requireVariable 2 none ∈ Ug := Ug_at 669 (by decide +kernel) (by decide +kernel)
theorem m_672 : Cond.methodLink RX1 195 yX1_packedVariables ∈ Ug := Ug_at 672 (by decide +kernel) (by decide +kernel)
theorem m_673 : Cond.static yX1_packedVariables ∈ Ug := Ug_at 673 (by decide +kernel) (by decide +kernel)
theorem m_674 : Cond.code yX1_packedVariables cX1_packedVariables 6 (some .int) ∈ Ug := Ug_at 674 (by decide +kernel) (by decide +kernel)
theorem e_690 : Cond.methodLinkNest RX1 205 yX0_findSolution RX1 ∈ Ue := Ue_at 690 (by decide +kernel) rfl
theorem m_692 : Cond.instanceMethod yX0_findSolution ∈ Ug := Ug_at 692 (by decide +kernel) (by decide +kernel)
theorem m_693 : Cond.code yX0_findSolution cX0_findSolution 7 (some .int) ∈ Ug := Ug_at 693 (by decide +kernel) (by decide +kernel)
theorem m_694 : Cond.methodLink RX0 86 yX0_placeOfBit ∈ Ug := Ug_at 694 (by decide +kernel) (by decide +kernel)
theorem m_695 : Cond.static yX0_placeOfBit ∈ Ug := Ug_at 695 (by decide +kernel) (by decide +kernel)
theorem m_696 : Cond.code yX0_placeOfBit cX0_placeOfBit 6 (some .int) ∈ Ug := Ug_at 696 (by decide +kernel) (by decide +kernel)
theorem e_705 : Cond.methodLinkNest RX1 213 yX0_variablesThatTake RX1 ∈ Ue := Ue_at 705 (by decide +kernel) rfl
theorem m_707 : Cond.instanceMethod yX0_variablesThatTake ∈ Ug := Ug_at 707 (by decide +kernel) (by decide +kernel)
theorem m_708 : Cond.code yX0_variablesThatTake cX0_variablesThatTake 7 (some .int) ∈ Ug := Ug_at 708 (by decide +kernel) (by decide +kernel)
theorem m_709 : Cond.methodLink RX0 90 yX0_assignmentsWith ∈ Ug := Ug_at 709 (by decide +kernel) (by decide +kernel)
theorem m_710 : Cond.static yX0_assignmentsWith ∈ Ug := Ug_at 710 (by decide +kernel) (by decide +kernel)
theorem m_711 : Cond.code yX0_assignmentsWith cX0_assignmentsWith 5 (some .long) ∈ Ug := Ug_at 711 (by decide +kernel) (by decide +kernel)
theorem m_720 : Cond.methodLink RX1 216 yX1_requireKindOfLanguage ∈ Ug := Ug_at 720 (by decide +kernel) (by decide +kernel)
theorem m_722 : Cond.instanceMethod yX1_requireKindOfLanguage ∈ Ug := Ug_at 722 (by decide +kernel) (by decide +kernel)
theorem m_723 : Cond.code yX1_requireKindOfLanguage cX1_requireKindOfLanguage 2 none ∈ Ug := Ug_at 723 (by decide +kernel) (by decide +kernel)
theorem m_724 : Cond.classLink RX1 307 eUO ∈ Ug := Ug_at 724 (by decide +kernel) (by decide +kernel)
theorem m_740 : Cond.methodLink RX1 219 yX1_requireSolutions ∈ Ug := Ug_at 740 (by decide +kernel) (by decide +kernel)
theorem m_742 : Cond.instanceMethod yX1_requireSolutions ∈ Ug := Ug_at 742 (by decide +kernel) (by decide +kernel)
theorem m_743 : Cond.code yX1_requireSolutions cX1_requireSolutions 1 none ∈ Ug := Ug_at 743 (by decide +kernel) (by decide +kernel)
theorem e_745 : Cond.methodLinkNest RX1 222 yX0_greatestAssignment RX1 ∈ Ue := Ue_at 745 (by decide +kernel) rfl
theorem m_747 : Cond.instanceMethod yX0_greatestAssignment ∈ Ug := Ug_at 747 (by decide +kernel) (by decide +kernel)
theorem m_748 : Cond.code yX0_greatestAssignment cX0_greatestAssignment 1 (some .int) ∈ Ug := Ug_at 748 (by decide +kernel) (by decide +kernel)
theorem e_763 : Cond.methodLinkNest RX1 225 yX0_hasSolutionWith RX1 ∈ Ue := Ue_at 763 (by decide +kernel) rfl
theorem m_765 : Cond.instanceMethod yX0_hasSolutionWith ∈ Ug := Ug_at 765 (by decide +kernel) (by decide +kernel)
theorem m_766 : Cond.code yX0_hasSolutionWith cX0_hasSolutionWith 8 (some .boolean) ∈ Ug := Ug_at 766 (by decide +kernel) (by decide +kernel)
theorem e_781 : Cond.methodLinkNest RX1 229 yX0_tuplesOfSolutions RX1 ∈ Ue := Ue_at 781 (by decide +kernel) rfl
theorem m_783 : Cond.instanceMethod yX0_tuplesOfSolutions ∈ Ug := Ug_at 783 (by decide +kernel) (by decide +kernel)
theorem m_784 : Cond.code yX0_tuplesOfSolutions cX0_tuplesOfSolutions 8 (some .int) ∈ Ug := Ug_at 784 (by decide +kernel) (by decide +kernel)
theorem e_785 : Cond.methodLinkNest RX0 94 yX1_greatestTuple RX1 ∈ Ue := Ue_at 785 (by decide +kernel) rfl
theorem e_794 : Cond.methodLinkNest RX1 234 yX0_isSatisfied RX1 ∈ Ue := Ue_at 794 (by decide +kernel) rfl
theorem m_796 : Cond.instanceMethod yX0_isSatisfied ∈ Ug := Ug_at 796 (by decide +kernel) (by decide +kernel)
theorem m_797 : Cond.code yX0_isSatisfied cX0_isSatisfied 6 (some .boolean) ∈ Ug := Ug_at 797 (by decide +kernel) (by decide +kernel)
theorem m_823 : Cond.methodLink RX1 251 yX1_wrongPosition ∈ Ug := Ug_at 823 (by decide +kernel) (by decide +kernel)
theorem m_825 : Cond.instanceMethod yX1_wrongPosition ∈ Ug := Ug_at 825 (by decide +kernel) (by decide +kernel)
theorem m_826 : Cond.code yX1_wrongPosition cX1_wrongPosition 6 (some .int) ∈ Ug := Ug_at 826 (by decide +kernel) (by decide +kernel)
theorem m_827 : Cond.methodLink RX1 326 yX1_isWholeTuple ∈ Ug := Ug_at 827 (by decide +kernel) (by decide +kernel)
theorem m_828 : Cond.static yX1_isWholeTuple ∈ Ug := Ug_at 828 (by decide +kernel) (by decide +kernel)
theorem m_829 : Cond.code yX1_isWholeTuple cX1_isWholeTuple 2 (some .boolean) ∈ Ug := Ug_at 829 (by decide +kernel) (by decide +kernel)
theorem m_830 : Cond.methodLink RX1 329 yX1_isDigit ∈ Ug := Ug_at 830 (by decide +kernel) (by decide +kernel)
theorem m_831 : Cond.static yX1_isDigit ∈ Ug := Ug_at 831 (by decide +kernel) (by decide +kernel)
theorem m_832 : Cond.code yX1_isDigit cX1_isDigit 1 (some .boolean) ∈ Ug := Ug_at 832 (by decide +kernel) (by decide +kernel)
theorem m_834 : Cond.methodLink RX1 256 yX1_firstTupleLength ∈ Ug := Ug_at 834 (by decide +kernel) (by decide +kernel)
theorem m_836 : Cond.instanceMethod yX1_firstTupleLength ∈ Ug := Ug_at 836 (by decide +kernel) (by decide +kernel)
theorem m_837 : Cond.code yX1_firstTupleLength cX1_firstTupleLength 3 (some .int) ∈ Ug := Ug_at 837 (by decide +kernel) (by decide +kernel)
theorem m_838 : Cond.methodLink RX1 259 yX1_readTuples ∈ Ug := Ug_at 838 (by decide +kernel) (by decide +kernel)
theorem m_840 : Cond.instanceMethod yX1_readTuples ∈ Ug := Ug_at 840 (by decide +kernel) (by decide +kernel)
theorem m_841 : Cond.code yX1_readTuples cX1_readTuples 7 (some .int) ∈ Ug := Ug_at 841 (by decide +kernel) (by decide +kernel)
theorem m_857 : Cond.methodLink RX1 264 yX1_writeTuple ∈ Ug := Ug_at 857 (by decide +kernel) (by decide +kernel)
theorem m_859 : Cond.instanceMethod yX1_writeTuple ∈ Ug := Ug_at 859 (by decide +kernel) (by decide +kernel)
theorem m_860 : Cond.code yX1_writeTuple cX1_writeTuple 4 none ∈ Ug := Ug_at 860 (by decide +kernel) (by decide +kernel)
theorem m_861 : Cond.methodLink RX1 333 yX1_writeCharacter ∈ Ug := Ug_at 861 (by decide +kernel) (by decide +kernel)
theorem m_863 : Cond.instanceMethod yX1_writeCharacter ∈ Ug := Ug_at 863 (by decide +kernel) (by decide +kernel)
theorem m_864 : Cond.code yX1_writeCharacter cX1_writeCharacter 2 none ∈ Ug := Ug_at 864 (by decide +kernel) (by decide +kernel)
theorem m_880 : Cond.methodLink RX1 269 yX1_requireSlot ∈ Ug := Ug_at 880 (by decide +kernel) (by decide +kernel)
theorem m_881 : Cond.static yX1_requireSlot ∈ Ug := Ug_at 881 (by decide +kernel) (by decide +kernel)
theorem m_882 : Cond.code yX1_requireSlot cX1_requireSlot 1 none ∈ Ug := Ug_at 882 (by decide +kernel) (by decide +kernel)
theorem m_892 : Cond.methodLink RX1 274 yX1_requireFlags ∈ Ug := Ug_at 892 (by decide +kernel) (by decide +kernel)
theorem m_894 : Cond.instanceMethod yX1_requireFlags ∈ Ug := Ug_at 894 (by decide +kernel) (by decide +kernel)
theorem m_895 : Cond.code yX1_requireFlags cX1_requireFlags 2 none ∈ Ug := Ug_at 895 (by decide +kernel) (by decide +kernel)
theorem m_919 : Cond.fieldLink RX2 46 RX2 "thrown" "I" ∈ Ug := Ug_at 919 (by decide +kernel) (by decide +kernel)
theorem m_920 : Cond.fieldLink RX2 7 RX2 "arity" "[I" ∈ Ug := Ug_at 920 (by decide +kernel) (by decide +kernel)
theorem m_921 : Cond.fieldLink RX2 13 RX2 "tuples" "[I" ∈ Ug := Ug_at 921 (by decide +kernel) (by decide +kernel)
theorem m_922 : Cond.fieldLink RX2 49 RX2 "relations" "I" ∈ Ug := Ug_at 922 (by decide +kernel) (by decide +kernel)
theorem m_923 : Cond.fieldLink RX2 16 RX2 "relationOf" "[I" ∈ Ug := Ug_at 923 (by decide +kernel) (by decide +kernel)
theorem m_924 : Cond.fieldLink RX2 19 RX2 "variableOf" "[I" ∈ Ug := Ug_at 924 (by decide +kernel) (by decide +kernel)
theorem m_925 : Cond.fieldLink RX2 22 RX2 "variables" "I" ∈ Ug := Ug_at 925 (by decide +kernel) (by decide +kernel)
theorem m_926 : Cond.fieldLink RX2 84 RX2 "constraints" "I" ∈ Ug := Ug_at 926 (by decide +kernel) (by decide +kernel)
theorem m_927 : Cond.fieldLink RX2 26 RX2 "input" "[C" ∈ Ug := Ug_at 927 (by decide +kernel) (by decide +kernel)
theorem m_928 : Cond.fieldLink RX2 30 RX2 "output" "[C" ∈ Ug := Ug_at 928 (by decide +kernel) (by decide +kernel)
theorem m_929 : Cond.fieldLink RX2 143 RX2 "inputLength" "I" ∈ Ug := Ug_at 929 (by decide +kernel) (by decide +kernel)
theorem m_930 : Cond.fieldLink RX2 155 RX2 "outputLength" "I" ∈ Ug := Ug_at 930 (by decide +kernel) (by decide +kernel)
theorem m_931 : Cond.fieldLink RX2 33 RX2 "errorAt" "I" ∈ Ug := Ug_at 931 (by decide +kernel) (by decide +kernel)
theorem m_932 : Cond.fieldLink RX2 146 RX2 "readArity" "I" ∈ Ug := Ug_at 932 (by decide +kernel) (by decide +kernel)
theorem m_933 : Cond.fieldLink RX2 149 RX2 "readTuples" "I" ∈ Ug := Ug_at 933 (by decide +kernel) (by decide +kernel)
theorem m_934 : Cond.fieldLink RX2 36 RX2 "flags" "[Z" ∈ Ug := Ug_at 934 (by decide +kernel) (by decide +kernel)
theorem m_935 : Cond.fieldLink RX2 40 RX2 "flagCount" "[I" ∈ Ug := Ug_at 935 (by decide +kernel) (by decide +kernel)
theorem m_936 : Cond.fieldLink RX2 43 RX2 "saved" "[I" ∈ Ug := Ug_at 936 (by decide +kernel) (by decide +kernel)
theorem m_937 : Cond.fieldLink RX2 169 RX2 "cursor" "I" ∈ Ug := Ug_at 937 (by decide +kernel) (by decide +kernel)
theorem m_938 : Cond.fieldLink RX2 179 RX2 "hasSnapshot" "Z" ∈ Ug := Ug_at 938 (by decide +kernel) (by decide +kernel)
theorem m_939 : Cond.fieldLink RX2 165 RX2 "isSaving" "Z" ∈ Ug := Ug_at 939 (by decide +kernel) (by decide +kernel)
theorem m_992 : Cond.methodLink RX2 52 yX2_isBetween ∈ Ug := Ug_at 992 (by decide +kernel) (by decide +kernel)
theorem m_993 : Cond.static yX2_isBetween ∈ Ug := Ug_at 993 (by decide +kernel) (by decide +kernel)
theorem m_994 : Cond.code yX2_isBetween cX2_isBetween 3 (some .boolean) ∈ Ug := Ug_at 994 (by decide +kernel) (by decide +kernel)
theorem m_995 : Cond.methodLink RX2 56 yX2_fails ∈ Ug := Ug_at 995 (by decide +kernel) (by decide +kernel)
theorem m_997 : Cond.instanceMethod yX2_fails ∈ Ug := Ug_at 997 (by decide +kernel) (by decide +kernel)
theorem m_998 : Cond.code yX2_fails cX2_fails 2 (some .int) ∈ Ug := Ug_at 998 (by decide +kernel) (by decide +kernel)
theorem m_999 : Cond.methodLink RX2 60 yX2_adds ∈ Ug := Ug_at 999 (by decide +kernel) (by decide +kernel)
theorem m_1001 : Cond.instanceMethod yX2_adds ∈ Ug := Ug_at 1001 (by decide +kernel) (by decide +kernel)
theorem m_1002 : Cond.code yX2_adds cX2_adds 3 (some .int) ∈ Ug := Ug_at 1002 (by decide +kernel) (by decide +kernel)
theorem m_1007 : Cond.methodLink RX2 64 yX2_isTuple ∈ Ug := Ug_at 1007 (by decide +kernel) (by decide +kernel)
theorem m_1008 : Cond.static yX2_isTuple ∈ Ug := Ug_at 1008 (by decide +kernel) (by decide +kernel)
theorem m_1009 : Cond.code yX2_isTuple cX2_isTuple 2 (some .boolean) ∈ Ug := Ug_at 1009 (by decide +kernel) (by decide +kernel)
theorem m_1010 : Cond.methodLink RX2 68 yX2_allOf ∈ Ug := Ug_at 1010 (by decide +kernel) (by decide +kernel)
theorem m_1011 : Cond.static yX2_allOf ∈ Ug := Ug_at 1011 (by decide +kernel) (by decide +kernel)
theorem m_1012 : Cond.code yX2_allOf cX2_allOf 1 (some .int) ∈ Ug := Ug_at 1012 (by decide +kernel) (by decide +kernel)
theorem m_1017 : Cond.methodLink RX2 71 yX2_isBit ∈ Ug := Ug_at 1017 (by decide +kernel) (by decide +kernel)
theorem m_1018 : Cond.static yX2_isBit ∈ Ug := Ug_at 1018 (by decide +kernel) (by decide +kernel)
theorem m_1019 : Cond.code yX2_isBit cX2_isBit 1 (some .boolean) ∈ Ug := Ug_at 1019 (by decide +kernel) (by decide +kernel)
theorem m_1020 : Cond.methodLink RX2 75 yX2_bits ∈ Ug := Ug_at 1020 (by decide +kernel) (by decide +kernel)
theorem m_1021 : Cond.static yX2_bits ∈ Ug := Ug_at 1021 (by decide +kernel) (by decide +kernel)
theorem m_1022 : Cond.code yX2_bits cX2_bits 3 (some .int) ∈ Ug := Ug_at 1022 (by decide +kernel) (by decide +kernel)
theorem m_1027 : Cond.methodLink RX2 81 yX2_noTuple ∈ Ug := Ug_at 1027 (by decide +kernel) (by decide +kernel)
theorem m_1029 : Cond.instanceMethod yX2_noTuple ∈ Ug := Ug_at 1029 (by decide +kernel) (by decide +kernel)
theorem m_1030 : Cond.code yX2_noTuple cX2_noTuple 3 (some .int) ∈ Ug := Ug_at 1030 (by decide +kernel) (by decide +kernel)
theorem m_1031 : Cond.methodLink RX2 78 yX2_isRelation ∈ Ug := Ug_at 1031 (by decide +kernel) (by decide +kernel)
theorem m_1033 : Cond.instanceMethod yX2_isRelation ∈ Ug := Ug_at 1033 (by decide +kernel) (by decide +kernel)
theorem m_1034 : Cond.code yX2_isRelation cX2_isRelation 2 (some .boolean) ∈ Ug := Ug_at 1034 (by decide +kernel) (by decide +kernel)
theorem m_1083 : Cond.methodLink RX2 87 yX2_isOperation ∈ Ug := Ug_at 1083 (by decide +kernel) (by decide +kernel)
theorem m_1084 : Cond.static yX2_isOperation ∈ Ug := Ug_at 1084 (by decide +kernel) (by decide +kernel)
theorem m_1085 : Cond.code yX2_isOperation cX2_isOperation 2 (some .boolean) ∈ Ug := Ug_at 1085 (by decide +kernel) (by decide +kernel)
theorem m_1086 : Cond.methodLink RX2 90 yX2_placeOf ∈ Ug := Ug_at 1086 (by decide +kernel) (by decide +kernel)
theorem m_1087 : Cond.static yX2_placeOf ∈ Ug := Ug_at 1087 (by decide +kernel) (by decide +kernel)
theorem m_1088 : Cond.code yX2_placeOf cX2_placeOf 4 (some .int) ∈ Ug := Ug_at 1088 (by decide +kernel) (by decide +kernel)
theorem m_1093 : Cond.methodLink RX2 101 yX2_refuses ∈ Ug := Ug_at 1093 (by decide +kernel) (by decide +kernel)
theorem m_1095 : Cond.instanceMethod yX2_refuses ∈ Ug := Ug_at 1095 (by decide +kernel) (by decide +kernel)
theorem m_1096 : Cond.code yX2_refuses cX2_refuses 2 (some .boolean) ∈ Ug := Ug_at 1096 (by decide +kernel) (by decide +kernel)
theorem m_1097 : Cond.methodLink RX2 98 yX2_doesPreserve ∈ Ug := Ug_at 1097 (by decide +kernel) (by decide +kernel)
theorem m_1099 : Cond.instanceMethod yX2_doesPreserve ∈ Ug := Ug_at 1099 (by decide +kernel) (by decide +kernel)
theorem m_1100 : Cond.code yX2_doesPreserve cX2_doesPreserve 9 (some .boolean) ∈ Ug := Ug_at 1100 (by decide +kernel) (by decide +kernel)
theorem m_1101 : Cond.methodLink RX2 94 yX2_applied ∈ Ug := Ug_at 1101 (by decide +kernel) (by decide +kernel)
theorem m_1102 : Cond.static yX2_applied ∈ Ug := Ug_at 1102 (by decide +kernel) (by decide +kernel)
theorem m_1103 : Cond.code yX2_applied cX2_applied 7 (some .int) ∈ Ug := Ug_at 1103 (by decide +kernel) (by decide +kernel)
theorem m_1108 : Cond.methodLink RX2 104 yX2_isKept ∈ Ug := Ug_at 1108 (by decide +kernel) (by decide +kernel)
theorem m_1110 : Cond.instanceMethod yX2_isKept ∈ Ug := Ug_at 1110 (by decide +kernel) (by decide +kernel)
theorem m_1111 : Cond.code yX2_isKept cX2_isKept 4 (some .boolean) ∈ Ug := Ug_at 1111 (by decide +kernel) (by decide +kernel)
theorem m_1136 : Cond.methodLink RX2 107 yX2_madeOf ∈ Ug := Ug_at 1136 (by decide +kernel) (by decide +kernel)
theorem m_1137 : Cond.static yX2_madeOf ∈ Ug := Ug_at 1137 (by decide +kernel) (by decide +kernel)
theorem m_1138 : Cond.code yX2_madeOf cX2_madeOf 8 (some .int) ∈ Ug := Ug_at 1138 (by decide +kernel) (by decide +kernel)
theorem m_1155 : Cond.fieldLink RX2 110 RX2 "KIND_ARITY" "[I" ∈ Ug := Ug_at 1155 (by decide +kernel) (by decide +kernel)
theorem m_1157 : Cond.fieldLink RX2 113 RX2 "KIND_CODE" "[I" ∈ Ug := Ug_at 1157 (by decide +kernel) (by decide +kernel)
theorem m_1163 : Cond.methodLink RX2 116 yX2_has ∈ Ug := Ug_at 1163 (by decide +kernel) (by decide +kernel)
theorem m_1165 : Cond.instanceMethod yX2_has ∈ Ug := Ug_at 1165 (by decide +kernel) (by decide +kernel)
theorem m_1166 : Cond.code yX2_has cX2_has 2 (some .boolean) ∈ Ug := Ug_at 1166 (by decide +kernel) (by decide +kernel)
theorem m_1179 : Cond.methodLink RX2 122 yX2_areVariables ∈ Ug := Ug_at 1179 (by decide +kernel) (by decide +kernel)
theorem m_1181 : Cond.instanceMethod yX2_areVariables ∈ Ug := Ug_at 1181 (by decide +kernel) (by decide +kernel)
theorem m_1182 : Cond.code yX2_areVariables cX2_areVariables 6 (some .boolean) ∈ Ug := Ug_at 1182 (by decide +kernel) (by decide +kernel)
theorem m_1183 : Cond.methodLink RX2 119 yX2_isVariable ∈ Ug := Ug_at 1183 (by decide +kernel) (by decide +kernel)
theorem m_1185 : Cond.instanceMethod yX2_isVariable ∈ Ug := Ug_at 1185 (by decide +kernel) (by decide +kernel)
theorem m_1186 : Cond.code yX2_isVariable cX2_isVariable 2 (some .boolean) ∈ Ug := Ug_at 1186 (by decide +kernel) (by decide +kernel)
theorem m_1195 : Cond.methodLink RX2 132 yX2_solutions ∈ Ug := Ug_at 1195 (by decide +kernel) (by decide +kernel)
theorem m_1197 : Cond.instanceMethod yX2_solutions ∈ Ug := Ug_at 1197 (by decide +kernel) (by decide +kernel)
theorem m_1198 : Cond.code yX2_solutions cX2_solutions 3 (some .int) ∈ Ug := Ug_at 1198 (by decide +kernel) (by decide +kernel)
theorem m_1199 : Cond.methodLink RX2 129 yX2_solves ∈ Ug := Ug_at 1199 (by decide +kernel) (by decide +kernel)
theorem m_1201 : Cond.instanceMethod yX2_solves ∈ Ug := Ug_at 1201 (by decide +kernel) (by decide +kernel)
theorem m_1202 : Cond.code yX2_solves cX2_solves 4 (some .boolean) ∈ Ug := Ug_at 1202 (by decide +kernel) (by decide +kernel)
theorem m_1203 : Cond.methodLink RX2 126 yX2_isSatisfied ∈ Ug := Ug_at 1203 (by decide +kernel) (by decide +kernel)
theorem m_1205 : Cond.instanceMethod yX2_isSatisfied ∈ Ug := Ug_at 1205 (by decide +kernel) (by decide +kernel)
theorem m_1206 : Cond.code yX2_isSatisfied cX2_isSatisfied 5 (some .boolean) ∈ Ug := Ug_at 1206 (by decide +kernel) (by decide +kernel)
theorem m_1215 : Cond.methodLink RX2 136 yX2_doesImply ∈ Ug := Ug_at 1215 (by decide +kernel) (by decide +kernel)
theorem m_1217 : Cond.instanceMethod yX2_doesImply ∈ Ug := Ug_at 1217 (by decide +kernel) (by decide +kernel)
theorem m_1218 : Cond.code yX2_doesImply cX2_doesImply 6 (some .boolean) ∈ Ug := Ug_at 1218 (by decide +kernel) (by decide +kernel)
theorem m_1247 : Cond.methodLink RX2 140 yX2_isIdle ∈ Ug := Ug_at 1247 (by decide +kernel) (by decide +kernel)
theorem m_1249 : Cond.instanceMethod yX2_isIdle ∈ Ug := Ug_at 1249 (by decide +kernel) (by decide +kernel)
theorem m_1250 : Cond.code yX2_isIdle cX2_isIdle 3 (some .boolean) ∈ Ug := Ug_at 1250 (by decide +kernel) (by decide +kernel)
theorem m_1263 : Cond.methodLink RX2 152 yX2_reads ∈ Ug := Ug_at 1263 (by decide +kernel) (by decide +kernel)
theorem m_1265 : Cond.instanceMethod yX2_reads ∈ Ug := Ug_at 1265 (by decide +kernel) (by decide +kernel)
theorem m_1266 : Cond.code yX2_reads cX2_reads 5 (some .int) ∈ Ug := Ug_at 1266 (by decide +kernel) (by decide +kernel)
theorem m_1275 : Cond.methodLink RX2 158 yX2_puts ∈ Ug := Ug_at 1275 (by decide +kernel) (by decide +kernel)
theorem m_1277 : Cond.instanceMethod yX2_puts ∈ Ug := Ug_at 1277 (by decide +kernel) (by decide +kernel)
theorem m_1278 : Cond.code yX2_puts cX2_puts 2 none ∈ Ug := Ug_at 1278 (by decide +kernel) (by decide +kernel)
theorem m_1287 : Cond.methodLink RX2 162 yX2_isSlot ∈ Ug := Ug_at 1287 (by decide +kernel) (by decide +kernel)
theorem m_1288 : Cond.static yX2_isSlot ∈ Ug := Ug_at 1288 (by decide +kernel) (by decide +kernel)
theorem m_1289 : Cond.code yX2_isSlot cX2_isSlot 1 (some .boolean) ∈ Ug := Ug_at 1289 (by decide +kernel) (by decide +kernel)
theorem m_1302 : Cond.methodLink RX2 182 yX2_passState ∈ Ug := Ug_at 1302 (by decide +kernel) (by decide +kernel)
theorem m_1304 : Cond.instanceMethod yX2_passState ∈ Ug := Ug_at 1304 (by decide +kernel) (by decide +kernel)
theorem m_1305 : Cond.code yX2_passState cX2_passState 2 (some .int) ∈ Ug := Ug_at 1305 (by decide +kernel) (by decide +kernel)
theorem m_1306 : Cond.methodLink RX2 172 yX2_passes ∈ Ug := Ug_at 1306 (by decide +kernel) (by decide +kernel)
theorem m_1308 : Cond.instanceMethod yX2_passes ∈ Ug := Ug_at 1308 (by decide +kernel) (by decide +kernel)
theorem m_1309 : Cond.code yX2_passes cX2_passes 3 (some .int) ∈ Ug := Ug_at 1309 (by decide +kernel) (by decide +kernel)
theorem m_1310 : Cond.methodLink RX2 175 yX2_passAll ∈ Ug := Ug_at 1310 (by decide +kernel) (by decide +kernel)
theorem m_1312 : Cond.instanceMethod yX2_passAll ∈ Ug := Ug_at 1312 (by decide +kernel) (by decide +kernel)
theorem m_1313 : Cond.code yX2_passAll cX2_passAll 3 none ∈ Ug := Ug_at 1313 (by decide +kernel) (by decide +kernel)
theorem st_61 : (RX1, 61, "signs are out of range") ∈ sTx := List.mem_of_getElem? (i := 2) rfl
theorem st_103 : (RX1, 103, "the relations have different arities") ∈ sTx := List.mem_of_getElem? (i := 6) rfl
theorem st_108 : (RX1, 108, "the relation has arity 1") ∈ sTx := List.mem_of_getElem? (i := 8) rfl
theorem st_135 : (RX1, 135, "there is no such polymorphism") ∈ sTx := List.mem_of_getElem? (i := 10) rfl
theorem st_147 : (RX1, 147, "the operation agrees with no argument") ∈ sTx := List.mem_of_getElem? (i := 11) rfl
theorem st_155 : (RX1, 155, "there is no such argument") ∈ sTx := List.mem_of_getElem? (i := 12) rfl
theorem st_158 : (RX1, 158, "inner is out of range") ∈ sTx := List.mem_of_getElem? (i := 13) rfl
theorem st_173 : (RX1, 173, "the language is not easy") ∈ sTx := List.mem_of_getElem? (i := 15) rfl
theorem st_175 : (RX1, 175, "the number of variables is out of range") ∈ sTx := List.mem_of_getElem? (i := 16) rfl
theorem st_186 : (RX1, 186, "there are already 20 constraints") ∈ sTx := List.mem_of_getElem? (i := 18) rfl
theorem st_199 : (RX1, 199, "there are no constraints") ∈ sTx := List.mem_of_getElem? (i := 19) rfl
theorem st_208 : (RX1, 208, "there is no such solution") ∈ sTx := List.mem_of_getElem? (i := 20) rfl
theorem st_232 : (RX1, 232, "there is no such assignment") ∈ sTx := List.mem_of_getElem? (i := 23) rfl
theorem st_237 : (RX1, 237, "the assignment is a solution") ∈ sTx := List.mem_of_getElem? (i := 24) rfl
theorem st_239 : (RX1, 239, "there is no such constraint") ∈ sTx := List.mem_of_getElem? (i := 25) rfl
theorem st_247 : (RX1, 247, "the character code is out of range") ∈ sTx := List.mem_of_getElem? (i := 26) rfl
theorem st_249 : (RX1, 249, "the input has 60 characters") ∈ sTx := List.mem_of_getElem? (i := 27) rfl
theorem st_254 : (RX1, 254, "the input is not a valid text") ∈ sTx := List.mem_of_getElem? (i := 28) rfl
theorem st_262 : (RX1, 262, "no text was wrong so far") ∈ sTx := List.mem_of_getElem? (i := 29) rfl
theorem st_267 : (RX1, 267, "there is no such index of the output") ∈ sTx := List.mem_of_getElem? (i := 30) rfl
theorem st_272 : (RX1, 272, "the length is out of range") ∈ sTx := List.mem_of_getElem? (i := 32) rfl
theorem st_277 : (RX1, 277, "there is no such element") ∈ sTx := List.mem_of_getElem? (i := 34) rfl
theorem st_283 : (RX1, 283, "no snapshot was saved") ∈ sTx := List.mem_of_getElem? (i := 35) rfl
theorem st_285 : (RX1, 285, "the arity is out of range") ∈ sTx := List.mem_of_getElem? (i := 0) rfl
theorem st_287 : (RX1, 287, "there is no operation of this arity with this code") ∈ sTx := List.mem_of_getElem? (i := 9) rfl
theorem st_289 : (RX1, 289, "a value is neither 0 nor 1") ∈ sTx := List.mem_of_getElem? (i := 3) rfl
theorem st_291 : (RX1, 291, "the kind is out of range") ∈ sTx := List.mem_of_getElem? (i := 14) rfl
theorem st_293 : (RX1, 293, "there is no such slot") ∈ sTx := List.mem_of_getElem? (i := 31) rfl
theorem st_295 : (RX1, 295, "the slot is empty") ∈ sTx := List.mem_of_getElem? (i := 33) rfl
theorem st_297 : (RX1, 297, "there is no such relation") ∈ sTx := List.mem_of_getElem? (i := 4) rfl
theorem st_299 : (RX1, 299, "there is no such tuple") ∈ sTx := List.mem_of_getElem? (i := 5) rfl
theorem st_301 : (RX1, 301, "there is no such position") ∈ sTx := List.mem_of_getElem? (i := 7) rfl
theorem st_303 : (RX1, 303, "there are already 8 relations") ∈ sTx := List.mem_of_getElem? (i := 1) rfl
theorem st_305 : (RX1, 305, "there is no such variable") ∈ sTx := List.mem_of_getElem? (i := 17) rfl
theorem st_309 : (RX1, 309, "the language does not have the kind") ∈ sTx := List.mem_of_getElem? (i := 21) rfl
theorem st_312 : (RX1, 312, "there are no solutions") ∈ sTx := List.mem_of_getElem? (i := 22) rfl
theorem at_63 : ∀ w ∈ vx_atS RX1 63 eIA ["java/lang/RuntimeException", "java/lang/Exception"], w ∈ lw_tbl ∧ (goodWord w || exk w) = true := by decide +kernel
theorem go_63 : ∀ w ∈ vx_atS RX1 63 eIA ["java/lang/RuntimeException", "java/lang/Exception"], vx_ot w = true := by decide +kernel
theorem at_137 : ∀ w ∈ ns_atS RX1 137 eNS "java/lang/RuntimeException" ["java/lang/Exception"] 13 prog_17_method_4_code, w ∈ lw_tbl ∧ (goodWord w || exk w) = true := by decide +kernel
theorem go_137 : ∀ w ∈ ns_atS RX1 137 eNS "java/lang/RuntimeException" ["java/lang/Exception"] 13 prog_17_method_4_code, vx_ot w = true := by decide +kernel
theorem at_157 : ∀ w ∈ vx_atS RX1 157 eIO ["java/lang/RuntimeException", "java/lang/Exception"], w ∈ lw_tbl ∧ (goodWord w || exk w) = true := by decide +kernel
theorem go_157 : ∀ w ∈ vx_atS RX1 157 eIO ["java/lang/RuntimeException", "java/lang/Exception"], vx_ot w = true := by decide +kernel
theorem at_188 : ∀ w ∈ vx_atS RX1 188 eIS ["java/lang/RuntimeException", "java/lang/Exception"], w ∈ lw_tbl ∧ (goodWord w || exk w) = true := by decide +kernel
theorem go_188 : ∀ w ∈ vx_atS RX1 188 eIS ["java/lang/RuntimeException", "java/lang/Exception"], vx_ot w = true := by decide +kernel
theorem at_311 : ∀ w ∈ vx_atS RX1 311 eUO ["java/lang/RuntimeException", "java/lang/Exception"], w ∈ lw_tbl ∧ (goodWord w || exk w) = true := by decide +kernel
theorem go_311 : ∀ w ∈ vx_atS RX1 311 eUO ["java/lang/RuntimeException", "java/lang/Exception"], vx_ot w = true := by decide +kernel
theorem yk_X0_copyFrom : yX0_copyFrom.cls ≠ "java/lang/invoke/MethodHandle" ∧ yX0_copyFrom.cls ≠ "java/lang/invoke/VarHandle" ∧ (parseMethodDescriptor yX0_copyFrom.desc).map (fun d => d.parameters.length) = some 1 := ⟨by decide +kernel, by decide +kernel, by decide +kernel⟩
theorem yk_X0_greatestAssignment : yX0_greatestAssignment.cls ≠ "java/lang/invoke/MethodHandle" ∧ yX0_greatestAssignment.cls ≠ "java/lang/invoke/VarHandle" ∧ (parseMethodDescriptor yX0_greatestAssignment.desc).map (fun d => d.parameters.length) = some 0 := ⟨by decide +kernel, by decide +kernel, by decide +kernel⟩
theorem yk_X0_wordCount : yX0_wordCount.cls ≠ "java/lang/invoke/MethodHandle" ∧ yX0_wordCount.cls ≠ "java/lang/invoke/VarHandle" ∧ (parseMethodDescriptor yX0_wordCount.desc).map (fun d => d.parameters.length) = some 0 := ⟨by decide +kernel, by decide +kernel, by decide +kernel⟩
theorem yk_X0_assignmentsOfAWord : yX0_assignmentsOfAWord.cls ≠ "java/lang/invoke/MethodHandle" ∧ yX0_assignmentsOfAWord.cls ≠ "java/lang/invoke/VarHandle" ∧ (parseMethodDescriptor yX0_assignmentsOfAWord.desc).map (fun d => d.parameters.length) = some 0 := ⟨by decide +kernel, by decide +kernel, by decide +kernel⟩
theorem yk_X0_variableAt : yX0_variableAt.cls ≠ "java/lang/invoke/MethodHandle" ∧ yX0_variableAt.cls ≠ "java/lang/invoke/VarHandle" ∧ (parseMethodDescriptor yX0_variableAt.desc).map (fun d => d.parameters.length) = some 2 := ⟨by decide +kernel, by decide +kernel, by decide +kernel⟩
theorem yk_X0_assignmentsWithOne : yX0_assignmentsWithOne.cls ≠ "java/lang/invoke/MethodHandle" ∧ yX0_assignmentsWithOne.cls ≠ "java/lang/invoke/VarHandle" ∧ (parseMethodDescriptor yX0_assignmentsWithOne.desc).map (fun d => d.parameters.length) = some 2 := ⟨by decide +kernel, by decide +kernel, by decide +kernel⟩
theorem yk_X0_assignmentsWith : yX0_assignmentsWith.cls ≠ "java/lang/invoke/MethodHandle" ∧ yX0_assignmentsWith.cls ≠ "java/lang/invoke/VarHandle" ∧ (parseMethodDescriptor yX0_assignmentsWith.desc).map (fun d => d.parameters.length) = some 3 := ⟨by decide +kernel, by decide +kernel, by decide +kernel⟩
theorem yk_X0_assignmentsInto : yX0_assignmentsInto.cls ≠ "java/lang/invoke/MethodHandle" ∧ yX0_assignmentsInto.cls ≠ "java/lang/invoke/VarHandle" ∧ (parseMethodDescriptor yX0_assignmentsInto.desc).map (fun d => d.parameters.length) = some 4 := ⟨by decide +kernel, by decide +kernel, by decide +kernel⟩
theorem yk_X0_satisfying : yX0_satisfying.cls ≠ "java/lang/invoke/MethodHandle" ∧ yX0_satisfying.cls ≠ "java/lang/invoke/VarHandle" ∧ (parseMethodDescriptor yX0_satisfying.desc).map (fun d => d.parameters.length) = some 2 := ⟨by decide +kernel, by decide +kernel, by decide +kernel⟩
theorem yk_X0_solutionsIn : yX0_solutionsIn.cls ≠ "java/lang/invoke/MethodHandle" ∧ yX0_solutionsIn.cls ≠ "java/lang/invoke/VarHandle" ∧ (parseMethodDescriptor yX0_solutionsIn.desc).map (fun d => d.parameters.length) = some 2 := ⟨by decide +kernel, by decide +kernel, by decide +kernel⟩
theorem yk_X0_countSolutions : yX0_countSolutions.cls ≠ "java/lang/invoke/MethodHandle" ∧ yX0_countSolutions.cls ≠ "java/lang/invoke/VarHandle" ∧ (parseMethodDescriptor yX0_countSolutions.desc).map (fun d => d.parameters.length) = some 0 := ⟨by decide +kernel, by decide +kernel, by decide +kernel⟩
theorem yk_X0_findSolution : yX0_findSolution.cls ≠ "java/lang/invoke/MethodHandle" ∧ yX0_findSolution.cls ≠ "java/lang/invoke/VarHandle" ∧ (parseMethodDescriptor yX0_findSolution.desc).map (fun d => d.parameters.length) = some 1 := ⟨by decide +kernel, by decide +kernel, by decide +kernel⟩
theorem yk_X0_placeOfBit : yX0_placeOfBit.cls ≠ "java/lang/invoke/MethodHandle" ∧ yX0_placeOfBit.cls ≠ "java/lang/invoke/VarHandle" ∧ (parseMethodDescriptor yX0_placeOfBit.desc).map (fun d => d.parameters.length) = some 2 := ⟨by decide +kernel, by decide +kernel, by decide +kernel⟩
theorem yk_X0_variablesThatTake : yX0_variablesThatTake.cls ≠ "java/lang/invoke/MethodHandle" ∧ yX0_variablesThatTake.cls ≠ "java/lang/invoke/VarHandle" ∧ (parseMethodDescriptor yX0_variablesThatTake.desc).map (fun d => d.parameters.length) = some 1 := ⟨by decide +kernel, by decide +kernel, by decide +kernel⟩
theorem yk_X0_hasSolutionWith : yX0_hasSolutionWith.cls ≠ "java/lang/invoke/MethodHandle" ∧ yX0_hasSolutionWith.cls ≠ "java/lang/invoke/VarHandle" ∧ (parseMethodDescriptor yX0_hasSolutionWith.desc).map (fun d => d.parameters.length) = some 4 := ⟨by decide +kernel, by decide +kernel, by decide +kernel⟩
theorem yk_X0_tuplesOfSolutions : yX0_tuplesOfSolutions.cls ≠ "java/lang/invoke/MethodHandle" ∧ yX0_tuplesOfSolutions.cls ≠ "java/lang/invoke/VarHandle" ∧ (parseMethodDescriptor yX0_tuplesOfSolutions.desc).map (fun d => d.parameters.length) = some 2 := ⟨by decide +kernel, by decide +kernel, by decide +kernel⟩
theorem yk_X0_isSatisfied : yX0_isSatisfied.cls ≠ "java/lang/invoke/MethodHandle" ∧ yX0_isSatisfied.cls ≠ "java/lang/invoke/VarHandle" ∧ (parseMethodDescriptor yX0_isSatisfied.desc).map (fun d => d.parameters.length) = some 2 := ⟨by decide +kernel, by decide +kernel, by decide +kernel⟩
theorem yk_X0_isSpare : yX0_isSpare.cls ≠ "java/lang/invoke/MethodHandle" ∧ yX0_isSpare.cls ≠ "java/lang/invoke/VarHandle" ∧ (parseMethodDescriptor yX0_isSpare.desc).map (fun d => d.parameters.length) = some 2 := ⟨by decide +kernel, by decide +kernel, by decide +kernel⟩
theorem yk_X0_removeConstraints : yX0_removeConstraints.cls ≠ "java/lang/invoke/MethodHandle" ∧ yX0_removeConstraints.cls ≠ "java/lang/invoke/VarHandle" ∧ (parseMethodDescriptor yX0_removeConstraints.desc).map (fun d => d.parameters.length) = some 1 := ⟨by decide +kernel, by decide +kernel, by decide +kernel⟩
theorem yk_X1_addRelation : yX1_addRelation.cls ≠ "java/lang/invoke/MethodHandle" ∧ yX1_addRelation.cls ≠ "java/lang/invoke/VarHandle" ∧ (parseMethodDescriptor yX1_addRelation.desc).map (fun d => d.parameters.length) = some 1 := ⟨by decide +kernel, by decide +kernel, by decide +kernel⟩
theorem yk_X1_addClause : yX1_addClause.cls ≠ "java/lang/invoke/MethodHandle" ∧ yX1_addClause.cls ≠ "java/lang/invoke/VarHandle" ∧ (parseMethodDescriptor yX1_addClause.desc).map (fun d => d.parameters.length) = some 2 := ⟨by decide +kernel, by decide +kernel, by decide +kernel⟩
theorem yk_X1_addParity : yX1_addParity.cls ≠ "java/lang/invoke/MethodHandle" ∧ yX1_addParity.cls ≠ "java/lang/invoke/VarHandle" ∧ (parseMethodDescriptor yX1_addParity.desc).map (fun d => d.parameters.length) = some 2 := ⟨by decide +kernel, by decide +kernel, by decide +kernel⟩
theorem yk_X1_addTuple : yX1_addTuple.cls ≠ "java/lang/invoke/MethodHandle" ∧ yX1_addTuple.cls ≠ "java/lang/invoke/VarHandle" ∧ (parseMethodDescriptor yX1_addTuple.desc).map (fun d => d.parameters.length) = some 2 := ⟨by decide +kernel, by decide +kernel, by decide +kernel⟩
theorem yk_X1_removeTuple : yX1_removeTuple.cls ≠ "java/lang/invoke/MethodHandle" ∧ yX1_removeTuple.cls ≠ "java/lang/invoke/VarHandle" ∧ (parseMethodDescriptor yX1_removeTuple.desc).map (fun d => d.parameters.length) = some 2 := ⟨by decide +kernel, by decide +kernel, by decide +kernel⟩
theorem yk_X1_contains : yX1_contains.cls ≠ "java/lang/invoke/MethodHandle" ∧ yX1_contains.cls ≠ "java/lang/invoke/VarHandle" ∧ (parseMethodDescriptor yX1_contains.desc).map (fun d => d.parameters.length) = some 2 := ⟨by decide +kernel, by decide +kernel, by decide +kernel⟩
theorem yk_X1_tupleCount : yX1_tupleCount.cls ≠ "java/lang/invoke/MethodHandle" ∧ yX1_tupleCount.cls ≠ "java/lang/invoke/VarHandle" ∧ (parseMethodDescriptor yX1_tupleCount.desc).map (fun d => d.parameters.length) = some 1 := ⟨by decide +kernel, by decide +kernel, by decide +kernel⟩
theorem yk_X1_arity : yX1_arity.cls ≠ "java/lang/invoke/MethodHandle" ∧ yX1_arity.cls ≠ "java/lang/invoke/VarHandle" ∧ (parseMethodDescriptor yX1_arity.desc).map (fun d => d.parameters.length) = some 1 := ⟨by decide +kernel, by decide +kernel, by decide +kernel⟩
theorem yk_X1_relationCount : yX1_relationCount.cls ≠ "java/lang/invoke/MethodHandle" ∧ yX1_relationCount.cls ≠ "java/lang/invoke/VarHandle" ∧ (parseMethodDescriptor yX1_relationCount.desc).map (fun d => d.parameters.length) = some 0 := ⟨by decide +kernel, by decide +kernel, by decide +kernel⟩
theorem yk_X1_areEqual : yX1_areEqual.cls ≠ "java/lang/invoke/MethodHandle" ∧ yX1_areEqual.cls ≠ "java/lang/invoke/VarHandle" ∧ (parseMethodDescriptor yX1_areEqual.desc).map (fun d => d.parameters.length) = some 2 := ⟨by decide +kernel, by decide +kernel, by decide +kernel⟩
theorem yk_X1_clear : yX1_clear.cls ≠ "java/lang/invoke/MethodHandle" ∧ yX1_clear.cls ≠ "java/lang/invoke/VarHandle" ∧ (parseMethodDescriptor yX1_clear.desc).map (fun d => d.parameters.length) = some 0 := ⟨by decide +kernel, by decide +kernel, by decide +kernel⟩
theorem yk_X1_addComplement : yX1_addComplement.cls ≠ "java/lang/invoke/MethodHandle" ∧ yX1_addComplement.cls ≠ "java/lang/invoke/VarHandle" ∧ (parseMethodDescriptor yX1_addComplement.desc).map (fun d => d.parameters.length) = some 1 := ⟨by decide +kernel, by decide +kernel, by decide +kernel⟩
theorem yk_X1_addIntersection : yX1_addIntersection.cls ≠ "java/lang/invoke/MethodHandle" ∧ yX1_addIntersection.cls ≠ "java/lang/invoke/VarHandle" ∧ (parseMethodDescriptor yX1_addIntersection.desc).map (fun d => d.parameters.length) = some 2 := ⟨by decide +kernel, by decide +kernel, by decide +kernel⟩
theorem yk_X1_addProjection : yX1_addProjection.cls ≠ "java/lang/invoke/MethodHandle" ∧ yX1_addProjection.cls ≠ "java/lang/invoke/VarHandle" ∧ (parseMethodDescriptor yX1_addProjection.desc).map (fun d => d.parameters.length) = some 2 := ⟨by decide +kernel, by decide +kernel, by decide +kernel⟩
theorem yk_X1_addExchanged : yX1_addExchanged.cls ≠ "java/lang/invoke/MethodHandle" ∧ yX1_addExchanged.cls ≠ "java/lang/invoke/VarHandle" ∧ (parseMethodDescriptor yX1_addExchanged.desc).map (fun d => d.parameters.length) = some 3 := ⟨by decide +kernel, by decide +kernel, by decide +kernel⟩
theorem yk_X1_apply : yX1_apply.cls ≠ "java/lang/invoke/MethodHandle" ∧ yX1_apply.cls ≠ "java/lang/invoke/VarHandle" ∧ (parseMethodDescriptor yX1_apply.desc).map (fun d => d.parameters.length) = some 5 := ⟨by decide +kernel, by decide +kernel, by decide +kernel⟩
theorem yk_X1_preserves : yX1_preserves.cls ≠ "java/lang/invoke/MethodHandle" ∧ yX1_preserves.cls ≠ "java/lang/invoke/VarHandle" ∧ (parseMethodDescriptor yX1_preserves.desc).map (fun d => d.parameters.length) = some 3 := ⟨by decide +kernel, by decide +kernel, by decide +kernel⟩
theorem yk_X1_isPolymorphism : yX1_isPolymorphism.cls ≠ "java/lang/invoke/MethodHandle" ∧ yX1_isPolymorphism.cls ≠ "java/lang/invoke/VarHandle" ∧ (parseMethodDescriptor yX1_isPolymorphism.desc).map (fun d => d.parameters.length) = some 2 := ⟨by decide +kernel, by decide +kernel, by decide +kernel⟩
theorem yk_X1_polymorphismCount : yX1_polymorphismCount.cls ≠ "java/lang/invoke/MethodHandle" ∧ yX1_polymorphismCount.cls ≠ "java/lang/invoke/VarHandle" ∧ (parseMethodDescriptor yX1_polymorphismCount.desc).map (fun d => d.parameters.length) = some 1 := ⟨by decide +kernel, by decide +kernel, by decide +kernel⟩
theorem yk_X1_polymorphism : yX1_polymorphism.cls ≠ "java/lang/invoke/MethodHandle" ∧ yX1_polymorphism.cls ≠ "java/lang/invoke/VarHandle" ∧ (parseMethodDescriptor yX1_polymorphism.desc).map (fun d => d.parameters.length) = some 2 := ⟨by decide +kernel, by decide +kernel, by decide +kernel⟩
theorem yk_X1_isIdempotent : yX1_isIdempotent.cls ≠ "java/lang/invoke/MethodHandle" ∧ yX1_isIdempotent.cls ≠ "java/lang/invoke/VarHandle" ∧ (parseMethodDescriptor yX1_isIdempotent.desc).map (fun d => d.parameters.length) = some 2 := ⟨by decide +kernel, by decide +kernel, by decide +kernel⟩
theorem yk_X1_isMonotone : yX1_isMonotone.cls ≠ "java/lang/invoke/MethodHandle" ∧ yX1_isMonotone.cls ≠ "java/lang/invoke/VarHandle" ∧ (parseMethodDescriptor yX1_isMonotone.desc).map (fun d => d.parameters.length) = some 2 := ⟨by decide +kernel, by decide +kernel, by decide +kernel⟩
theorem yk_X1_projectedArgument : yX1_projectedArgument.cls ≠ "java/lang/invoke/MethodHandle" ∧ yX1_projectedArgument.cls ≠ "java/lang/invoke/VarHandle" ∧ (parseMethodDescriptor yX1_projectedArgument.desc).map (fun d => d.parameters.length) = some 2 := ⟨by decide +kernel, by decide +kernel, by decide +kernel⟩
theorem yk_X1_close : yX1_close.cls ≠ "java/lang/invoke/MethodHandle" ∧ yX1_close.cls ≠ "java/lang/invoke/VarHandle" ∧ (parseMethodDescriptor yX1_close.desc).map (fun d => d.parameters.length) = some 3 := ⟨by decide +kernel, by decide +kernel, by decide +kernel⟩
theorem yk_X1_dual : yX1_dual.cls ≠ "java/lang/invoke/MethodHandle" ∧ yX1_dual.cls ≠ "java/lang/invoke/VarHandle" ∧ (parseMethodDescriptor yX1_dual.desc).map (fun d => d.parameters.length) = some 2 := ⟨by decide +kernel, by decide +kernel, by decide +kernel⟩
theorem yk_X1_dependsOn : yX1_dependsOn.cls ≠ "java/lang/invoke/MethodHandle" ∧ yX1_dependsOn.cls ≠ "java/lang/invoke/VarHandle" ∧ (parseMethodDescriptor yX1_dependsOn.desc).map (fun d => d.parameters.length) = some 3 := ⟨by decide +kernel, by decide +kernel, by decide +kernel⟩
theorem yk_X1_compose : yX1_compose.cls ≠ "java/lang/invoke/MethodHandle" ∧ yX1_compose.cls ≠ "java/lang/invoke/VarHandle" ∧ (parseMethodDescriptor yX1_compose.desc).map (fun d => d.parameters.length) = some 3 := ⟨by decide +kernel, by decide +kernel, by decide +kernel⟩
theorem yk_X1_relationHasKind : yX1_relationHasKind.cls ≠ "java/lang/invoke/MethodHandle" ∧ yX1_relationHasKind.cls ≠ "java/lang/invoke/VarHandle" ∧ (parseMethodDescriptor yX1_relationHasKind.desc).map (fun d => d.parameters.length) = some 2 := ⟨by decide +kernel, by decide +kernel, by decide +kernel⟩
theorem yk_X1_hasKind : yX1_hasKind.cls ≠ "java/lang/invoke/MethodHandle" ∧ yX1_hasKind.cls ≠ "java/lang/invoke/VarHandle" ∧ (parseMethodDescriptor yX1_hasKind.desc).map (fun d => d.parameters.length) = some 1 := ⟨by decide +kernel, by decide +kernel, by decide +kernel⟩
theorem yk_X1_lowestKind : yX1_lowestKind.cls ≠ "java/lang/invoke/MethodHandle" ∧ yX1_lowestKind.cls ≠ "java/lang/invoke/VarHandle" ∧ (parseMethodDescriptor yX1_lowestKind.desc).map (fun d => d.parameters.length) = some 0 := ⟨by decide +kernel, by decide +kernel, by decide +kernel⟩
theorem yk_X1_setVariables : yX1_setVariables.cls ≠ "java/lang/invoke/MethodHandle" ∧ yX1_setVariables.cls ≠ "java/lang/invoke/VarHandle" ∧ (parseMethodDescriptor yX1_setVariables.desc).map (fun d => d.parameters.length) = some 1 := ⟨by decide +kernel, by decide +kernel, by decide +kernel⟩
theorem yk_X1_addConstraint : yX1_addConstraint.cls ≠ "java/lang/invoke/MethodHandle" ∧ yX1_addConstraint.cls ≠ "java/lang/invoke/VarHandle" ∧ (parseMethodDescriptor yX1_addConstraint.desc).map (fun d => d.parameters.length) = some 5 := ⟨by decide +kernel, by decide +kernel, by decide +kernel⟩
theorem yk_X1_removeLastConstraint : yX1_removeLastConstraint.cls ≠ "java/lang/invoke/MethodHandle" ∧ yX1_removeLastConstraint.cls ≠ "java/lang/invoke/VarHandle" ∧ (parseMethodDescriptor yX1_removeLastConstraint.desc).map (fun d => d.parameters.length) = some 0 := ⟨by decide +kernel, by decide +kernel, by decide +kernel⟩
theorem yk_X1_solutionCount : yX1_solutionCount.cls ≠ "java/lang/invoke/MethodHandle" ∧ yX1_solutionCount.cls ≠ "java/lang/invoke/VarHandle" ∧ (parseMethodDescriptor yX1_solutionCount.desc).map (fun d => d.parameters.length) = some 0 := ⟨by decide +kernel, by decide +kernel, by decide +kernel⟩
theorem yk_X1_solution : yX1_solution.cls ≠ "java/lang/invoke/MethodHandle" ∧ yX1_solution.cls ≠ "java/lang/invoke/VarHandle" ∧ (parseMethodDescriptor yX1_solution.desc).map (fun d => d.parameters.length) = some 1 := ⟨by decide +kernel, by decide +kernel, by decide +kernel⟩
theorem yk_X1_isForced : yX1_isForced.cls ≠ "java/lang/invoke/MethodHandle" ∧ yX1_isForced.cls ≠ "java/lang/invoke/VarHandle" ∧ (parseMethodDescriptor yX1_isForced.desc).map (fun d => d.parameters.length) = some 2 := ⟨by decide +kernel, by decide +kernel, by decide +kernel⟩
theorem yk_X1_leastSolution : yX1_leastSolution.cls ≠ "java/lang/invoke/MethodHandle" ∧ yX1_leastSolution.cls ≠ "java/lang/invoke/VarHandle" ∧ (parseMethodDescriptor yX1_leastSolution.desc).map (fun d => d.parameters.length) = some 0 := ⟨by decide +kernel, by decide +kernel, by decide +kernel⟩
theorem yk_X1_greatestSolution : yX1_greatestSolution.cls ≠ "java/lang/invoke/MethodHandle" ∧ yX1_greatestSolution.cls ≠ "java/lang/invoke/VarHandle" ∧ (parseMethodDescriptor yX1_greatestSolution.desc).map (fun d => d.parameters.length) = some 0 := ⟨by decide +kernel, by decide +kernel, by decide +kernel⟩
theorem yk_X1_implies : yX1_implies.cls ≠ "java/lang/invoke/MethodHandle" ∧ yX1_implies.cls ≠ "java/lang/invoke/VarHandle" ∧ (parseMethodDescriptor yX1_implies.desc).map (fun d => d.parameters.length) = some 4 := ⟨by decide +kernel, by decide +kernel, by decide +kernel⟩
theorem yk_X1_dimension : yX1_dimension.cls ≠ "java/lang/invoke/MethodHandle" ∧ yX1_dimension.cls ≠ "java/lang/invoke/VarHandle" ∧ (parseMethodDescriptor yX1_dimension.desc).map (fun d => d.parameters.length) = some 0 := ⟨by decide +kernel, by decide +kernel, by decide +kernel⟩
theorem yk_X1_define : yX1_define.cls ≠ "java/lang/invoke/MethodHandle" ∧ yX1_define.cls ≠ "java/lang/invoke/VarHandle" ∧ (parseMethodDescriptor yX1_define.desc).map (fun d => d.parameters.length) = some 5 := ⟨by decide +kernel, by decide +kernel, by decide +kernel⟩
theorem yk_X1_firstViolated : yX1_firstViolated.cls ≠ "java/lang/invoke/MethodHandle" ∧ yX1_firstViolated.cls ≠ "java/lang/invoke/VarHandle" ∧ (parseMethodDescriptor yX1_firstViolated.desc).map (fun d => d.parameters.length) = some 1 := ⟨by decide +kernel, by decide +kernel, by decide +kernel⟩
theorem yk_X1_isRedundant : yX1_isRedundant.cls ≠ "java/lang/invoke/MethodHandle" ∧ yX1_isRedundant.cls ≠ "java/lang/invoke/VarHandle" ∧ (parseMethodDescriptor yX1_isRedundant.desc).map (fun d => d.parameters.length) = some 1 := ⟨by decide +kernel, by decide +kernel, by decide +kernel⟩
theorem yk_X1_removeRedundant : yX1_removeRedundant.cls ≠ "java/lang/invoke/MethodHandle" ∧ yX1_removeRedundant.cls ≠ "java/lang/invoke/VarHandle" ∧ (parseMethodDescriptor yX1_removeRedundant.desc).map (fun d => d.parameters.length) = some 0 := ⟨by decide +kernel, by decide +kernel, by decide +kernel⟩
theorem yk_X1_append : yX1_append.cls ≠ "java/lang/invoke/MethodHandle" ∧ yX1_append.cls ≠ "java/lang/invoke/VarHandle" ∧ (parseMethodDescriptor yX1_append.desc).map (fun d => d.parameters.length) = some 1 := ⟨by decide +kernel, by decide +kernel, by decide +kernel⟩
theorem yk_X1_parse : yX1_parse.cls ≠ "java/lang/invoke/MethodHandle" ∧ yX1_parse.cls ≠ "java/lang/invoke/VarHandle" ∧ (parseMethodDescriptor yX1_parse.desc).map (fun d => d.parameters.length) = some 0 := ⟨by decide +kernel, by decide +kernel, by decide +kernel⟩
theorem yk_X1_errorPosition : yX1_errorPosition.cls ≠ "java/lang/invoke/MethodHandle" ∧ yX1_errorPosition.cls ≠ "java/lang/invoke/VarHandle" ∧ (parseMethodDescriptor yX1_errorPosition.desc).map (fun d => d.parameters.length) = some 0 := ⟨by decide +kernel, by decide +kernel, by decide +kernel⟩
theorem yk_X1_write : yX1_write.cls ≠ "java/lang/invoke/MethodHandle" ∧ yX1_write.cls ≠ "java/lang/invoke/VarHandle" ∧ (parseMethodDescriptor yX1_write.desc).map (fun d => d.parameters.length) = some 1 := ⟨by decide +kernel, by decide +kernel, by decide +kernel⟩
theorem yk_X1_outputAt : yX1_outputAt.cls ≠ "java/lang/invoke/MethodHandle" ∧ yX1_outputAt.cls ≠ "java/lang/invoke/VarHandle" ∧ (parseMethodDescriptor yX1_outputAt.desc).map (fun d => d.parameters.length) = some 1 := ⟨by decide +kernel, by decide +kernel, by decide +kernel⟩
theorem yk_X1_storeFlags : yX1_storeFlags.cls ≠ "java/lang/invoke/MethodHandle" ∧ yX1_storeFlags.cls ≠ "java/lang/invoke/VarHandle" ∧ (parseMethodDescriptor yX1_storeFlags.desc).map (fun d => d.parameters.length) = some 3 := ⟨by decide +kernel, by decide +kernel, by decide +kernel⟩
theorem yk_X1_setFlag : yX1_setFlag.cls ≠ "java/lang/invoke/MethodHandle" ∧ yX1_setFlag.cls ≠ "java/lang/invoke/VarHandle" ∧ (parseMethodDescriptor yX1_setFlag.desc).map (fun d => d.parameters.length) = some 3 := ⟨by decide +kernel, by decide +kernel, by decide +kernel⟩
theorem yk_X1_takeFlags : yX1_takeFlags.cls ≠ "java/lang/invoke/MethodHandle" ∧ yX1_takeFlags.cls ≠ "java/lang/invoke/VarHandle" ∧ (parseMethodDescriptor yX1_takeFlags.desc).map (fun d => d.parameters.length) = some 2 := ⟨by decide +kernel, by decide +kernel, by decide +kernel⟩
theorem yk_X1_saveSnapshot : yX1_saveSnapshot.cls ≠ "java/lang/invoke/MethodHandle" ∧ yX1_saveSnapshot.cls ≠ "java/lang/invoke/VarHandle" ∧ (parseMethodDescriptor yX1_saveSnapshot.desc).map (fun d => d.parameters.length) = some 0 := ⟨by decide +kernel, by decide +kernel, by decide +kernel⟩
theorem yk_X1_restoreSnapshot : yX1_restoreSnapshot.cls ≠ "java/lang/invoke/MethodHandle" ∧ yX1_restoreSnapshot.cls ≠ "java/lang/invoke/VarHandle" ∧ (parseMethodDescriptor yX1_restoreSnapshot.desc).map (fun d => d.parameters.length) = some 0 := ⟨by decide +kernel, by decide +kernel, by decide +kernel⟩
theorem yk_X1_requireRelationArity : yX1_requireRelationArity.cls ≠ "java/lang/invoke/MethodHandle" ∧ yX1_requireRelationArity.cls ≠ "java/lang/invoke/VarHandle" ∧ (parseMethodDescriptor yX1_requireRelationArity.desc).map (fun d => d.parameters.length) = some 1 := ⟨by decide +kernel, by decide +kernel, by decide +kernel⟩
theorem yk_X1_requireOperationArity : yX1_requireOperationArity.cls ≠ "java/lang/invoke/MethodHandle" ∧ yX1_requireOperationArity.cls ≠ "java/lang/invoke/VarHandle" ∧ (parseMethodDescriptor yX1_requireOperationArity.desc).map (fun d => d.parameters.length) = some 1 := ⟨by decide +kernel, by decide +kernel, by decide +kernel⟩
theorem yk_X1_requireOperation : yX1_requireOperation.cls ≠ "java/lang/invoke/MethodHandle" ∧ yX1_requireOperation.cls ≠ "java/lang/invoke/VarHandle" ∧ (parseMethodDescriptor yX1_requireOperation.desc).map (fun d => d.parameters.length) = some 2 := ⟨by decide +kernel, by decide +kernel, by decide +kernel⟩
theorem yk_X1_requireBit : yX1_requireBit.cls ≠ "java/lang/invoke/MethodHandle" ∧ yX1_requireBit.cls ≠ "java/lang/invoke/VarHandle" ∧ (parseMethodDescriptor yX1_requireBit.desc).map (fun d => d.parameters.length) = some 1 := ⟨by decide +kernel, by decide +kernel, by decide +kernel⟩
theorem yk_X1_requireKind : yX1_requireKind.cls ≠ "java/lang/invoke/MethodHandle" ∧ yX1_requireKind.cls ≠ "java/lang/invoke/VarHandle" ∧ (parseMethodDescriptor yX1_requireKind.desc).map (fun d => d.parameters.length) = some 1 := ⟨by decide +kernel, by decide +kernel, by decide +kernel⟩
theorem yk_X1_requireSlot : yX1_requireSlot.cls ≠ "java/lang/invoke/MethodHandle" ∧ yX1_requireSlot.cls ≠ "java/lang/invoke/VarHandle" ∧ (parseMethodDescriptor yX1_requireSlot.desc).map (fun d => d.parameters.length) = some 1 := ⟨by decide +kernel, by decide +kernel, by decide +kernel⟩
theorem yk_X1_requireFlags : yX1_requireFlags.cls ≠ "java/lang/invoke/MethodHandle" ∧ yX1_requireFlags.cls ≠ "java/lang/invoke/VarHandle" ∧ (parseMethodDescriptor yX1_requireFlags.desc).map (fun d => d.parameters.length) = some 1 := ⟨by decide +kernel, by decide +kernel, by decide +kernel⟩
theorem yk_X1_requireRelation : yX1_requireRelation.cls ≠ "java/lang/invoke/MethodHandle" ∧ yX1_requireRelation.cls ≠ "java/lang/invoke/VarHandle" ∧ (parseMethodDescriptor yX1_requireRelation.desc).map (fun d => d.parameters.length) = some 1 := ⟨by decide +kernel, by decide +kernel, by decide +kernel⟩
theorem yk_X1_requireTuple : yX1_requireTuple.cls ≠ "java/lang/invoke/MethodHandle" ∧ yX1_requireTuple.cls ≠ "java/lang/invoke/VarHandle" ∧ (parseMethodDescriptor yX1_requireTuple.desc).map (fun d => d.parameters.length) = some 2 := ⟨by decide +kernel, by decide +kernel, by decide +kernel⟩
theorem yk_X1_requirePosition : yX1_requirePosition.cls ≠ "java/lang/invoke/MethodHandle" ∧ yX1_requirePosition.cls ≠ "java/lang/invoke/VarHandle" ∧ (parseMethodDescriptor yX1_requirePosition.desc).map (fun d => d.parameters.length) = some 2 := ⟨by decide +kernel, by decide +kernel, by decide +kernel⟩
theorem yk_X1_requireRoomForRelation : yX1_requireRoomForRelation.cls ≠ "java/lang/invoke/MethodHandle" ∧ yX1_requireRoomForRelation.cls ≠ "java/lang/invoke/VarHandle" ∧ (parseMethodDescriptor yX1_requireRoomForRelation.desc).map (fun d => d.parameters.length) = some 0 := ⟨by decide +kernel, by decide +kernel, by decide +kernel⟩
theorem yk_X1_requireVariable : yX1_requireVariable.cls ≠ "java/lang/invoke/MethodHandle" ∧ yX1_requireVariable.cls ≠ "java/lang/invoke/VarHandle" ∧ (parseMethodDescriptor yX1_requireVariable.desc).map (fun d => d.parameters.length) = some 1 := ⟨by decide +kernel, by decide +kernel, by decide +kernel⟩
theorem yk_X1_requireVariables : yX1_requireVariables.cls ≠ "java/lang/invoke/MethodHandle" ∧ yX1_requireVariables.cls ≠ "java/lang/invoke/VarHandle" ∧ (parseMethodDescriptor yX1_requireVariables.desc).map (fun d => d.parameters.length) = some 5 := ⟨by decide +kernel, by decide +kernel, by decide +kernel⟩
theorem yk_X1_requireKindOfLanguage : yX1_requireKindOfLanguage.cls ≠ "java/lang/invoke/MethodHandle" ∧ yX1_requireKindOfLanguage.cls ≠ "java/lang/invoke/VarHandle" ∧ (parseMethodDescriptor yX1_requireKindOfLanguage.desc).map (fun d => d.parameters.length) = some 1 := ⟨by decide +kernel, by decide +kernel, by decide +kernel⟩
theorem yk_X1_requireSolutions : yX1_requireSolutions.cls ≠ "java/lang/invoke/MethodHandle" ∧ yX1_requireSolutions.cls ≠ "java/lang/invoke/VarHandle" ∧ (parseMethodDescriptor yX1_requireSolutions.desc).map (fun d => d.parameters.length) = some 0 := ⟨by decide +kernel, by decide +kernel, by decide +kernel⟩
theorem yk_X1_addNew : yX1_addNew.cls ≠ "java/lang/invoke/MethodHandle" ∧ yX1_addNew.cls ≠ "java/lang/invoke/VarHandle" ∧ (parseMethodDescriptor yX1_addNew.desc).map (fun d => d.parameters.length) = some 2 := ⟨by decide +kernel, by decide +kernel, by decide +kernel⟩
theorem yk_X1_has : yX1_has.cls ≠ "java/lang/invoke/MethodHandle" ∧ yX1_has.cls ≠ "java/lang/invoke/VarHandle" ∧ (parseMethodDescriptor yX1_has.desc).map (fun d => d.parameters.length) = some 2 := ⟨by decide +kernel, by decide +kernel, by decide +kernel⟩
theorem yk_X1_greatestTuple : yX1_greatestTuple.cls ≠ "java/lang/invoke/MethodHandle" ∧ yX1_greatestTuple.cls ≠ "java/lang/invoke/VarHandle" ∧ (parseMethodDescriptor yX1_greatestTuple.desc).map (fun d => d.parameters.length) = some 1 := ⟨by decide +kernel, by decide +kernel, by decide +kernel⟩
theorem yk_X1_allTuples : yX1_allTuples.cls ≠ "java/lang/invoke/MethodHandle" ∧ yX1_allTuples.cls ≠ "java/lang/invoke/VarHandle" ∧ (parseMethodDescriptor yX1_allTuples.desc).map (fun d => d.parameters.length) = some 1 := ⟨by decide +kernel, by decide +kernel, by decide +kernel⟩
theorem yk_X1_tuplesWithSum : yX1_tuplesWithSum.cls ≠ "java/lang/invoke/MethodHandle" ∧ yX1_tuplesWithSum.cls ≠ "java/lang/invoke/VarHandle" ∧ (parseMethodDescriptor yX1_tuplesWithSum.desc).map (fun d => d.parameters.length) = some 2 := ⟨by decide +kernel, by decide +kernel, by decide +kernel⟩
theorem yk_X1_tuplesWithoutPosition : yX1_tuplesWithoutPosition.cls ≠ "java/lang/invoke/MethodHandle" ∧ yX1_tuplesWithoutPosition.cls ≠ "java/lang/invoke/VarHandle" ∧ (parseMethodDescriptor yX1_tuplesWithoutPosition.desc).map (fun d => d.parameters.length) = some 2 := ⟨by decide +kernel, by decide +kernel, by decide +kernel⟩
theorem yk_X1_tuplesWithExchange : yX1_tuplesWithExchange.cls ≠ "java/lang/invoke/MethodHandle" ∧ yX1_tuplesWithExchange.cls ≠ "java/lang/invoke/VarHandle" ∧ (parseMethodDescriptor yX1_tuplesWithExchange.desc).map (fun d => d.parameters.length) = some 3 := ⟨by decide +kernel, by decide +kernel, by decide +kernel⟩
theorem yk_X1_valueFor : yX1_valueFor.cls ≠ "java/lang/invoke/MethodHandle" ∧ yX1_valueFor.cls ≠ "java/lang/invoke/VarHandle" ∧ (parseMethodDescriptor yX1_valueFor.desc).map (fun d => d.parameters.length) = some 3 := ⟨by decide +kernel, by decide +kernel, by decide +kernel⟩
theorem yk_X1_argumentCode : yX1_argumentCode.cls ≠ "java/lang/invoke/MethodHandle" ∧ yX1_argumentCode.cls ≠ "java/lang/invoke/VarHandle" ∧ (parseMethodDescriptor yX1_argumentCode.desc).map (fun d => d.parameters.length) = some 2 := ⟨by decide +kernel, by decide +kernel, by decide +kernel⟩
theorem yk_X1_valuesAtZero : yX1_valuesAtZero.cls ≠ "java/lang/invoke/MethodHandle" ∧ yX1_valuesAtZero.cls ≠ "java/lang/invoke/VarHandle" ∧ (parseMethodDescriptor yX1_valuesAtZero.desc).map (fun d => d.parameters.length) = some 3 := ⟨by decide +kernel, by decide +kernel, by decide +kernel⟩
theorem yk_X1_valuesAtOne : yX1_valuesAtOne.cls ≠ "java/lang/invoke/MethodHandle" ∧ yX1_valuesAtOne.cls ≠ "java/lang/invoke/VarHandle" ∧ (parseMethodDescriptor yX1_valuesAtOne.desc).map (fun d => d.parameters.length) = some 3 := ⟨by decide +kernel, by decide +kernel, by decide +kernel⟩
theorem yk_X1_appliedToTwo : yX1_appliedToTwo.cls ≠ "java/lang/invoke/MethodHandle" ∧ yX1_appliedToTwo.cls ≠ "java/lang/invoke/VarHandle" ∧ (parseMethodDescriptor yX1_appliedToTwo.desc).map (fun d => d.parameters.length) = some 3 := ⟨by decide +kernel, by decide +kernel, by decide +kernel⟩
theorem yk_X1_escapingTuples : yX1_escapingTuples.cls ≠ "java/lang/invoke/MethodHandle" ∧ yX1_escapingTuples.cls ≠ "java/lang/invoke/VarHandle" ∧ (parseMethodDescriptor yX1_escapingTuples.desc).map (fun d => d.parameters.length) = some 4 := ⟨by decide +kernel, by decide +kernel, by decide +kernel⟩
theorem yk_X1_tuplesChosenBy : yX1_tuplesChosenBy.cls ≠ "java/lang/invoke/MethodHandle" ∧ yX1_tuplesChosenBy.cls ≠ "java/lang/invoke/VarHandle" ∧ (parseMethodDescriptor yX1_tuplesChosenBy.desc).map (fun d => d.parameters.length) = some 4 := ⟨by decide +kernel, by decide +kernel, by decide +kernel⟩
theorem yk_X1_isPreserved : yX1_isPreserved.cls ≠ "java/lang/invoke/MethodHandle" ∧ yX1_isPreserved.cls ≠ "java/lang/invoke/VarHandle" ∧ (parseMethodDescriptor yX1_isPreserved.desc).map (fun d => d.parameters.length) = some 3 := ⟨by decide +kernel, by decide +kernel, by decide +kernel⟩
theorem yk_X1_areAllPreserved : yX1_areAllPreserved.cls ≠ "java/lang/invoke/MethodHandle" ∧ yX1_areAllPreserved.cls ≠ "java/lang/invoke/VarHandle" ∧ (parseMethodDescriptor yX1_areAllPreserved.desc).map (fun d => d.parameters.length) = some 2 := ⟨by decide +kernel, by decide +kernel, by decide +kernel⟩
theorem yk_X1_isOfKind : yX1_isOfKind.cls ≠ "java/lang/invoke/MethodHandle" ∧ yX1_isOfKind.cls ≠ "java/lang/invoke/VarHandle" ∧ (parseMethodDescriptor yX1_isOfKind.desc).map (fun d => d.parameters.length) = some 1 := ⟨by decide +kernel, by decide +kernel, by decide +kernel⟩
theorem yk_X1_packedVariables : yX1_packedVariables.cls ≠ "java/lang/invoke/MethodHandle" ∧ yX1_packedVariables.cls ≠ "java/lang/invoke/VarHandle" ∧ (parseMethodDescriptor yX1_packedVariables.desc).map (fun d => d.parameters.length) = some 5 := ⟨by decide +kernel, by decide +kernel, by decide +kernel⟩
theorem yk_X1_wrongPosition : yX1_wrongPosition.cls ≠ "java/lang/invoke/MethodHandle" ∧ yX1_wrongPosition.cls ≠ "java/lang/invoke/VarHandle" ∧ (parseMethodDescriptor yX1_wrongPosition.desc).map (fun d => d.parameters.length) = some 1 := ⟨by decide +kernel, by decide +kernel, by decide +kernel⟩
theorem yk_X1_isWholeTuple : yX1_isWholeTuple.cls ≠ "java/lang/invoke/MethodHandle" ∧ yX1_isWholeTuple.cls ≠ "java/lang/invoke/VarHandle" ∧ (parseMethodDescriptor yX1_isWholeTuple.desc).map (fun d => d.parameters.length) = some 2 := ⟨by decide +kernel, by decide +kernel, by decide +kernel⟩
theorem yk_X1_isDigit : yX1_isDigit.cls ≠ "java/lang/invoke/MethodHandle" ∧ yX1_isDigit.cls ≠ "java/lang/invoke/VarHandle" ∧ (parseMethodDescriptor yX1_isDigit.desc).map (fun d => d.parameters.length) = some 1 := ⟨by decide +kernel, by decide +kernel, by decide +kernel⟩
theorem yk_X1_firstTupleLength : yX1_firstTupleLength.cls ≠ "java/lang/invoke/MethodHandle" ∧ yX1_firstTupleLength.cls ≠ "java/lang/invoke/VarHandle" ∧ (parseMethodDescriptor yX1_firstTupleLength.desc).map (fun d => d.parameters.length) = some 1 := ⟨by decide +kernel, by decide +kernel, by decide +kernel⟩
theorem yk_X1_readTuples : yX1_readTuples.cls ≠ "java/lang/invoke/MethodHandle" ∧ yX1_readTuples.cls ≠ "java/lang/invoke/VarHandle" ∧ (parseMethodDescriptor yX1_readTuples.desc).map (fun d => d.parameters.length) = some 2 := ⟨by decide +kernel, by decide +kernel, by decide +kernel⟩
theorem yk_X1_writeTuple : yX1_writeTuple.cls ≠ "java/lang/invoke/MethodHandle" ∧ yX1_writeTuple.cls ≠ "java/lang/invoke/VarHandle" ∧ (parseMethodDescriptor yX1_writeTuple.desc).map (fun d => d.parameters.length) = some 2 := ⟨by decide +kernel, by decide +kernel, by decide +kernel⟩
theorem yk_X1_writeCharacter : yX1_writeCharacter.cls ≠ "java/lang/invoke/MethodHandle" ∧ yX1_writeCharacter.cls ≠ "java/lang/invoke/VarHandle" ∧ (parseMethodDescriptor yX1_writeCharacter.desc).map (fun d => d.parameters.length) = some 1 := ⟨by decide +kernel, by decide +kernel, by decide +kernel⟩
theorem yk_X2_thrown : yX2_thrown.cls ≠ "java/lang/invoke/MethodHandle" ∧ yX2_thrown.cls ≠ "java/lang/invoke/VarHandle" ∧ (parseMethodDescriptor yX2_thrown.desc).map (fun d => d.parameters.length) = some 0 := ⟨by decide +kernel, by decide +kernel, by decide +kernel⟩
theorem yk_X2_fails : yX2_fails.cls ≠ "java/lang/invoke/MethodHandle" ∧ yX2_fails.cls ≠ "java/lang/invoke/VarHandle" ∧ (parseMethodDescriptor yX2_fails.desc).map (fun d => d.parameters.length) = some 1 := ⟨by decide +kernel, by decide +kernel, by decide +kernel⟩
theorem yk_X2_refuses : yX2_refuses.cls ≠ "java/lang/invoke/MethodHandle" ∧ yX2_refuses.cls ≠ "java/lang/invoke/VarHandle" ∧ (parseMethodDescriptor yX2_refuses.desc).map (fun d => d.parameters.length) = some 1 := ⟨by decide +kernel, by decide +kernel, by decide +kernel⟩
theorem yk_X2_isBetween : yX2_isBetween.cls ≠ "java/lang/invoke/MethodHandle" ∧ yX2_isBetween.cls ≠ "java/lang/invoke/VarHandle" ∧ (parseMethodDescriptor yX2_isBetween.desc).map (fun d => d.parameters.length) = some 3 := ⟨by decide +kernel, by decide +kernel, by decide +kernel⟩
theorem yk_X2_isBit : yX2_isBit.cls ≠ "java/lang/invoke/MethodHandle" ∧ yX2_isBit.cls ≠ "java/lang/invoke/VarHandle" ∧ (parseMethodDescriptor yX2_isBit.desc).map (fun d => d.parameters.length) = some 1 := ⟨by decide +kernel, by decide +kernel, by decide +kernel⟩
theorem yk_X2_bits : yX2_bits.cls ≠ "java/lang/invoke/MethodHandle" ∧ yX2_bits.cls ≠ "java/lang/invoke/VarHandle" ∧ (parseMethodDescriptor yX2_bits.desc).map (fun d => d.parameters.length) = some 1 := ⟨by decide +kernel, by decide +kernel, by decide +kernel⟩
theorem yk_X2_isRelation : yX2_isRelation.cls ≠ "java/lang/invoke/MethodHandle" ∧ yX2_isRelation.cls ≠ "java/lang/invoke/VarHandle" ∧ (parseMethodDescriptor yX2_isRelation.desc).map (fun d => d.parameters.length) = some 1 := ⟨by decide +kernel, by decide +kernel, by decide +kernel⟩
theorem yk_X2_allOf : yX2_allOf.cls ≠ "java/lang/invoke/MethodHandle" ∧ yX2_allOf.cls ≠ "java/lang/invoke/VarHandle" ∧ (parseMethodDescriptor yX2_allOf.desc).map (fun d => d.parameters.length) = some 1 := ⟨by decide +kernel, by decide +kernel, by decide +kernel⟩
theorem yk_X2_isTuple : yX2_isTuple.cls ≠ "java/lang/invoke/MethodHandle" ∧ yX2_isTuple.cls ≠ "java/lang/invoke/VarHandle" ∧ (parseMethodDescriptor yX2_isTuple.desc).map (fun d => d.parameters.length) = some 2 := ⟨by decide +kernel, by decide +kernel, by decide +kernel⟩
theorem yk_X2_adds : yX2_adds.cls ≠ "java/lang/invoke/MethodHandle" ∧ yX2_adds.cls ≠ "java/lang/invoke/VarHandle" ∧ (parseMethodDescriptor yX2_adds.desc).map (fun d => d.parameters.length) = some 2 := ⟨by decide +kernel, by decide +kernel, by decide +kernel⟩
theorem yk_X2_addRelation : yX2_addRelation.cls ≠ "java/lang/invoke/MethodHandle" ∧ yX2_addRelation.cls ≠ "java/lang/invoke/VarHandle" ∧ (parseMethodDescriptor yX2_addRelation.desc).map (fun d => d.parameters.length) = some 1 := ⟨by decide +kernel, by decide +kernel, by decide +kernel⟩
theorem yk_X2_addClause : yX2_addClause.cls ≠ "java/lang/invoke/MethodHandle" ∧ yX2_addClause.cls ≠ "java/lang/invoke/VarHandle" ∧ (parseMethodDescriptor yX2_addClause.desc).map (fun d => d.parameters.length) = some 2 := ⟨by decide +kernel, by decide +kernel, by decide +kernel⟩
theorem yk_X2_addParity : yX2_addParity.cls ≠ "java/lang/invoke/MethodHandle" ∧ yX2_addParity.cls ≠ "java/lang/invoke/VarHandle" ∧ (parseMethodDescriptor yX2_addParity.desc).map (fun d => d.parameters.length) = some 2 := ⟨by decide +kernel, by decide +kernel, by decide +kernel⟩
theorem yk_X2_noTuple : yX2_noTuple.cls ≠ "java/lang/invoke/MethodHandle" ∧ yX2_noTuple.cls ≠ "java/lang/invoke/VarHandle" ∧ (parseMethodDescriptor yX2_noTuple.desc).map (fun d => d.parameters.length) = some 2 := ⟨by decide +kernel, by decide +kernel, by decide +kernel⟩
theorem yk_X2_addTuple : yX2_addTuple.cls ≠ "java/lang/invoke/MethodHandle" ∧ yX2_addTuple.cls ≠ "java/lang/invoke/VarHandle" ∧ (parseMethodDescriptor yX2_addTuple.desc).map (fun d => d.parameters.length) = some 2 := ⟨by decide +kernel, by decide +kernel, by decide +kernel⟩
theorem yk_X2_removeTuple : yX2_removeTuple.cls ≠ "java/lang/invoke/MethodHandle" ∧ yX2_removeTuple.cls ≠ "java/lang/invoke/VarHandle" ∧ (parseMethodDescriptor yX2_removeTuple.desc).map (fun d => d.parameters.length) = some 2 := ⟨by decide +kernel, by decide +kernel, by decide +kernel⟩
theorem yk_X2_contains : yX2_contains.cls ≠ "java/lang/invoke/MethodHandle" ∧ yX2_contains.cls ≠ "java/lang/invoke/VarHandle" ∧ (parseMethodDescriptor yX2_contains.desc).map (fun d => d.parameters.length) = some 2 := ⟨by decide +kernel, by decide +kernel, by decide +kernel⟩
theorem yk_X2_tupleCount : yX2_tupleCount.cls ≠ "java/lang/invoke/MethodHandle" ∧ yX2_tupleCount.cls ≠ "java/lang/invoke/VarHandle" ∧ (parseMethodDescriptor yX2_tupleCount.desc).map (fun d => d.parameters.length) = some 1 := ⟨by decide +kernel, by decide +kernel, by decide +kernel⟩
theorem yk_X2_arity : yX2_arity.cls ≠ "java/lang/invoke/MethodHandle" ∧ yX2_arity.cls ≠ "java/lang/invoke/VarHandle" ∧ (parseMethodDescriptor yX2_arity.desc).map (fun d => d.parameters.length) = some 1 := ⟨by decide +kernel, by decide +kernel, by decide +kernel⟩
theorem yk_X2_relationCount : yX2_relationCount.cls ≠ "java/lang/invoke/MethodHandle" ∧ yX2_relationCount.cls ≠ "java/lang/invoke/VarHandle" ∧ (parseMethodDescriptor yX2_relationCount.desc).map (fun d => d.parameters.length) = some 0 := ⟨by decide +kernel, by decide +kernel, by decide +kernel⟩
theorem yk_X2_areEqual : yX2_areEqual.cls ≠ "java/lang/invoke/MethodHandle" ∧ yX2_areEqual.cls ≠ "java/lang/invoke/VarHandle" ∧ (parseMethodDescriptor yX2_areEqual.desc).map (fun d => d.parameters.length) = some 2 := ⟨by decide +kernel, by decide +kernel, by decide +kernel⟩
theorem yk_X2_clear : yX2_clear.cls ≠ "java/lang/invoke/MethodHandle" ∧ yX2_clear.cls ≠ "java/lang/invoke/VarHandle" ∧ (parseMethodDescriptor yX2_clear.desc).map (fun d => d.parameters.length) = some 0 := ⟨by decide +kernel, by decide +kernel, by decide +kernel⟩
theorem yk_X2_addComplement : yX2_addComplement.cls ≠ "java/lang/invoke/MethodHandle" ∧ yX2_addComplement.cls ≠ "java/lang/invoke/VarHandle" ∧ (parseMethodDescriptor yX2_addComplement.desc).map (fun d => d.parameters.length) = some 1 := ⟨by decide +kernel, by decide +kernel, by decide +kernel⟩
theorem yk_X2_addIntersection : yX2_addIntersection.cls ≠ "java/lang/invoke/MethodHandle" ∧ yX2_addIntersection.cls ≠ "java/lang/invoke/VarHandle" ∧ (parseMethodDescriptor yX2_addIntersection.desc).map (fun d => d.parameters.length) = some 2 := ⟨by decide +kernel, by decide +kernel, by decide +kernel⟩
theorem yk_X2_addProjection : yX2_addProjection.cls ≠ "java/lang/invoke/MethodHandle" ∧ yX2_addProjection.cls ≠ "java/lang/invoke/VarHandle" ∧ (parseMethodDescriptor yX2_addProjection.desc).map (fun d => d.parameters.length) = some 2 := ⟨by decide +kernel, by decide +kernel, by decide +kernel⟩
theorem yk_X2_addExchanged : yX2_addExchanged.cls ≠ "java/lang/invoke/MethodHandle" ∧ yX2_addExchanged.cls ≠ "java/lang/invoke/VarHandle" ∧ (parseMethodDescriptor yX2_addExchanged.desc).map (fun d => d.parameters.length) = some 3 := ⟨by decide +kernel, by decide +kernel, by decide +kernel⟩
theorem yk_X2_isOperation : yX2_isOperation.cls ≠ "java/lang/invoke/MethodHandle" ∧ yX2_isOperation.cls ≠ "java/lang/invoke/VarHandle" ∧ (parseMethodDescriptor yX2_isOperation.desc).map (fun d => d.parameters.length) = some 2 := ⟨by decide +kernel, by decide +kernel, by decide +kernel⟩
theorem yk_X2_placeOf : yX2_placeOf.cls ≠ "java/lang/invoke/MethodHandle" ∧ yX2_placeOf.cls ≠ "java/lang/invoke/VarHandle" ∧ (parseMethodDescriptor yX2_placeOf.desc).map (fun d => d.parameters.length) = some 4 := ⟨by decide +kernel, by decide +kernel, by decide +kernel⟩
theorem yk_X2_apply : yX2_apply.cls ≠ "java/lang/invoke/MethodHandle" ∧ yX2_apply.cls ≠ "java/lang/invoke/VarHandle" ∧ (parseMethodDescriptor yX2_apply.desc).map (fun d => d.parameters.length) = some 5 := ⟨by decide +kernel, by decide +kernel, by decide +kernel⟩
theorem yk_X2_applied : yX2_applied.cls ≠ "java/lang/invoke/MethodHandle" ∧ yX2_applied.cls ≠ "java/lang/invoke/VarHandle" ∧ (parseMethodDescriptor yX2_applied.desc).map (fun d => d.parameters.length) = some 5 := ⟨by decide +kernel, by decide +kernel, by decide +kernel⟩
theorem yk_X2_madeOf : yX2_madeOf.cls ≠ "java/lang/invoke/MethodHandle" ∧ yX2_madeOf.cls ≠ "java/lang/invoke/VarHandle" ∧ (parseMethodDescriptor yX2_madeOf.desc).map (fun d => d.parameters.length) = some 4 := ⟨by decide +kernel, by decide +kernel, by decide +kernel⟩
theorem yk_X2_doesPreserve : yX2_doesPreserve.cls ≠ "java/lang/invoke/MethodHandle" ∧ yX2_doesPreserve.cls ≠ "java/lang/invoke/VarHandle" ∧ (parseMethodDescriptor yX2_doesPreserve.desc).map (fun d => d.parameters.length) = some 3 := ⟨by decide +kernel, by decide +kernel, by decide +kernel⟩
theorem yk_X2_isKept : yX2_isKept.cls ≠ "java/lang/invoke/MethodHandle" ∧ yX2_isKept.cls ≠ "java/lang/invoke/VarHandle" ∧ (parseMethodDescriptor yX2_isKept.desc).map (fun d => d.parameters.length) = some 2 := ⟨by decide +kernel, by decide +kernel, by decide +kernel⟩
theorem yk_X2_preserves : yX2_preserves.cls ≠ "java/lang/invoke/MethodHandle" ∧ yX2_preserves.cls ≠ "java/lang/invoke/VarHandle" ∧ (parseMethodDescriptor yX2_preserves.desc).map (fun d => d.parameters.length) = some 3 := ⟨by decide +kernel, by decide +kernel, by decide +kernel⟩
theorem yk_X2_isPolymorphism : yX2_isPolymorphism.cls ≠ "java/lang/invoke/MethodHandle" ∧ yX2_isPolymorphism.cls ≠ "java/lang/invoke/VarHandle" ∧ (parseMethodDescriptor yX2_isPolymorphism.desc).map (fun d => d.parameters.length) = some 2 := ⟨by decide +kernel, by decide +kernel, by decide +kernel⟩
theorem yk_X2_polymorphismCount : yX2_polymorphismCount.cls ≠ "java/lang/invoke/MethodHandle" ∧ yX2_polymorphismCount.cls ≠ "java/lang/invoke/VarHandle" ∧ (parseMethodDescriptor yX2_polymorphismCount.desc).map (fun d => d.parameters.length) = some 1 := ⟨by decide +kernel, by decide +kernel, by decide +kernel⟩
theorem yk_X2_polymorphism : yX2_polymorphism.cls ≠ "java/lang/invoke/MethodHandle" ∧ yX2_polymorphism.cls ≠ "java/lang/invoke/VarHandle" ∧ (parseMethodDescriptor yX2_polymorphism.desc).map (fun d => d.parameters.length) = some 2 := ⟨by decide +kernel, by decide +kernel, by decide +kernel⟩
theorem yk_X2_isIdempotent : yX2_isIdempotent.cls ≠ "java/lang/invoke/MethodHandle" ∧ yX2_isIdempotent.cls ≠ "java/lang/invoke/VarHandle" ∧ (parseMethodDescriptor yX2_isIdempotent.desc).map (fun d => d.parameters.length) = some 2 := ⟨by decide +kernel, by decide +kernel, by decide +kernel⟩
theorem yk_X2_isMonotone : yX2_isMonotone.cls ≠ "java/lang/invoke/MethodHandle" ∧ yX2_isMonotone.cls ≠ "java/lang/invoke/VarHandle" ∧ (parseMethodDescriptor yX2_isMonotone.desc).map (fun d => d.parameters.length) = some 2 := ⟨by decide +kernel, by decide +kernel, by decide +kernel⟩
theorem yk_X2_projectedArgument : yX2_projectedArgument.cls ≠ "java/lang/invoke/MethodHandle" ∧ yX2_projectedArgument.cls ≠ "java/lang/invoke/VarHandle" ∧ (parseMethodDescriptor yX2_projectedArgument.desc).map (fun d => d.parameters.length) = some 2 := ⟨by decide +kernel, by decide +kernel, by decide +kernel⟩
theorem yk_X2_close : yX2_close.cls ≠ "java/lang/invoke/MethodHandle" ∧ yX2_close.cls ≠ "java/lang/invoke/VarHandle" ∧ (parseMethodDescriptor yX2_close.desc).map (fun d => d.parameters.length) = some 3 := ⟨by decide +kernel, by decide +kernel, by decide +kernel⟩
theorem yk_X2_dual : yX2_dual.cls ≠ "java/lang/invoke/MethodHandle" ∧ yX2_dual.cls ≠ "java/lang/invoke/VarHandle" ∧ (parseMethodDescriptor yX2_dual.desc).map (fun d => d.parameters.length) = some 2 := ⟨by decide +kernel, by decide +kernel, by decide +kernel⟩
theorem yk_X2_dependsOn : yX2_dependsOn.cls ≠ "java/lang/invoke/MethodHandle" ∧ yX2_dependsOn.cls ≠ "java/lang/invoke/VarHandle" ∧ (parseMethodDescriptor yX2_dependsOn.desc).map (fun d => d.parameters.length) = some 3 := ⟨by decide +kernel, by decide +kernel, by decide +kernel⟩
theorem yk_X2_compose : yX2_compose.cls ≠ "java/lang/invoke/MethodHandle" ∧ yX2_compose.cls ≠ "java/lang/invoke/VarHandle" ∧ (parseMethodDescriptor yX2_compose.desc).map (fun d => d.parameters.length) = some 3 := ⟨by decide +kernel, by decide +kernel, by decide +kernel⟩
theorem yk_X2_has : yX2_has.cls ≠ "java/lang/invoke/MethodHandle" ∧ yX2_has.cls ≠ "java/lang/invoke/VarHandle" ∧ (parseMethodDescriptor yX2_has.desc).map (fun d => d.parameters.length) = some 1 := ⟨by decide +kernel, by decide +kernel, by decide +kernel⟩
theorem yk_X2_relationHasKind : yX2_relationHasKind.cls ≠ "java/lang/invoke/MethodHandle" ∧ yX2_relationHasKind.cls ≠ "java/lang/invoke/VarHandle" ∧ (parseMethodDescriptor yX2_relationHasKind.desc).map (fun d => d.parameters.length) = some 2 := ⟨by decide +kernel, by decide +kernel, by decide +kernel⟩
theorem yk_X2_hasKind : yX2_hasKind.cls ≠ "java/lang/invoke/MethodHandle" ∧ yX2_hasKind.cls ≠ "java/lang/invoke/VarHandle" ∧ (parseMethodDescriptor yX2_hasKind.desc).map (fun d => d.parameters.length) = some 1 := ⟨by decide +kernel, by decide +kernel, by decide +kernel⟩
theorem yk_X2_lowestKind : yX2_lowestKind.cls ≠ "java/lang/invoke/MethodHandle" ∧ yX2_lowestKind.cls ≠ "java/lang/invoke/VarHandle" ∧ (parseMethodDescriptor yX2_lowestKind.desc).map (fun d => d.parameters.length) = some 0 := ⟨by decide +kernel, by decide +kernel, by decide +kernel⟩
theorem yk_X2_isVariable : yX2_isVariable.cls ≠ "java/lang/invoke/MethodHandle" ∧ yX2_isVariable.cls ≠ "java/lang/invoke/VarHandle" ∧ (parseMethodDescriptor yX2_isVariable.desc).map (fun d => d.parameters.length) = some 1 := ⟨by decide +kernel, by decide +kernel, by decide +kernel⟩
theorem yk_X2_setVariables : yX2_setVariables.cls ≠ "java/lang/invoke/MethodHandle" ∧ yX2_setVariables.cls ≠ "java/lang/invoke/VarHandle" ∧ (parseMethodDescriptor yX2_setVariables.desc).map (fun d => d.parameters.length) = some 1 := ⟨by decide +kernel, by decide +kernel, by decide +kernel⟩
theorem yk_X2_areVariables : yX2_areVariables.cls ≠ "java/lang/invoke/MethodHandle" ∧ yX2_areVariables.cls ≠ "java/lang/invoke/VarHandle" ∧ (parseMethodDescriptor yX2_areVariables.desc).map (fun d => d.parameters.length) = some 5 := ⟨by decide +kernel, by decide +kernel, by decide +kernel⟩
theorem yk_X2_addConstraint : yX2_addConstraint.cls ≠ "java/lang/invoke/MethodHandle" ∧ yX2_addConstraint.cls ≠ "java/lang/invoke/VarHandle" ∧ (parseMethodDescriptor yX2_addConstraint.desc).map (fun d => d.parameters.length) = some 5 := ⟨by decide +kernel, by decide +kernel, by decide +kernel⟩
theorem yk_X2_removeLastConstraint : yX2_removeLastConstraint.cls ≠ "java/lang/invoke/MethodHandle" ∧ yX2_removeLastConstraint.cls ≠ "java/lang/invoke/VarHandle" ∧ (parseMethodDescriptor yX2_removeLastConstraint.desc).map (fun d => d.parameters.length) = some 0 := ⟨by decide +kernel, by decide +kernel, by decide +kernel⟩
theorem yk_X2_isSatisfied : yX2_isSatisfied.cls ≠ "java/lang/invoke/MethodHandle" ∧ yX2_isSatisfied.cls ≠ "java/lang/invoke/VarHandle" ∧ (parseMethodDescriptor yX2_isSatisfied.desc).map (fun d => d.parameters.length) = some 2 := ⟨by decide +kernel, by decide +kernel, by decide +kernel⟩
theorem yk_X2_solves : yX2_solves.cls ≠ "java/lang/invoke/MethodHandle" ∧ yX2_solves.cls ≠ "java/lang/invoke/VarHandle" ∧ (parseMethodDescriptor yX2_solves.desc).map (fun d => d.parameters.length) = some 2 := ⟨by decide +kernel, by decide +kernel, by decide +kernel⟩
theorem yk_X2_solutions : yX2_solutions.cls ≠ "java/lang/invoke/MethodHandle" ∧ yX2_solutions.cls ≠ "java/lang/invoke/VarHandle" ∧ (parseMethodDescriptor yX2_solutions.desc).map (fun d => d.parameters.length) = some 0 := ⟨by decide +kernel, by decide +kernel, by decide +kernel⟩
theorem yk_X2_solutionCount : yX2_solutionCount.cls ≠ "java/lang/invoke/MethodHandle" ∧ yX2_solutionCount.cls ≠ "java/lang/invoke/VarHandle" ∧ (parseMethodDescriptor yX2_solutionCount.desc).map (fun d => d.parameters.length) = some 0 := ⟨by decide +kernel, by decide +kernel, by decide +kernel⟩
theorem yk_X2_solution : yX2_solution.cls ≠ "java/lang/invoke/MethodHandle" ∧ yX2_solution.cls ≠ "java/lang/invoke/VarHandle" ∧ (parseMethodDescriptor yX2_solution.desc).map (fun d => d.parameters.length) = some 1 := ⟨by decide +kernel, by decide +kernel, by decide +kernel⟩
theorem yk_X2_doesImply : yX2_doesImply.cls ≠ "java/lang/invoke/MethodHandle" ∧ yX2_doesImply.cls ≠ "java/lang/invoke/VarHandle" ∧ (parseMethodDescriptor yX2_doesImply.desc).map (fun d => d.parameters.length) = some 4 := ⟨by decide +kernel, by decide +kernel, by decide +kernel⟩
theorem yk_X2_isForced : yX2_isForced.cls ≠ "java/lang/invoke/MethodHandle" ∧ yX2_isForced.cls ≠ "java/lang/invoke/VarHandle" ∧ (parseMethodDescriptor yX2_isForced.desc).map (fun d => d.parameters.length) = some 2 := ⟨by decide +kernel, by decide +kernel, by decide +kernel⟩
theorem yk_X2_leastSolution : yX2_leastSolution.cls ≠ "java/lang/invoke/MethodHandle" ∧ yX2_leastSolution.cls ≠ "java/lang/invoke/VarHandle" ∧ (parseMethodDescriptor yX2_leastSolution.desc).map (fun d => d.parameters.length) = some 0 := ⟨by decide +kernel, by decide +kernel, by decide +kernel⟩
theorem yk_X2_greatestSolution : yX2_greatestSolution.cls ≠ "java/lang/invoke/MethodHandle" ∧ yX2_greatestSolution.cls ≠ "java/lang/invoke/VarHandle" ∧ (parseMethodDescriptor yX2_greatestSolution.desc).map (fun d => d.parameters.length) = some 0 := ⟨by decide +kernel, by decide +kernel, by decide +kernel⟩
theorem yk_X2_implies : yX2_implies.cls ≠ "java/lang/invoke/MethodHandle" ∧ yX2_implies.cls ≠ "java/lang/invoke/VarHandle" ∧ (parseMethodDescriptor yX2_implies.desc).map (fun d => d.parameters.length) = some 4 := ⟨by decide +kernel, by decide +kernel, by decide +kernel⟩
theorem yk_X2_dimension : yX2_dimension.cls ≠ "java/lang/invoke/MethodHandle" ∧ yX2_dimension.cls ≠ "java/lang/invoke/VarHandle" ∧ (parseMethodDescriptor yX2_dimension.desc).map (fun d => d.parameters.length) = some 0 := ⟨by decide +kernel, by decide +kernel, by decide +kernel⟩
theorem yk_X2_define : yX2_define.cls ≠ "java/lang/invoke/MethodHandle" ∧ yX2_define.cls ≠ "java/lang/invoke/VarHandle" ∧ (parseMethodDescriptor yX2_define.desc).map (fun d => d.parameters.length) = some 5 := ⟨by decide +kernel, by decide +kernel, by decide +kernel⟩
theorem yk_X2_firstViolated : yX2_firstViolated.cls ≠ "java/lang/invoke/MethodHandle" ∧ yX2_firstViolated.cls ≠ "java/lang/invoke/VarHandle" ∧ (parseMethodDescriptor yX2_firstViolated.desc).map (fun d => d.parameters.length) = some 1 := ⟨by decide +kernel, by decide +kernel, by decide +kernel⟩
theorem yk_X2_isIdle : yX2_isIdle.cls ≠ "java/lang/invoke/MethodHandle" ∧ yX2_isIdle.cls ≠ "java/lang/invoke/VarHandle" ∧ (parseMethodDescriptor yX2_isIdle.desc).map (fun d => d.parameters.length) = some 1 := ⟨by decide +kernel, by decide +kernel, by decide +kernel⟩
theorem yk_X2_isRedundant : yX2_isRedundant.cls ≠ "java/lang/invoke/MethodHandle" ∧ yX2_isRedundant.cls ≠ "java/lang/invoke/VarHandle" ∧ (parseMethodDescriptor yX2_isRedundant.desc).map (fun d => d.parameters.length) = some 1 := ⟨by decide +kernel, by decide +kernel, by decide +kernel⟩
theorem yk_X2_removeRedundant : yX2_removeRedundant.cls ≠ "java/lang/invoke/MethodHandle" ∧ yX2_removeRedundant.cls ≠ "java/lang/invoke/VarHandle" ∧ (parseMethodDescriptor yX2_removeRedundant.desc).map (fun d => d.parameters.length) = some 0 := ⟨by decide +kernel, by decide +kernel, by decide +kernel⟩
theorem yk_X2_append : yX2_append.cls ≠ "java/lang/invoke/MethodHandle" ∧ yX2_append.cls ≠ "java/lang/invoke/VarHandle" ∧ (parseMethodDescriptor yX2_append.desc).map (fun d => d.parameters.length) = some 1 := ⟨by decide +kernel, by decide +kernel, by decide +kernel⟩
theorem yk_X2_reads : yX2_reads.cls ≠ "java/lang/invoke/MethodHandle" ∧ yX2_reads.cls ≠ "java/lang/invoke/VarHandle" ∧ (parseMethodDescriptor yX2_reads.desc).map (fun d => d.parameters.length) = some 0 := ⟨by decide +kernel, by decide +kernel, by decide +kernel⟩
theorem yk_X2_parse : yX2_parse.cls ≠ "java/lang/invoke/MethodHandle" ∧ yX2_parse.cls ≠ "java/lang/invoke/VarHandle" ∧ (parseMethodDescriptor yX2_parse.desc).map (fun d => d.parameters.length) = some 0 := ⟨by decide +kernel, by decide +kernel, by decide +kernel⟩
theorem yk_X2_errorPosition : yX2_errorPosition.cls ≠ "java/lang/invoke/MethodHandle" ∧ yX2_errorPosition.cls ≠ "java/lang/invoke/VarHandle" ∧ (parseMethodDescriptor yX2_errorPosition.desc).map (fun d => d.parameters.length) = some 0 := ⟨by decide +kernel, by decide +kernel, by decide +kernel⟩
theorem yk_X2_puts : yX2_puts.cls ≠ "java/lang/invoke/MethodHandle" ∧ yX2_puts.cls ≠ "java/lang/invoke/VarHandle" ∧ (parseMethodDescriptor yX2_puts.desc).map (fun d => d.parameters.length) = some 1 := ⟨by decide +kernel, by decide +kernel, by decide +kernel⟩
theorem yk_X2_write : yX2_write.cls ≠ "java/lang/invoke/MethodHandle" ∧ yX2_write.cls ≠ "java/lang/invoke/VarHandle" ∧ (parseMethodDescriptor yX2_write.desc).map (fun d => d.parameters.length) = some 1 := ⟨by decide +kernel, by decide +kernel, by decide +kernel⟩
theorem yk_X2_outputAt : yX2_outputAt.cls ≠ "java/lang/invoke/MethodHandle" ∧ yX2_outputAt.cls ≠ "java/lang/invoke/VarHandle" ∧ (parseMethodDescriptor yX2_outputAt.desc).map (fun d => d.parameters.length) = some 1 := ⟨by decide +kernel, by decide +kernel, by decide +kernel⟩
theorem yk_X2_isSlot : yX2_isSlot.cls ≠ "java/lang/invoke/MethodHandle" ∧ yX2_isSlot.cls ≠ "java/lang/invoke/VarHandle" ∧ (parseMethodDescriptor yX2_isSlot.desc).map (fun d => d.parameters.length) = some 1 := ⟨by decide +kernel, by decide +kernel, by decide +kernel⟩
theorem yk_X2_storeFlags : yX2_storeFlags.cls ≠ "java/lang/invoke/MethodHandle" ∧ yX2_storeFlags.cls ≠ "java/lang/invoke/VarHandle" ∧ (parseMethodDescriptor yX2_storeFlags.desc).map (fun d => d.parameters.length) = some 3 := ⟨by decide +kernel, by decide +kernel, by decide +kernel⟩
theorem yk_X2_setFlag : yX2_setFlag.cls ≠ "java/lang/invoke/MethodHandle" ∧ yX2_setFlag.cls ≠ "java/lang/invoke/VarHandle" ∧ (parseMethodDescriptor yX2_setFlag.desc).map (fun d => d.parameters.length) = some 3 := ⟨by decide +kernel, by decide +kernel, by decide +kernel⟩
theorem yk_X2_takeFlags : yX2_takeFlags.cls ≠ "java/lang/invoke/MethodHandle" ∧ yX2_takeFlags.cls ≠ "java/lang/invoke/VarHandle" ∧ (parseMethodDescriptor yX2_takeFlags.desc).map (fun d => d.parameters.length) = some 2 := ⟨by decide +kernel, by decide +kernel, by decide +kernel⟩
theorem yk_X2_passes : yX2_passes.cls ≠ "java/lang/invoke/MethodHandle" ∧ yX2_passes.cls ≠ "java/lang/invoke/VarHandle" ∧ (parseMethodDescriptor yX2_passes.desc).map (fun d => d.parameters.length) = some 1 := ⟨by decide +kernel, by decide +kernel, by decide +kernel⟩
theorem yk_X2_passAll : yX2_passAll.cls ≠ "java/lang/invoke/MethodHandle" ∧ yX2_passAll.cls ≠ "java/lang/invoke/VarHandle" ∧ (parseMethodDescriptor yX2_passAll.desc).map (fun d => d.parameters.length) = some 1 := ⟨by decide +kernel, by decide +kernel, by decide +kernel⟩
theorem yk_X2_passState : yX2_passState.cls ≠ "java/lang/invoke/MethodHandle" ∧ yX2_passState.cls ≠ "java/lang/invoke/VarHandle" ∧ (parseMethodDescriptor yX2_passState.desc).map (fun d => d.parameters.length) = some 1 := ⟨by decide +kernel, by decide +kernel, by decide +kernel⟩
theorem yk_X2_saveSnapshot : yX2_saveSnapshot.cls ≠ "java/lang/invoke/MethodHandle" ∧ yX2_saveSnapshot.cls ≠ "java/lang/invoke/VarHandle" ∧ (parseMethodDescriptor yX2_saveSnapshot.desc).map (fun d => d.parameters.length) = some 0 := ⟨by decide +kernel, by decide +kernel, by decide +kernel⟩
theorem yk_X2_restoreSnapshot : yX2_restoreSnapshot.cls ≠ "java/lang/invoke/MethodHandle" ∧ yX2_restoreSnapshot.cls ≠ "java/lang/invoke/VarHandle" ∧ (parseMethodDescriptor yX2_restoreSnapshot.desc).map (fun d => d.parameters.length) = some 0 := ⟨by decide +kernel, by decide +kernel, by decide +kernel⟩
theorem yk_J6_bitCount_0f7a4 : yJ6_bitCount_0f7a4.cls ≠ "java/lang/invoke/MethodHandle" ∧ yJ6_bitCount_0f7a4.cls ≠ "java/lang/invoke/VarHandle" ∧ (parseMethodDescriptor yJ6_bitCount_0f7a4.desc).map (fun d => d.parameters.length) = some 1 := ⟨by decide +kernel, by decide +kernel, by decide +kernel⟩
theorem yk_J13_bitCount_95d88 : yJ13_bitCount_95d88.cls ≠ "java/lang/invoke/MethodHandle" ∧ yJ13_bitCount_95d88.cls ≠ "java/lang/invoke/VarHandle" ∧ (parseMethodDescriptor yJ13_bitCount_95d88.desc).map (fun d => d.parameters.length) = some 1 := ⟨by decide +kernel, by decide +kernel, by decide +kernel⟩
theorem yk_L_addRelation : yL_addRelation.cls ≠ "java/lang/invoke/MethodHandle" ∧ yL_addRelation.cls ≠ "java/lang/invoke/VarHandle" ∧ (parseMethodDescriptor yL_addRelation.desc).map (fun d => d.parameters.length) = some 3 := ⟨by decide +kernel, by decide +kernel, by decide +kernel⟩
theorem yk_L_addClause : yL_addClause.cls ≠ "java/lang/invoke/MethodHandle" ∧ yL_addClause.cls ≠ "java/lang/invoke/VarHandle" ∧ (parseMethodDescriptor yL_addClause.desc).map (fun d => d.parameters.length) = some 4 := ⟨by decide +kernel, by decide +kernel, by decide +kernel⟩
theorem yk_L_addParity : yL_addParity.cls ≠ "java/lang/invoke/MethodHandle" ∧ yL_addParity.cls ≠ "java/lang/invoke/VarHandle" ∧ (parseMethodDescriptor yL_addParity.desc).map (fun d => d.parameters.length) = some 4 := ⟨by decide +kernel, by decide +kernel, by decide +kernel⟩
theorem yk_L_addTuple : yL_addTuple.cls ≠ "java/lang/invoke/MethodHandle" ∧ yL_addTuple.cls ≠ "java/lang/invoke/VarHandle" ∧ (parseMethodDescriptor yL_addTuple.desc).map (fun d => d.parameters.length) = some 4 := ⟨by decide +kernel, by decide +kernel, by decide +kernel⟩
theorem yk_L_removeTuple : yL_removeTuple.cls ≠ "java/lang/invoke/MethodHandle" ∧ yL_removeTuple.cls ≠ "java/lang/invoke/VarHandle" ∧ (parseMethodDescriptor yL_removeTuple.desc).map (fun d => d.parameters.length) = some 4 := ⟨by decide +kernel, by decide +kernel, by decide +kernel⟩
theorem yk_L_contains : yL_contains.cls ≠ "java/lang/invoke/MethodHandle" ∧ yL_contains.cls ≠ "java/lang/invoke/VarHandle" ∧ (parseMethodDescriptor yL_contains.desc).map (fun d => d.parameters.length) = some 4 := ⟨by decide +kernel, by decide +kernel, by decide +kernel⟩
theorem yk_L_tupleCount : yL_tupleCount.cls ≠ "java/lang/invoke/MethodHandle" ∧ yL_tupleCount.cls ≠ "java/lang/invoke/VarHandle" ∧ (parseMethodDescriptor yL_tupleCount.desc).map (fun d => d.parameters.length) = some 3 := ⟨by decide +kernel, by decide +kernel, by decide +kernel⟩
theorem yk_L_arity : yL_arity.cls ≠ "java/lang/invoke/MethodHandle" ∧ yL_arity.cls ≠ "java/lang/invoke/VarHandle" ∧ (parseMethodDescriptor yL_arity.desc).map (fun d => d.parameters.length) = some 3 := ⟨by decide +kernel, by decide +kernel, by decide +kernel⟩
theorem yk_L_areEqual : yL_areEqual.cls ≠ "java/lang/invoke/MethodHandle" ∧ yL_areEqual.cls ≠ "java/lang/invoke/VarHandle" ∧ (parseMethodDescriptor yL_areEqual.desc).map (fun d => d.parameters.length) = some 4 := ⟨by decide +kernel, by decide +kernel, by decide +kernel⟩
theorem yk_L_addComplement : yL_addComplement.cls ≠ "java/lang/invoke/MethodHandle" ∧ yL_addComplement.cls ≠ "java/lang/invoke/VarHandle" ∧ (parseMethodDescriptor yL_addComplement.desc).map (fun d => d.parameters.length) = some 3 := ⟨by decide +kernel, by decide +kernel, by decide +kernel⟩
theorem yk_L_addIntersection : yL_addIntersection.cls ≠ "java/lang/invoke/MethodHandle" ∧ yL_addIntersection.cls ≠ "java/lang/invoke/VarHandle" ∧ (parseMethodDescriptor yL_addIntersection.desc).map (fun d => d.parameters.length) = some 4 := ⟨by decide +kernel, by decide +kernel, by decide +kernel⟩
theorem yk_L_addProjection : yL_addProjection.cls ≠ "java/lang/invoke/MethodHandle" ∧ yL_addProjection.cls ≠ "java/lang/invoke/VarHandle" ∧ (parseMethodDescriptor yL_addProjection.desc).map (fun d => d.parameters.length) = some 4 := ⟨by decide +kernel, by decide +kernel, by decide +kernel⟩
theorem yk_L_addExchanged : yL_addExchanged.cls ≠ "java/lang/invoke/MethodHandle" ∧ yL_addExchanged.cls ≠ "java/lang/invoke/VarHandle" ∧ (parseMethodDescriptor yL_addExchanged.desc).map (fun d => d.parameters.length) = some 5 := ⟨by decide +kernel, by decide +kernel, by decide +kernel⟩
theorem yk_L_apply : yL_apply.cls ≠ "java/lang/invoke/MethodHandle" ∧ yL_apply.cls ≠ "java/lang/invoke/VarHandle" ∧ (parseMethodDescriptor yL_apply.desc).map (fun d => d.parameters.length) = some 7 := ⟨by decide +kernel, by decide +kernel, by decide +kernel⟩
theorem yk_L_preserves : yL_preserves.cls ≠ "java/lang/invoke/MethodHandle" ∧ yL_preserves.cls ≠ "java/lang/invoke/VarHandle" ∧ (parseMethodDescriptor yL_preserves.desc).map (fun d => d.parameters.length) = some 5 := ⟨by decide +kernel, by decide +kernel, by decide +kernel⟩
theorem yk_L_isPolymorphism : yL_isPolymorphism.cls ≠ "java/lang/invoke/MethodHandle" ∧ yL_isPolymorphism.cls ≠ "java/lang/invoke/VarHandle" ∧ (parseMethodDescriptor yL_isPolymorphism.desc).map (fun d => d.parameters.length) = some 4 := ⟨by decide +kernel, by decide +kernel, by decide +kernel⟩
theorem yk_L_polymorphismCount : yL_polymorphismCount.cls ≠ "java/lang/invoke/MethodHandle" ∧ yL_polymorphismCount.cls ≠ "java/lang/invoke/VarHandle" ∧ (parseMethodDescriptor yL_polymorphismCount.desc).map (fun d => d.parameters.length) = some 3 := ⟨by decide +kernel, by decide +kernel, by decide +kernel⟩
theorem yk_L_polymorphism : yL_polymorphism.cls ≠ "java/lang/invoke/MethodHandle" ∧ yL_polymorphism.cls ≠ "java/lang/invoke/VarHandle" ∧ (parseMethodDescriptor yL_polymorphism.desc).map (fun d => d.parameters.length) = some 4 := ⟨by decide +kernel, by decide +kernel, by decide +kernel⟩
theorem yk_L_isIdempotent : yL_isIdempotent.cls ≠ "java/lang/invoke/MethodHandle" ∧ yL_isIdempotent.cls ≠ "java/lang/invoke/VarHandle" ∧ (parseMethodDescriptor yL_isIdempotent.desc).map (fun d => d.parameters.length) = some 4 := ⟨by decide +kernel, by decide +kernel, by decide +kernel⟩
theorem yk_L_isMonotone : yL_isMonotone.cls ≠ "java/lang/invoke/MethodHandle" ∧ yL_isMonotone.cls ≠ "java/lang/invoke/VarHandle" ∧ (parseMethodDescriptor yL_isMonotone.desc).map (fun d => d.parameters.length) = some 4 := ⟨by decide +kernel, by decide +kernel, by decide +kernel⟩
theorem yk_L_projectedArgument : yL_projectedArgument.cls ≠ "java/lang/invoke/MethodHandle" ∧ yL_projectedArgument.cls ≠ "java/lang/invoke/VarHandle" ∧ (parseMethodDescriptor yL_projectedArgument.desc).map (fun d => d.parameters.length) = some 4 := ⟨by decide +kernel, by decide +kernel, by decide +kernel⟩
theorem yk_L_close : yL_close.cls ≠ "java/lang/invoke/MethodHandle" ∧ yL_close.cls ≠ "java/lang/invoke/VarHandle" ∧ (parseMethodDescriptor yL_close.desc).map (fun d => d.parameters.length) = some 5 := ⟨by decide +kernel, by decide +kernel, by decide +kernel⟩
theorem yk_L_dual : yL_dual.cls ≠ "java/lang/invoke/MethodHandle" ∧ yL_dual.cls ≠ "java/lang/invoke/VarHandle" ∧ (parseMethodDescriptor yL_dual.desc).map (fun d => d.parameters.length) = some 4 := ⟨by decide +kernel, by decide +kernel, by decide +kernel⟩
theorem yk_L_dependsOn : yL_dependsOn.cls ≠ "java/lang/invoke/MethodHandle" ∧ yL_dependsOn.cls ≠ "java/lang/invoke/VarHandle" ∧ (parseMethodDescriptor yL_dependsOn.desc).map (fun d => d.parameters.length) = some 5 := ⟨by decide +kernel, by decide +kernel, by decide +kernel⟩
theorem yk_L_compose : yL_compose.cls ≠ "java/lang/invoke/MethodHandle" ∧ yL_compose.cls ≠ "java/lang/invoke/VarHandle" ∧ (parseMethodDescriptor yL_compose.desc).map (fun d => d.parameters.length) = some 5 := ⟨by decide +kernel, by decide +kernel, by decide +kernel⟩
theorem yk_L_relationHasKind : yL_relationHasKind.cls ≠ "java/lang/invoke/MethodHandle" ∧ yL_relationHasKind.cls ≠ "java/lang/invoke/VarHandle" ∧ (parseMethodDescriptor yL_relationHasKind.desc).map (fun d => d.parameters.length) = some 4 := ⟨by decide +kernel, by decide +kernel, by decide +kernel⟩
theorem yk_L_hasKind : yL_hasKind.cls ≠ "java/lang/invoke/MethodHandle" ∧ yL_hasKind.cls ≠ "java/lang/invoke/VarHandle" ∧ (parseMethodDescriptor yL_hasKind.desc).map (fun d => d.parameters.length) = some 3 := ⟨by decide +kernel, by decide +kernel, by decide +kernel⟩
theorem yk_L_lowestKind : yL_lowestKind.cls ≠ "java/lang/invoke/MethodHandle" ∧ yL_lowestKind.cls ≠ "java/lang/invoke/VarHandle" ∧ (parseMethodDescriptor yL_lowestKind.desc).map (fun d => d.parameters.length) = some 2 := ⟨by decide +kernel, by decide +kernel, by decide +kernel⟩
theorem yk_L_setVariables : yL_setVariables.cls ≠ "java/lang/invoke/MethodHandle" ∧ yL_setVariables.cls ≠ "java/lang/invoke/VarHandle" ∧ (parseMethodDescriptor yL_setVariables.desc).map (fun d => d.parameters.length) = some 3 := ⟨by decide +kernel, by decide +kernel, by decide +kernel⟩
theorem yk_L_addConstraint : yL_addConstraint.cls ≠ "java/lang/invoke/MethodHandle" ∧ yL_addConstraint.cls ≠ "java/lang/invoke/VarHandle" ∧ (parseMethodDescriptor yL_addConstraint.desc).map (fun d => d.parameters.length) = some 7 := ⟨by decide +kernel, by decide +kernel, by decide +kernel⟩
theorem yk_L_removeLastConstraint : yL_removeLastConstraint.cls ≠ "java/lang/invoke/MethodHandle" ∧ yL_removeLastConstraint.cls ≠ "java/lang/invoke/VarHandle" ∧ (parseMethodDescriptor yL_removeLastConstraint.desc).map (fun d => d.parameters.length) = some 2 := ⟨by decide +kernel, by decide +kernel, by decide +kernel⟩
theorem yk_L_solution : yL_solution.cls ≠ "java/lang/invoke/MethodHandle" ∧ yL_solution.cls ≠ "java/lang/invoke/VarHandle" ∧ (parseMethodDescriptor yL_solution.desc).map (fun d => d.parameters.length) = some 3 := ⟨by decide +kernel, by decide +kernel, by decide +kernel⟩
theorem yk_L_isForced : yL_isForced.cls ≠ "java/lang/invoke/MethodHandle" ∧ yL_isForced.cls ≠ "java/lang/invoke/VarHandle" ∧ (parseMethodDescriptor yL_isForced.desc).map (fun d => d.parameters.length) = some 4 := ⟨by decide +kernel, by decide +kernel, by decide +kernel⟩
theorem yk_L_leastSolution : yL_leastSolution.cls ≠ "java/lang/invoke/MethodHandle" ∧ yL_leastSolution.cls ≠ "java/lang/invoke/VarHandle" ∧ (parseMethodDescriptor yL_leastSolution.desc).map (fun d => d.parameters.length) = some 2 := ⟨by decide +kernel, by decide +kernel, by decide +kernel⟩
theorem yk_L_greatestSolution : yL_greatestSolution.cls ≠ "java/lang/invoke/MethodHandle" ∧ yL_greatestSolution.cls ≠ "java/lang/invoke/VarHandle" ∧ (parseMethodDescriptor yL_greatestSolution.desc).map (fun d => d.parameters.length) = some 2 := ⟨by decide +kernel, by decide +kernel, by decide +kernel⟩
theorem yk_L_implies : yL_implies.cls ≠ "java/lang/invoke/MethodHandle" ∧ yL_implies.cls ≠ "java/lang/invoke/VarHandle" ∧ (parseMethodDescriptor yL_implies.desc).map (fun d => d.parameters.length) = some 6 := ⟨by decide +kernel, by decide +kernel, by decide +kernel⟩
theorem yk_L_dimension : yL_dimension.cls ≠ "java/lang/invoke/MethodHandle" ∧ yL_dimension.cls ≠ "java/lang/invoke/VarHandle" ∧ (parseMethodDescriptor yL_dimension.desc).map (fun d => d.parameters.length) = some 2 := ⟨by decide +kernel, by decide +kernel, by decide +kernel⟩
theorem yk_L_define : yL_define.cls ≠ "java/lang/invoke/MethodHandle" ∧ yL_define.cls ≠ "java/lang/invoke/VarHandle" ∧ (parseMethodDescriptor yL_define.desc).map (fun d => d.parameters.length) = some 7 := ⟨by decide +kernel, by decide +kernel, by decide +kernel⟩
theorem yk_L_firstViolated : yL_firstViolated.cls ≠ "java/lang/invoke/MethodHandle" ∧ yL_firstViolated.cls ≠ "java/lang/invoke/VarHandle" ∧ (parseMethodDescriptor yL_firstViolated.desc).map (fun d => d.parameters.length) = some 3 := ⟨by decide +kernel, by decide +kernel, by decide +kernel⟩
theorem yk_L_isRedundant : yL_isRedundant.cls ≠ "java/lang/invoke/MethodHandle" ∧ yL_isRedundant.cls ≠ "java/lang/invoke/VarHandle" ∧ (parseMethodDescriptor yL_isRedundant.desc).map (fun d => d.parameters.length) = some 3 := ⟨by decide +kernel, by decide +kernel, by decide +kernel⟩
theorem yk_L_append : yL_append.cls ≠ "java/lang/invoke/MethodHandle" ∧ yL_append.cls ≠ "java/lang/invoke/VarHandle" ∧ (parseMethodDescriptor yL_append.desc).map (fun d => d.parameters.length) = some 3 := ⟨by decide +kernel, by decide +kernel, by decide +kernel⟩
theorem yk_L_parse : yL_parse.cls ≠ "java/lang/invoke/MethodHandle" ∧ yL_parse.cls ≠ "java/lang/invoke/VarHandle" ∧ (parseMethodDescriptor yL_parse.desc).map (fun d => d.parameters.length) = some 2 := ⟨by decide +kernel, by decide +kernel, by decide +kernel⟩
theorem yk_L_errorPosition : yL_errorPosition.cls ≠ "java/lang/invoke/MethodHandle" ∧ yL_errorPosition.cls ≠ "java/lang/invoke/VarHandle" ∧ (parseMethodDescriptor yL_errorPosition.desc).map (fun d => d.parameters.length) = some 2 := ⟨by decide +kernel, by decide +kernel, by decide +kernel⟩
theorem yk_L_write : yL_write.cls ≠ "java/lang/invoke/MethodHandle" ∧ yL_write.cls ≠ "java/lang/invoke/VarHandle" ∧ (parseMethodDescriptor yL_write.desc).map (fun d => d.parameters.length) = some 3 := ⟨by decide +kernel, by decide +kernel, by decide +kernel⟩
theorem yk_L_outputAt : yL_outputAt.cls ≠ "java/lang/invoke/MethodHandle" ∧ yL_outputAt.cls ≠ "java/lang/invoke/VarHandle" ∧ (parseMethodDescriptor yL_outputAt.desc).map (fun d => d.parameters.length) = some 3 := ⟨by decide +kernel, by decide +kernel, by decide +kernel⟩
theorem yk_L_storeFlags : yL_storeFlags.cls ≠ "java/lang/invoke/MethodHandle" ∧ yL_storeFlags.cls ≠ "java/lang/invoke/VarHandle" ∧ (parseMethodDescriptor yL_storeFlags.desc).map (fun d => d.parameters.length) = some 5 := ⟨by decide +kernel, by decide +kernel, by decide +kernel⟩
theorem yk_L_setFlag : yL_setFlag.cls ≠ "java/lang/invoke/MethodHandle" ∧ yL_setFlag.cls ≠ "java/lang/invoke/VarHandle" ∧ (parseMethodDescriptor yL_setFlag.desc).map (fun d => d.parameters.length) = some 5 := ⟨by decide +kernel, by decide +kernel, by decide +kernel⟩
theorem yk_L_takeFlags : yL_takeFlags.cls ≠ "java/lang/invoke/MethodHandle" ∧ yL_takeFlags.cls ≠ "java/lang/invoke/VarHandle" ∧ (parseMethodDescriptor yL_takeFlags.desc).map (fun d => d.parameters.length) = some 4 := ⟨by decide +kernel, by decide +kernel, by decide +kernel⟩
theorem yk_L_restoreSnapshot : yL_restoreSnapshot.cls ≠ "java/lang/invoke/MethodHandle" ∧ yL_restoreSnapshot.cls ≠ "java/lang/invoke/VarHandle" ∧ (parseMethodDescriptor yL_restoreSnapshot.desc).map (fun d => d.parameters.length) = some 2 := ⟨by decide +kernel, by decide +kernel, by decide +kernel⟩
