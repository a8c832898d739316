def wsX9_tick_r4 : List Cond := [Cond.selects RX9 yX9_lay yX9_lay, Cond.code yX9_lay cX9_lay 11 (some .boolean), Cond.fieldLink RX9 207 "BearerHouseModel" "out" "[I", Cond.methodLink RX9 359 yX9_make, Cond.instanceMethod yX9_make, Cond.selects RX9 yX9_make yX9_make, Cond.code yX9_make cX9_make 9 (some .int), Cond.fieldLink RX9 89 "BearerHouseModel" "fieldByte" "[I", Cond.fieldLink RX9 68 "BearerHouseModel" "waitByte" "[I", Cond.fieldLink RX9 92 "BearerHouseModel" "fieldOwner" "[I", Cond.fieldLink RX9 71 "BearerHouseModel" "waitOwner" "[I", Cond.fieldLink RX9 98 "BearerHouseModel" "fieldFirst" "[Z", Cond.fieldLink RX9 77 "BearerHouseModel" "waitFirst" "[Z", Cond.fieldLink RX9 101 "BearerHouseModel" "fieldLast" "[Z", Cond.fieldLink RX9 80 "BearerHouseModel" "waitLast" "[Z", Cond.fieldLink RX9 95 "BearerHouseModel" "confirmed" "[Z", Cond.methodLink RX9 286 yX9_makeStatus, Cond.instanceMethod yX9_makeStatus, Cond.selects RX9 yX9_makeStatus yX9_makeStatus, Cond.code yX9_makeStatus cX9_makeStatus 9 (some .int), Cond.fieldLink RX9 128 "BearerHouseModel" "statusMade" "[I", Cond.methodLink RX9 309 yX9_entries, Cond.instanceMethod yX9_entries, Cond.selects RX9 yX9_entries yX9_entries]
def wsX9_tick_r5 : List Cond := [Cond.code yX9_entries cX9_entries 13 (some .int), Cond.methodLink RX9 303 yX9_putRun, Cond.instanceMethod yX9_putRun, Cond.selects RX9 yX9_putRun yX9_putRun, Cond.code yX9_putRun cX9_putRun 5 none, Cond.methodLink RX9 313 yX9_isEmpty, Cond.instanceMethod yX9_isEmpty, Cond.selects RX9 yX9_isEmpty yX9_isEmpty, Cond.code yX9_isEmpty cX9_isEmpty 6 (some .boolean), Cond.methodLink RX9 292 yX9_makeAgain, Cond.instanceMethod yX9_makeAgain, Cond.selects RX9 yX9_makeAgain yX9_makeAgain, Cond.code yX9_makeAgain cX9_makeAgain 9 (some .int), Cond.fieldLink RX9 37 "BearerHouseModel" "madeAgain" "[I", Cond.methodLink RX9 295 yX9_fitting, Cond.instanceMethod yX9_fitting, Cond.selects RX9 yX9_fitting yX9_fitting, Cond.code yX9_fitting cX9_fitting 10 (some .int), Cond.methodLink RX9 299 yX9_data, Cond.instanceMethod yX9_data, Cond.selects RX9 yX9_data yX9_data, Cond.code yX9_data cX9_data 13 (some .int), Cond.fieldLink RX9 28 "BearerHouseModel" "sincePoll" "[I", Cond.fieldLink RX9 34 "BearerHouseModel" "made" "[I"]
def wsX9_tick_r6 : List Cond := [Cond.fieldLink RX9 25 "BearerHouseModel" "polled" "[I", Cond.methodLink RX9 280 yX9_cutWaiting, Cond.instanceMethod yX9_cutWaiting, Cond.selects RX9 yX9_cutWaiting yX9_cutWaiting, Cond.code yX9_cutWaiting cX9_cutWaiting 7 none, Cond.methodLink RX9 378 yX9_work, Cond.instanceMethod yX9_work, Cond.selects RX9 yX9_work yX9_work, Cond.code yX9_work cX9_work 7 none, Cond.fieldLink RX9 384 "BearerHouseModel" "worked" "I", Cond.methodLink RX9 387 yX9_dataComes, Cond.instanceMethod yX9_dataComes, Cond.selects RX9 yX9_dataComes yX9_dataComes, Cond.code yX9_dataComes cX9_dataComes 10 none, Cond.fieldLink RX9 131 "BearerHouseModel" "dataCame" "[I", Cond.fieldLink RX9 134 "BearerHouseModel" "dataOld" "[I", Cond.methodLink RX9 316 yX9_meant, Cond.static yX9_meant, Cond.code yX9_meant cX9_meant 2 (some .int), Cond.methodLink RX9 333 yX9_lays, Cond.instanceMethod yX9_lays, Cond.selects RX9 yX9_lays yX9_lays, Cond.code yX9_lays cX9_lays 17 (some .boolean), Cond.fieldLink RX9 144 "BearerHouseModel" "pieceByte" "[I"]
def wsX9_tick_r7 : List Cond := [Cond.fieldLink RX9 150 "BearerHouseModel" "pieceFirst" "[Z", Cond.fieldLink RX9 153 "BearerHouseModel" "pieceLast" "[Z", Cond.methodLink RX9 341 yX9_hand, Cond.instanceMethod yX9_hand, Cond.selects RX9 yX9_hand yX9_hand, Cond.code yX9_hand cX9_hand 9 none, Cond.fieldLink RX9 156 "BearerHouseModel" "begun" "[I", Cond.fieldLink RX9 159 "BearerHouseModel" "packet" "[I", Cond.methodLink RX9 350 yX9_unitComes, Cond.instanceMethod yX9_unitComes, Cond.selects RX9 yX9_unitComes yX9_unitComes, Cond.code yX9_unitComes cX9_unitComes 9 none, Cond.fieldLink RX9 162 "BearerHouseModel" "nextUnit" "[I", Cond.fieldLink RX9 186 "BearerHouseModel" "isStored" "[Z", Cond.fieldLink RX9 168 "BearerHouseModel" "doubles" "[I", Cond.fieldLink RX9 177 "BearerHouseModel" "storedSize" "[I", Cond.fieldLink RX9 180 "BearerHouseModel" "stored" "[I", Cond.fieldLink RX9 222 "BearerHouseModel" "stream" "[I", Cond.methodLink RX9 261 yX9_makeStream, Cond.instanceMethod yX9_makeStream, Cond.selects RX9 yX9_makeStream yX9_makeStream, Cond.code yX9_makeStream cX9_makeStream 7 none, Cond.fieldLink RX9 216 "BearerHouseModel" "state" "[I", Cond.methodLink RX9 249 yX9_makeKey]
def wsX9_tick_r8 : List Cond := [Cond.instanceMethod yX9_makeKey, Cond.selects RX9 yX9_makeKey yX9_makeKey, Cond.code yX9_makeKey cX9_makeKey 5 none, Cond.fieldLink RX9 213 "BearerHouseModel" "key" "[I", Cond.fieldLink RX9 232 "BearerHouseModel" "seed" "I", Cond.fieldLink RX9 246 "BearerHouseModel" "epoch" "I", Cond.fieldLink RX9 210 "BearerHouseModel" "box" "[I", Cond.methodLink RX9 238 yX9_doubled, Cond.static yX9_doubled, Cond.code yX9_doubled cX9_doubled 1 (some .int), Cond.methodLink RX9 252 yX9_encipher, Cond.instanceMethod yX9_encipher, Cond.selects RX9 yX9_encipher yX9_encipher, Cond.code yX9_encipher cX9_encipher 6 none, Cond.fieldLink RX9 219 "BearerHouseModel" "other" "[I", Cond.methodLink RX9 356 yX9_deliver, Cond.instanceMethod yX9_deliver, Cond.selects RX9 yX9_deliver yX9_deliver, Cond.code yX9_deliver cX9_deliver 5 none, Cond.fieldLink RX9 174 "BearerHouseModel" "latestSize" "[I", Cond.fieldLink RX9 165 "BearerHouseModel" "unitBytes" "[I", Cond.fieldLink RX9 171 "BearerHouseModel" "sum" "[I", Cond.fieldLink RX9 183 "BearerHouseModel" "latest" "[I", Cond.methodLink RX9 353 yX9_report]
def wsX9_tick_r9 : List Cond := [Cond.instanceMethod yX9_report, Cond.selects RX9 yX9_report yX9_report, Cond.code yX9_report cX9_report 7 none, Cond.fieldLink RX9 13 "BearerHouseModel" "nextCount" "[I", Cond.fieldLink RX9 53 "BearerHouseModel" "isKept" "[Z", Cond.methodLink RX9 273 yX9_lowest, Cond.instanceMethod yX9_lowest, Cond.selects RX9 yX9_lowest yX9_lowest, Cond.code yX9_lowest cX9_lowest 3 (some .int), Cond.methodLink RX9 330 yX9_confirm, Cond.instanceMethod yX9_confirm, Cond.selects RX9 yX9_confirm yX9_confirm, Cond.code yX9_confirm cX9_confirm 5 none, Cond.methodLink RX9 344 yX9_clear, Cond.instanceMethod yX9_clear, Cond.selects RX9 yX9_clear yX9_clear, Cond.code yX9_clear cX9_clear 5 none, Cond.methodLink RX9 391 yX9_status, Cond.instanceMethod yX9_status, Cond.selects RX9 yX9_status yX9_status, Cond.code yX9_status cX9_status 11 none, Cond.fieldLink RX9 40 "BearerHouseModel" "statusCame" "[I", Cond.methodLink RX9 319 yX9_isNamed, Cond.static yX9_isNamed]
def wsX9_tick_r10 : List Cond := [Cond.code yX9_isNamed cX9_isNamed 7 (some .boolean), Cond.methodLink RX9 323 yX9_confirmPiece, Cond.instanceMethod yX9_confirmPiece, Cond.selects RX9 yX9_confirmPiece yX9_confirmPiece, Cond.code yX9_confirmPiece cX9_confirmPiece 7 none, Cond.fieldLink RX9 59 "BearerHouseModel" "keptCount" "[I", Cond.fieldLink RX9 62 "BearerHouseModel" "unconfirmed" "[I"]
def wsX9_tick : List Cond := .code yX9_tick cX9_tick 8 (some .int) :: ((wsX9_tick_r1 ++ (wsX9_tick_r2 ++ (wsX9_tick_r3 ++ (wsX9_tick_r4 ++ (wsX9_tick_r5 ++ (wsX9_tick_r6 ++ (wsX9_tick_r7 ++ (wsX9_tick_r8 ++ (wsX9_tick_r9 ++ wsX9_tick_r10))))))))) ++ wsX90)
def wsX9_renewReceiver_r1 : List Cond := [Cond.fieldLink RX9 107 "BearerHouseModel" "lowR" "[I", Cond.fieldLink RX9 110 "BearerHouseModel" "highH" "[I", Cond.fieldLink RX9 156 "BearerHouseModel" "begun" "[I", Cond.fieldLink RX9 113 "BearerHouseModel" "statusMs" "[I", Cond.fieldLink RX9 116 "BearerHouseModel" "reorderX" "[I", Cond.fieldLink RX9 125 "BearerHouseModel" "polls" "[I", Cond.fieldLink RX9 137 "BearerHouseModel" "wanted" "[Z", Cond.fieldLink RX9 119 "BearerHouseModel" "reorder" "[I", Cond.fieldLink RX9 122 "BearerHouseModel" "prohibit" "[I", Cond.methodLink RX9 258 yX9_at, Cond.static yX9_at, Cond.initialized RX9, Cond.code yX9_at cX9_at 2 (some .int), Cond.methodLink RX9 306 yX9_isWhole, Cond.instanceMethod yX9_isWhole, Cond.selects RX9 yX9_isWhole yX9_isWhole, Cond.code yX9_isWhole cX9_isWhole 6 (some .boolean), Cond.fieldLink RX9 140 "BearerHouseModel" "pieceSize" "[I", Cond.fieldLink RX9 147 "BearerHouseModel" "there" "[Z", Cond.methodLink RX9 341 yX9_hand, Cond.instanceMethod yX9_hand, Cond.selects RX9 yX9_hand yX9_hand, Cond.code yX9_hand cX9_hand 9 none, Cond.fieldLink RX9 150 "BearerHouseModel" "pieceFirst" "[Z"]
def wsX9_renewReceiver_r2 : List Cond := [Cond.fieldLink RX9 159 "BearerHouseModel" "packet" "[I", Cond.fieldLink RX9 144 "BearerHouseModel" "pieceByte" "[I", Cond.fieldLink RX9 153 "BearerHouseModel" "pieceLast" "[Z", Cond.methodLink RX9 350 yX9_unitComes, Cond.instanceMethod yX9_unitComes, Cond.selects RX9 yX9_unitComes yX9_unitComes, Cond.code yX9_unitComes cX9_unitComes 9 none, Cond.fieldLink RX9 162 "BearerHouseModel" "nextUnit" "[I", Cond.fieldLink RX9 186 "BearerHouseModel" "isStored" "[Z", Cond.fieldLink RX9 168 "BearerHouseModel" "doubles" "[I", Cond.fieldLink RX9 177 "BearerHouseModel" "storedSize" "[I", Cond.fieldLink RX9 180 "BearerHouseModel" "stored" "[I", Cond.fieldLink RX9 222 "BearerHouseModel" "stream" "[I", Cond.methodLink RX9 261 yX9_makeStream, Cond.instanceMethod yX9_makeStream, Cond.selects RX9 yX9_makeStream yX9_makeStream, Cond.code yX9_makeStream cX9_makeStream 7 none, Cond.fieldLink RX9 216 "BearerHouseModel" "state" "[I", Cond.methodLink RX9 249 yX9_makeKey, Cond.instanceMethod yX9_makeKey, Cond.selects RX9 yX9_makeKey yX9_makeKey, Cond.code yX9_makeKey cX9_makeKey 5 none, Cond.fieldLink RX9 213 "BearerHouseModel" "key" "[I", Cond.fieldLink RX9 232 "BearerHouseModel" "seed" "I"]
def wsX9_renewReceiver_r3 : List Cond := [Cond.fieldLink RX9 246 "BearerHouseModel" "epoch" "I", Cond.fieldLink RX9 210 "BearerHouseModel" "box" "[I", Cond.methodLink RX9 238 yX9_doubled, Cond.static yX9_doubled, Cond.code yX9_doubled cX9_doubled 1 (some .int), Cond.methodLink RX9 252 yX9_encipher, Cond.instanceMethod yX9_encipher, Cond.selects RX9 yX9_encipher yX9_encipher, Cond.code yX9_encipher cX9_encipher 6 none, Cond.fieldLink RX9 219 "BearerHouseModel" "other" "[I", Cond.methodLink RX9 356 yX9_deliver, Cond.instanceMethod yX9_deliver, Cond.selects RX9 yX9_deliver yX9_deliver, Cond.code yX9_deliver cX9_deliver 5 none, Cond.fieldLink RX9 174 "BearerHouseModel" "latestSize" "[I", Cond.fieldLink RX9 165 "BearerHouseModel" "unitBytes" "[I", Cond.fieldLink RX9 171 "BearerHouseModel" "sum" "[I", Cond.fieldLink RX9 183 "BearerHouseModel" "latest" "[I", Cond.methodLink RX9 353 yX9_report, Cond.instanceMethod yX9_report, Cond.selects RX9 yX9_report yX9_report, Cond.code yX9_report cX9_report 7 none, Cond.fieldLink RX9 13 "BearerHouseModel" "nextCount" "[I", Cond.fieldLink RX9 53 "BearerHouseModel" "isKept" "[Z"]
def wsX9_renewReceiver_r4 : List Cond := [Cond.methodLink RX9 273 yX9_lowest, Cond.instanceMethod yX9_lowest, Cond.selects RX9 yX9_lowest yX9_lowest, Cond.code yX9_lowest cX9_lowest 3 (some .int), Cond.methodLink RX9 330 yX9_confirm, Cond.instanceMethod yX9_confirm, Cond.selects RX9 yX9_confirm yX9_confirm, Cond.code yX9_confirm cX9_confirm 5 none, Cond.fieldLink RX9 74 "BearerHouseModel" "waiting" "[I", Cond.fieldLink RX9 71 "BearerHouseModel" "waitOwner" "[I", Cond.fieldLink RX9 77 "BearerHouseModel" "waitFirst" "[Z", Cond.methodLink RX9 280 yX9_cutWaiting, Cond.instanceMethod yX9_cutWaiting, Cond.selects RX9 yX9_cutWaiting yX9_cutWaiting, Cond.code yX9_cutWaiting cX9_cutWaiting 7 none, Cond.fieldLink RX9 68 "BearerHouseModel" "waitByte" "[I", Cond.fieldLink RX9 80 "BearerHouseModel" "waitLast" "[Z", Cond.methodLink RX9 344 yX9_clear, Cond.instanceMethod yX9_clear, Cond.selects RX9 yX9_clear yX9_clear, Cond.code yX9_clear cX9_clear 5 none]
def wsX9_renewReceiver : List Cond := .code yX9_renewReceiver cX9_renewReceiver 5 none :: ((wsX9_renewReceiver_r1 ++ (wsX9_renewReceiver_r2 ++ (wsX9_renewReceiver_r3 ++ wsX9_renewReceiver_r4))) ++ wsX90)
def wsX9_renew_r1 : List Cond := [Cond.fieldLink RX9 228 "BearerHouseModel" "bearers" "I", Cond.fieldLink RX9 16 "BearerHouseModel" "lowA" "[I", Cond.fieldLink RX9 19 "BearerHouseModel" "newS" "[I", Cond.fieldLink RX9 43 "BearerHouseModel" "asked" "[Z", Cond.fieldLink RX9 47 "BearerHouseModel" "failed" "[Z", Cond.fieldLink RX9 22 "BearerHouseModel" "pollTimer" "[I", Cond.fieldLink RX9 28 "BearerHouseModel" "sincePoll" "[I", Cond.fieldLink RX9 25 "BearerHouseModel" "polled" "[I", Cond.fieldLink RX9 74 "BearerHouseModel" "waiting" "[I", Cond.fieldLink RX9 189 "BearerHouseModel" "blockSendings" "[I", Cond.fieldLink RX9 246 "BearerHouseModel" "epoch" "I", Cond.fieldLink RX9 13 "BearerHouseModel" "nextCount" "[I", Cond.fieldLink RX9 53 "BearerHouseModel" "isKept" "[Z", Cond.methodLink RX9 402 yX9_renewReceiver, Cond.instanceMethod yX9_renewReceiver, Cond.selects RX9 yX9_renewReceiver yX9_renewReceiver, Cond.initialized RX9, Cond.code yX9_renewReceiver cX9_renewReceiver 5 none, Cond.fieldLink RX9 107 "BearerHouseModel" "lowR" "[I", Cond.fieldLink RX9 110 "BearerHouseModel" "highH" "[I", Cond.fieldLink RX9 156 "BearerHouseModel" "begun" "[I", Cond.fieldLink RX9 113 "BearerHouseModel" "statusMs" "[I", Cond.fieldLink RX9 116 "BearerHouseModel" "reorderX" "[I", Cond.fieldLink RX9 125 "BearerHouseModel" "polls" "[I"]
def wsX9_renew_r2 : List Cond := [Cond.fieldLink RX9 137 "BearerHouseModel" "wanted" "[Z", Cond.fieldLink RX9 119 "BearerHouseModel" "reorder" "[I", Cond.fieldLink RX9 122 "BearerHouseModel" "prohibit" "[I", Cond.methodLink RX9 258 yX9_at, Cond.static yX9_at, Cond.code yX9_at cX9_at 2 (some .int), Cond.methodLink RX9 306 yX9_isWhole, Cond.instanceMethod yX9_isWhole, Cond.selects RX9 yX9_isWhole yX9_isWhole, Cond.code yX9_isWhole cX9_isWhole 6 (some .boolean), Cond.fieldLink RX9 140 "BearerHouseModel" "pieceSize" "[I", Cond.fieldLink RX9 147 "BearerHouseModel" "there" "[Z", Cond.methodLink RX9 341 yX9_hand, Cond.instanceMethod yX9_hand, Cond.selects RX9 yX9_hand yX9_hand, Cond.code yX9_hand cX9_hand 9 none, Cond.fieldLink RX9 150 "BearerHouseModel" "pieceFirst" "[Z", Cond.fieldLink RX9 159 "BearerHouseModel" "packet" "[I", Cond.fieldLink RX9 144 "BearerHouseModel" "pieceByte" "[I", Cond.fieldLink RX9 153 "BearerHouseModel" "pieceLast" "[Z", Cond.methodLink RX9 350 yX9_unitComes, Cond.instanceMethod yX9_unitComes, Cond.selects RX9 yX9_unitComes yX9_unitComes, Cond.code yX9_unitComes cX9_unitComes 9 none]
def wsX9_renew_r3 : List Cond := [Cond.fieldLink RX9 162 "BearerHouseModel" "nextUnit" "[I", Cond.fieldLink RX9 186 "BearerHouseModel" "isStored" "[Z", Cond.fieldLink RX9 168 "BearerHouseModel" "doubles" "[I", Cond.fieldLink RX9 177 "BearerHouseModel" "storedSize" "[I", Cond.fieldLink RX9 180 "BearerHouseModel" "stored" "[I", Cond.fieldLink RX9 222 "BearerHouseModel" "stream" "[I", Cond.methodLink RX9 261 yX9_makeStream, Cond.instanceMethod yX9_makeStream, Cond.selects RX9 yX9_makeStream yX9_makeStream, Cond.code yX9_makeStream cX9_makeStream 7 none, Cond.fieldLink RX9 216 "BearerHouseModel" "state" "[I", Cond.methodLink RX9 249 yX9_makeKey, Cond.instanceMethod yX9_makeKey, Cond.selects RX9 yX9_makeKey yX9_makeKey, Cond.code yX9_makeKey cX9_makeKey 5 none, Cond.fieldLink RX9 213 "BearerHouseModel" "key" "[I", Cond.fieldLink RX9 232 "BearerHouseModel" "seed" "I", Cond.fieldLink RX9 210 "BearerHouseModel" "box" "[I", Cond.methodLink RX9 238 yX9_doubled, Cond.static yX9_doubled, Cond.code yX9_doubled cX9_doubled 1 (some .int), Cond.methodLink RX9 252 yX9_encipher, Cond.instanceMethod yX9_encipher, Cond.selects RX9 yX9_encipher yX9_encipher]
def wsX9_renew_r4 : List Cond := [Cond.code yX9_encipher cX9_encipher 6 none, Cond.fieldLink RX9 219 "BearerHouseModel" "other" "[I", Cond.methodLink RX9 356 yX9_deliver, Cond.instanceMethod yX9_deliver, Cond.selects RX9 yX9_deliver yX9_deliver, Cond.code yX9_deliver cX9_deliver 5 none, Cond.fieldLink RX9 174 "BearerHouseModel" "latestSize" "[I", Cond.fieldLink RX9 165 "BearerHouseModel" "unitBytes" "[I", Cond.fieldLink RX9 171 "BearerHouseModel" "sum" "[I", Cond.fieldLink RX9 183 "BearerHouseModel" "latest" "[I", Cond.methodLink RX9 353 yX9_report, Cond.instanceMethod yX9_report, Cond.selects RX9 yX9_report yX9_report, Cond.code yX9_report cX9_report 7 none, Cond.methodLink RX9 273 yX9_lowest, Cond.instanceMethod yX9_lowest, Cond.selects RX9 yX9_lowest yX9_lowest, Cond.code yX9_lowest cX9_lowest 3 (some .int), Cond.methodLink RX9 330 yX9_confirm, Cond.instanceMethod yX9_confirm, Cond.selects RX9 yX9_confirm yX9_confirm, Cond.code yX9_confirm cX9_confirm 5 none, Cond.fieldLink RX9 71 "BearerHouseModel" "waitOwner" "[I", Cond.fieldLink RX9 77 "BearerHouseModel" "waitFirst" "[Z"]
def wsX9_renew_r5 : List Cond := [Cond.methodLink RX9 280 yX9_cutWaiting, Cond.instanceMethod yX9_cutWaiting, Cond.selects RX9 yX9_cutWaiting yX9_cutWaiting, Cond.code yX9_cutWaiting cX9_cutWaiting 7 none, Cond.fieldLink RX9 68 "BearerHouseModel" "waitByte" "[I", Cond.fieldLink RX9 80 "BearerHouseModel" "waitLast" "[Z", Cond.methodLink RX9 344 yX9_clear, Cond.instanceMethod yX9_clear, Cond.selects RX9 yX9_clear yX9_clear, Cond.code yX9_clear cX9_clear 5 none, Cond.methodLink RX9 405 yX9_awaitReport, Cond.instanceMethod yX9_awaitReport, Cond.selects RX9 yX9_awaitReport yX9_awaitReport, Cond.code yX9_awaitReport cX9_awaitReport 9 none, Cond.methodLink RX9 265 yX9_await, Cond.instanceMethod yX9_await, Cond.selects RX9 yX9_await yX9_await, Cond.code yX9_await cX9_await 7 none, Cond.methodLink RX9 276 yX9_awaitUnit, Cond.instanceMethod yX9_awaitUnit, Cond.selects RX9 yX9_awaitUnit yX9_awaitUnit, Cond.code yX9_awaitUnit cX9_awaitUnit 8 none, Cond.fieldLink RX9 56 "BearerHouseModel" "keptSize" "[I", Cond.fieldLink RX9 65 "BearerHouseModel" "kept" "[I"]
def wsX9_renew_r6 : List Cond := [Cond.fieldLink RX9 62 "BearerHouseModel" "unconfirmed" "[I"]
def wsX9_renew : List Cond := .code yX9_renew cX9_renew 5 (some .int) :: ((wsX9_renew_r1 ++ (wsX9_renew_r2 ++ (wsX9_renew_r3 ++ (wsX9_renew_r4 ++ (wsX9_renew_r5 ++ wsX9_renew_r6))))) ++ wsX90)
def wsX9_rate : List Cond := .code yX9_rate cX9_rate 3 (some .boolean) :: ([.fieldLink RX9 228 "BearerHouseModel" "bearers" "I", .fieldLink RX9 50 "BearerHouseModel" "rate" "[I"] ++ wsX90)
def wsX9_block : List Cond := .code yX9_block cX9_block 3 (some .int) :: ([.fieldLink RX9 201 "BearerHouseModel" "sentSize" "[I", .fieldLink RX9 204 "BearerHouseModel" "sentByte" "[I"] ++ wsX90)
def wsX9_sender_r1 : List Cond := [Cond.fieldLink RX9 16 "BearerHouseModel" "lowA" "[I", Cond.fieldLink RX9 19 "BearerHouseModel" "newS" "[I", Cond.fieldLink RX9 53 "BearerHouseModel" "isKept" "[Z", Cond.fieldLink RX9 74 "BearerHouseModel" "waiting" "[I", Cond.fieldLink RX9 22 "BearerHouseModel" "pollTimer" "[I", Cond.fieldLink RX9 47 "BearerHouseModel" "failed" "[Z", Cond.fieldLink RX9 31 "BearerHouseModel" "bucket" "[I", Cond.fieldLink RX9 34 "BearerHouseModel" "made" "[I", Cond.fieldLink RX9 37 "BearerHouseModel" "madeAgain" "[I", Cond.fieldLink RX9 40 "BearerHouseModel" "statusCame" "[I", Cond.fieldLink RX9 13 "BearerHouseModel" "nextCount" "[I", Cond.methodLink RX9 269 yX9_isThere, Cond.instanceMethod yX9_isThere, Cond.selects RX9 yX9_isThere yX9_isThere, Cond.initialized RX9, Cond.code yX9_isThere cX9_isThere 3 (some .boolean), Cond.fieldLink RX9 228 "BearerHouseModel" "bearers" "I", Cond.methodLink RX9 258 yX9_at, Cond.static yX9_at, Cond.code yX9_at cX9_at 2 (some .int), Cond.methodLink RX9 289 yX9_allAgain, Cond.instanceMethod yX9_allAgain, Cond.selects RX9 yX9_allAgain yX9_allAgain, Cond.code yX9_allAgain cX9_allAgain 4 (some .int)]
def wsX9_sender_r2 : List Cond := [Cond.methodLink RX9 283 yX9_isAgain, Cond.instanceMethod yX9_isAgain, Cond.selects RX9 yX9_isAgain yX9_isAgain, Cond.code yX9_isAgain cX9_isAgain 6 (some .int), Cond.fieldLink RX9 83 "BearerHouseModel" "fieldSize" "[I", Cond.fieldLink RX9 104 "BearerHouseModel" "again" "[Z"]
def wsX9_sender : List Cond := .code yX9_sender cX9_sender 7 (some .int) :: ((wsX9_sender_r1 ++ wsX9_sender_r2) ++ wsX90)
def wsX9_receiver : List Cond := .code yX9_receiver cX9_receiver 7 (some .int) :: ([.fieldLink RX9 107 "BearerHouseModel" "lowR" "[I", .fieldLink RX9 110 "BearerHouseModel" "highH" "[I", .fieldLink RX9 113 "BearerHouseModel" "statusMs" "[I", .fieldLink RX9 116 "BearerHouseModel" "reorderX" "[I", .fieldLink RX9 119 "BearerHouseModel" "reorder" "[I", .fieldLink RX9 122 "BearerHouseModel" "prohibit" "[I", .fieldLink RX9 137 "BearerHouseModel" "wanted" "[Z", .fieldLink RX9 147 "BearerHouseModel" "there" "[Z", .fieldLink RX9 128 "BearerHouseModel" "statusMade" "[I", .fieldLink RX9 131 "BearerHouseModel" "dataCame" "[I", .fieldLink RX9 134 "BearerHouseModel" "dataOld" "[I", .fieldLink RX9 125 "BearerHouseModel" "polls" "[I", .methodLink RX9 269 yX9_isThere, .instanceMethod yX9_isThere, .selects RX9 yX9_isThere yX9_isThere, .initialized RX9, .code yX9_isThere cX9_isThere 3 (some .boolean), .fieldLink RX9 228 "BearerHouseModel" "bearers" "I", .methodLink RX9 258 yX9_at, .static yX9_at, .code yX9_at cX9_at 2 (some .int)] ++ wsX90)
def wsX9_delivered : List Cond := .code yX9_delivered cX9_delivered 7 (some .int) :: ([.fieldLink RX9 162 "BearerHouseModel" "nextUnit" "[I", .fieldLink RX9 165 "BearerHouseModel" "unitBytes" "[I", .fieldLink RX9 168 "BearerHouseModel" "doubles" "[I", .fieldLink RX9 186 "BearerHouseModel" "isStored" "[Z", .fieldLink RX9 171 "BearerHouseModel" "sum" "[I", .fieldLink RX9 174 "BearerHouseModel" "latestSize" "[I", .methodLink RX9 269 yX9_isThere, .instanceMethod yX9_isThere, .selects RX9 yX9_isThere yX9_isThere, .initialized RX9, .code yX9_isThere cX9_isThere 3 (some .boolean), .fieldLink RX9 228 "BearerHouseModel" "bearers" "I", .methodLink RX9 258 yX9_at, .static yX9_at, .code yX9_at cX9_at 2 (some .int)] ++ wsX90)
def wsX9_unit : List Cond := .code yX9_unit cX9_unit 4 (some .int) :: ([.fieldLink RX9 174 "BearerHouseModel" "latestSize" "[I", .fieldLink RX9 183 "BearerHouseModel" "latest" "[I", .methodLink RX9 269 yX9_isThere, .instanceMethod yX9_isThere, .selects RX9 yX9_isThere yX9_isThere, .initialized RX9, .code yX9_isThere cX9_isThere 3 (some .boolean), .fieldLink RX9 228 "BearerHouseModel" "bearers" "I", .methodLink RX9 258 yX9_at, .static yX9_at, .code yX9_at cX9_at 2 (some .int)] ++ wsX90)
def wsX9_process : List Cond := .code yX9_process cX9_process 6 (some .int) :: ([.fieldLink RX9 189 "BearerHouseModel" "blockSendings" "[I", .fieldLink RX9 192 "BearerHouseModel" "blockSize" "[I", .fieldLink RX9 198 "BearerHouseModel" "blockCame" "[Z"] ++ wsX90)
def wsX9_world : List Cond := .code yX9_world cX9_world 2 (some .int) :: ([.fieldLink RX9 363 "BearerHouseModel" "ticks" "I", .fieldLink RX9 246 "BearerHouseModel" "epoch" "I", .fieldLink RX9 369 "BearerHouseModel" "sendings" "I", .fieldLink RX9 372 "BearerHouseModel" "lost" "I", .fieldLink RX9 375 "BearerHouseModel" "turned" "I", .fieldLink RX9 381 "BearerHouseModel" "dropped" "I", .fieldLink RX9 384 "BearerHouseModel" "worked" "I"] ++ wsX90)
def wsJ9_max_7cf53 : List Cond := .code yJ9_max_7cf53 cJ9_max_7cf53 2 (some .int) :: ([])
def wsJ9_min_7cf53 : List Cond := .code yJ9_min_7cf53 cJ9_min_7cf53 2 (some .int) :: ([])
def wsL_cell : List Cond := .code yL_cell cL_cell 2 (some .int) :: ([])
def wsL_law_r1 : List Cond := [Cond.classLink RL 7 RX8, Cond.instantiable RX8 16, Cond.initialized RX8, Cond.classLink RL 18 RX9, Cond.instantiable RX9 82, Cond.initialized RX9, Cond.methodLink RL 9 yL_cell, Cond.static yL_cell, Cond.initialized RL, Cond.code yL_cell cL_cell 2 (some .int), Cond.methodLink RL 15 yX8_init, Cond.instanceMethod yX8_init, Cond.code yX8_init cX8_init 7 none, Cond.methodLink RX8 1 objectInit, Cond.instanceMethod objectInit, Cond.code objectInit ⟨#[0xb1]⟩ 1 none, Cond.arrayClass .int, Cond.fieldLink RX8 9 "BearerHouse" "tape" "[I", Cond.fieldLink RX8 13 "BearerHouse" "shown" "[I", Cond.fieldLink RX8 16 "BearerHouse" "bearers" "I", Cond.fieldLink RX8 20 "BearerHouse" "seed" "I", Cond.classLink RX8 23 RX2, Cond.instantiable RX2 3, Cond.initialized RX2]
def wsL_law_r2 : List Cond := [Cond.fieldLink RX8 26 "BearerHouse" "cipher" "LBearerHouse$Cipher;", Cond.classLink RX8 34 RX7, Cond.fieldLink RX8 36 "BearerHouse" "senders" "[LBearerHouse$Sender;", Cond.classLink RX8 40 RX6, Cond.fieldLink RX8 42 "BearerHouse" "receivers" "[LBearerHouse$Receiver;", Cond.instantiable RX7 15, Cond.initialized RX7, Cond.instantiable RX6 13, Cond.initialized RX6, Cond.classLink RX8 50 RX1, Cond.fieldLink RX8 52 "BearerHouse" "carriers" "[LBearerHouse$Carrier;", Cond.instantiable RX1 4, Cond.initialized RX1, Cond.instanceMethod yX2_init, Cond.code yX2_init cX2_init 1 none, Cond.methodLink RX2 1 objectInit, Cond.fieldLink RX2 7 "BearerHouse$Cipher" "keys" "[I", Cond.fieldLink RX2 13 "BearerHouse$Cipher" "state" "[I", Cond.fieldLink RX2 16 "BearerHouse$Cipher" "shifted" "[I", Cond.methodLink RX8 30 yX2_setKey, Cond.instanceMethod yX2_setKey, Cond.selects RX2 yX2_setKey yX2_setKey, Cond.code yX2_setKey cX2_setKey 8 none, Cond.methodLink RX8 46 yX7_init]
def wsL_law_r3 : List Cond := [Cond.instanceMethod yX7_init, Cond.code yX7_init cX7_init 3 none, Cond.methodLink RX7 3 objectInit, Cond.classLink RX7 9 RX5, Cond.fieldLink RX7 11 "BearerHouse$Sender" "pieces" "[LBearerHouse$Piece;", Cond.fieldLink RX7 17 "BearerHouse$Sender" "rate" "I", Cond.fieldLink RX7 21 "BearerHouse$Sender" "polled" "I", Cond.classLink RX7 24 RX4, Cond.instantiable RX4 15, Cond.initialized RX4, Cond.fieldLink RX7 29 "BearerHouse$Sender" "outbox" "LBearerHouse$Outbox;", Cond.instantiable RX5 6, Cond.initialized RX5, Cond.methodLink RX7 26 yX4_init, Cond.instanceMethod yX4_init, Cond.code yX4_init cX4_init 2 none, Cond.methodLink RX4 3 objectInit, Cond.fieldLink RX4 9 "BearerHouse$Outbox" "rows" "[I", Cond.fieldLink RX4 15 "BearerHouse$Outbox" "sizes" "[I", Cond.arrayClass .boolean, Cond.fieldLink RX4 18 "BearerHouse$Outbox" "isKept" "[Z", Cond.fieldLink RX4 22 "BearerHouse$Outbox" "open" "[I", Cond.fieldLink RX4 25 "BearerHouse$Outbox" "ids" "[I", Cond.fieldLink RX4 28 "BearerHouse$Outbox" "front" "[I"]
def wsL_law_r4 : List Cond := [Cond.fieldLink RX4 31 "BearerHouse$Outbox" "report" "[I", Cond.fieldLink RX4 34 "BearerHouse$Outbox" "mark" "I", Cond.instanceMethod yX5_init, Cond.code yX5_init cX5_init 1 none, Cond.methodLink RX5 3 objectInit, Cond.fieldLink RX5 9 "BearerHouse$Piece" "cells" "[I", Cond.methodLink RX8 49 yX6_init, Cond.instanceMethod yX6_init, Cond.code yX6_init cX6_init 3 none, Cond.methodLink RX6 3 objectInit, Cond.classLink RX6 9 RX5, Cond.fieldLink RX6 11 "BearerHouse$Receiver" "pieces" "[LBearerHouse$Piece;", Cond.fieldLink RX6 17 "BearerHouse$Receiver" "polls" "I", Cond.classLink RX6 21 RX3, Cond.instantiable RX3 13, Cond.initialized RX3, Cond.fieldLink RX6 26 "BearerHouse$Receiver" "inbox" "LBearerHouse$Inbox;", Cond.methodLink RX6 23 yX3_init, Cond.instanceMethod yX3_init, Cond.code yX3_init cX3_init 2 none, Cond.methodLink RX3 3 objectInit, Cond.fieldLink RX3 9 "BearerHouse$Inbox" "packet" "[I", Cond.fieldLink RX3 15 "BearerHouse$Inbox" "rows" "[I", Cond.fieldLink RX3 18 "BearerHouse$Inbox" "sizes" "[I"]
def wsL_law_r5 : List Cond := [Cond.fieldLink RX3 21 "BearerHouse$Inbox" "latest" "[I", Cond.fieldLink RX3 24 "BearerHouse$Inbox" "mark" "I", Cond.instanceMethod yX1_init, Cond.code yX1_init cX1_init 1 none, Cond.methodLink RX1 1 objectInit, Cond.classLink RX1 7 RX0, Cond.instantiable RX0 2, Cond.initialized RX0, Cond.fieldLink RX1 10 "BearerHouse$Carrier" "air" "LBearerHouse$Air;", Cond.instanceMethod yX0_init, Cond.code yX0_init cX0_init 1 none, Cond.methodLink RX0 3 objectInit, Cond.fieldLink RX0 9 "BearerHouse$Air" "bytes" "[I", Cond.methodLink RL 20 yX9_init, Cond.instanceMethod yX9_init, Cond.code yX9_init cX9_init 4 none, Cond.methodLink RX9 1 objectInit, Cond.fieldLink RX9 9 "BearerHouseModel" "tape" "[I", Cond.fieldLink RX9 13 "BearerHouseModel" "nextCount" "[I", Cond.fieldLink RX9 16 "BearerHouseModel" "lowA" "[I", Cond.fieldLink RX9 19 "BearerHouseModel" "newS" "[I", Cond.fieldLink RX9 22 "BearerHouseModel" "pollTimer" "[I", Cond.fieldLink RX9 25 "BearerHouseModel" "polled" "[I", Cond.fieldLink RX9 28 "BearerHouseModel" "sincePoll" "[I"]
def wsL_law_r6 : List Cond := [Cond.fieldLink RX9 31 "BearerHouseModel" "bucket" "[I", Cond.fieldLink RX9 34 "BearerHouseModel" "made" "[I", Cond.fieldLink RX9 37 "BearerHouseModel" "madeAgain" "[I", Cond.fieldLink RX9 40 "BearerHouseModel" "statusCame" "[I", Cond.fieldLink RX9 43 "BearerHouseModel" "asked" "[Z", Cond.fieldLink RX9 47 "BearerHouseModel" "failed" "[Z", Cond.fieldLink RX9 50 "BearerHouseModel" "rate" "[I", Cond.fieldLink RX9 53 "BearerHouseModel" "isKept" "[Z", Cond.fieldLink RX9 56 "BearerHouseModel" "keptSize" "[I", Cond.fieldLink RX9 59 "BearerHouseModel" "keptCount" "[I", Cond.fieldLink RX9 62 "BearerHouseModel" "unconfirmed" "[I", Cond.fieldLink RX9 65 "BearerHouseModel" "kept" "[I", Cond.fieldLink RX9 68 "BearerHouseModel" "waitByte" "[I", Cond.fieldLink RX9 71 "BearerHouseModel" "waitOwner" "[I", Cond.fieldLink RX9 74 "BearerHouseModel" "waiting" "[I", Cond.fieldLink RX9 77 "BearerHouseModel" "waitFirst" "[Z", Cond.fieldLink RX9 80 "BearerHouseModel" "waitLast" "[Z", Cond.fieldLink RX9 83 "BearerHouseModel" "fieldSize" "[I", Cond.fieldLink RX9 86 "BearerHouseModel" "tries" "[I", Cond.fieldLink RX9 89 "BearerHouseModel" "fieldByte" "[I", Cond.fieldLink RX9 92 "BearerHouseModel" "fieldOwner" "[I", Cond.fieldLink RX9 95 "BearerHouseModel" "confirmed" "[Z", Cond.fieldLink RX9 98 "BearerHouseModel" "fieldFirst" "[Z", Cond.fieldLink RX9 101 "BearerHouseModel" "fieldLast" "[Z"]
def wsL_law_r7 : List Cond := [Cond.fieldLink RX9 104 "BearerHouseModel" "again" "[Z", Cond.fieldLink RX9 107 "BearerHouseModel" "lowR" "[I", Cond.fieldLink RX9 110 "BearerHouseModel" "highH" "[I", Cond.fieldLink RX9 113 "BearerHouseModel" "statusMs" "[I", Cond.fieldLink RX9 116 "BearerHouseModel" "reorderX" "[I", Cond.fieldLink RX9 119 "BearerHouseModel" "reorder" "[I", Cond.fieldLink RX9 122 "BearerHouseModel" "prohibit" "[I", Cond.fieldLink RX9 125 "BearerHouseModel" "polls" "[I", Cond.fieldLink RX9 128 "BearerHouseModel" "statusMade" "[I", Cond.fieldLink RX9 131 "BearerHouseModel" "dataCame" "[I", Cond.fieldLink RX9 134 "BearerHouseModel" "dataOld" "[I", Cond.fieldLink RX9 137 "BearerHouseModel" "wanted" "[Z", Cond.fieldLink RX9 140 "BearerHouseModel" "pieceSize" "[I", Cond.constant RX9 143 (46080), Cond.fieldLink RX9 144 "BearerHouseModel" "pieceByte" "[I", Cond.fieldLink RX9 147 "BearerHouseModel" "there" "[Z", Cond.fieldLink RX9 150 "BearerHouseModel" "pieceFirst" "[Z", Cond.fieldLink RX9 153 "BearerHouseModel" "pieceLast" "[Z", Cond.fieldLink RX9 156 "BearerHouseModel" "begun" "[I", Cond.fieldLink RX9 159 "BearerHouseModel" "packet" "[I", Cond.fieldLink RX9 162 "BearerHouseModel" "nextUnit" "[I", Cond.fieldLink RX9 165 "BearerHouseModel" "unitBytes" "[I", Cond.fieldLink RX9 168 "BearerHouseModel" "doubles" "[I", Cond.fieldLink RX9 171 "BearerHouseModel" "sum" "[I"]
def wsL_law_r8 : List Cond := [Cond.fieldLink RX9 174 "BearerHouseModel" "latestSize" "[I", Cond.fieldLink RX9 177 "BearerHouseModel" "storedSize" "[I", Cond.fieldLink RX9 180 "BearerHouseModel" "stored" "[I", Cond.fieldLink RX9 183 "BearerHouseModel" "latest" "[I", Cond.fieldLink RX9 186 "BearerHouseModel" "isStored" "[Z", Cond.fieldLink RX9 189 "BearerHouseModel" "blockSendings" "[I", Cond.fieldLink RX9 192 "BearerHouseModel" "blockSize" "[I", Cond.fieldLink RX9 195 "BearerHouseModel" "blockByte" "[I", Cond.fieldLink RX9 198 "BearerHouseModel" "blockCame" "[Z", Cond.fieldLink RX9 201 "BearerHouseModel" "sentSize" "[I", Cond.fieldLink RX9 204 "BearerHouseModel" "sentByte" "[I", Cond.fieldLink RX9 207 "BearerHouseModel" "out" "[I", Cond.fieldLink RX9 210 "BearerHouseModel" "box" "[I", Cond.fieldLink RX9 213 "BearerHouseModel" "key" "[I", Cond.fieldLink RX9 216 "BearerHouseModel" "state" "[I", Cond.fieldLink RX9 219 "BearerHouseModel" "other" "[I", Cond.fieldLink RX9 222 "BearerHouseModel" "stream" "[I", Cond.fieldLink RX9 225 "BearerHouseModel" "laid" "[I", Cond.fieldLink RX9 228 "BearerHouseModel" "bearers" "I", Cond.fieldLink RX9 232 "BearerHouseModel" "seed" "I", Cond.methodLink RX9 235 yX9_makeBox, Cond.instanceMethod yX9_makeBox, Cond.selects RX9 yX9_makeBox yX9_makeBox, Cond.code yX9_makeBox cX9_makeBox 5 none]
def wsL_law_r9 : List Cond := [Cond.methodLink RX9 242 yX9_times, Cond.static yX9_times, Cond.code yX9_times cX9_times 5 (some .int), Cond.methodLink RX9 238 yX9_doubled, Cond.static yX9_doubled, Cond.code yX9_doubled cX9_doubled 1 (some .int), Cond.methodLink RL 21 yX8_feed, Cond.instanceMethod yX8_feed, Cond.selects RX8 yX8_feed yX8_feed, Cond.code yX8_feed cX8_feed 6 (some .int), Cond.fieldLink RX8 57 "BearerHouse" "tapeSize" "I", Cond.methodLink RX8 60 yX8_feedWord, Cond.instanceMethod yX8_feedWord, Cond.selects RX8 yX8_feedWord yX8_feedWord, Cond.code yX8_feedWord cX8_feedWord 3 none, Cond.methodLink RL 25 yX9_feed, Cond.instanceMethod yX9_feed, Cond.selects RX9 yX9_feed yX9_feed, Cond.code yX9_feed cX9_feed 8 (some .int), Cond.fieldLink RX9 255 "BearerHouseModel" "taped" "I", Cond.methodLink RL 26 yX8_end, Cond.instanceMethod yX8_end, Cond.selects RX8 yX8_end yX8_end, Cond.code yX8_end cX8_end 2 (some .int)]
def wsL_law_r10 : List Cond := [Cond.methodLink RL 30 yX9_end, Cond.instanceMethod yX9_end, Cond.selects RX9 yX9_end yX9_end, Cond.code yX9_end cX9_end 2 (some .int), Cond.methodLink RL 31 yX8_send, Cond.instanceMethod yX8_send, Cond.selects RX8 yX8_send yX8_send, Cond.code yX8_send cX8_send 4 (some .int), Cond.methodLink RX8 63 yX8_isPlace, Cond.instanceMethod yX8_isPlace, Cond.selects RX8 yX8_isPlace yX8_isPlace, Cond.code yX8_isPlace cX8_isPlace 3 (some .boolean), Cond.methodLink RX8 67 yX8_placeOf, Cond.instanceMethod yX8_placeOf, Cond.selects RX8 yX8_placeOf yX8_placeOf, Cond.code yX8_placeOf cX8_placeOf 3 (some .int), Cond.methodLink RX8 75 yX4_takeUnit, Cond.instanceMethod yX4_takeUnit, Cond.selects RX4 yX4_takeUnit yX4_takeUnit, Cond.code yX4_takeUnit cX4_takeUnit 4 (some .int), Cond.fieldLink RX4 38 "BearerHouse$Outbox" "nextCount" "I", Cond.fieldLink RX4 41 "BearerHouse$Outbox" "lowCount" "I", Cond.methodLink RX4 44 arraycopyName, Cond.native arraycopyName]
def wsL_law_r11 : List Cond := [Cond.static arraycopyName, Cond.initialized "java/lang/System", Cond.fieldLink RX4 50 "BearerHouse$Outbox" "kept" "I", Cond.methodLink RX4 53 yX4_addWaiting, Cond.instanceMethod yX4_addWaiting, Cond.selects RX4 yX4_addWaiting yX4_addWaiting, Cond.code yX4_addWaiting cX4_addWaiting 2 none, Cond.fieldLink RX4 57 "BearerHouse$Outbox" "waiting" "I", Cond.methodLink RL 35 yX9_send, Cond.instanceMethod yX9_send, Cond.selects RX9 yX9_send yX9_send, Cond.code yX9_send cX9_send 7 (some .int), Cond.methodLink RX9 269 yX9_isThere, Cond.instanceMethod yX9_isThere, Cond.selects RX9 yX9_isThere yX9_isThere, Cond.code yX9_isThere cX9_isThere 3 (some .boolean), Cond.methodLink RX9 258 yX9_at, Cond.static yX9_at, Cond.code yX9_at cX9_at 2 (some .int), Cond.methodLink RX9 273 yX9_lowest, Cond.instanceMethod yX9_lowest, Cond.selects RX9 yX9_lowest yX9_lowest, Cond.code yX9_lowest cX9_lowest 3 (some .int), Cond.methodLink RX9 276 yX9_awaitUnit]
def wsL_law_r12 : List Cond := [Cond.instanceMethod yX9_awaitUnit, Cond.selects RX9 yX9_awaitUnit yX9_awaitUnit, Cond.code yX9_awaitUnit cX9_awaitUnit 8 none, Cond.methodLink RX9 261 yX9_makeStream, Cond.instanceMethod yX9_makeStream, Cond.selects RX9 yX9_makeStream yX9_makeStream, Cond.code yX9_makeStream cX9_makeStream 7 none, Cond.methodLink RX9 249 yX9_makeKey, Cond.instanceMethod yX9_makeKey, Cond.selects RX9 yX9_makeKey yX9_makeKey, Cond.code yX9_makeKey cX9_makeKey 5 none, Cond.fieldLink RX9 246 "BearerHouseModel" "epoch" "I", Cond.methodLink RX9 252 yX9_encipher, Cond.instanceMethod yX9_encipher, Cond.selects RX9 yX9_encipher yX9_encipher, Cond.code yX9_encipher cX9_encipher 6 none, Cond.methodLink RX9 265 yX9_await, Cond.instanceMethod yX9_await, Cond.selects RX9 yX9_await yX9_await, Cond.code yX9_await cX9_await 7 none, Cond.methodLink RL 36 yX8_rate, Cond.instanceMethod yX8_rate, Cond.selects RX8 yX8_rate yX8_rate, Cond.code yX8_rate cX8_rate 3 (some .boolean)]
def wsL_law_r13 : List Cond := [Cond.methodLink RL 40 yX9_rate, Cond.instanceMethod yX9_rate, Cond.selects RX9 yX9_rate yX9_rate, Cond.code yX9_rate cX9_rate 3 (some .boolean), Cond.methodLink RL 41 yX8_tick, Cond.instanceMethod yX8_tick, Cond.selects RX8 yX8_tick yX8_tick, Cond.code yX8_tick cX8_tick 8 (some .int), Cond.fieldLink RX8 84 "BearerHouse" "ticks" "I", Cond.methodLink RX8 87 yX7_countDown, Cond.instanceMethod yX7_countDown, Cond.selects RX7 yX7_countDown yX7_countDown, Cond.code yX7_countDown cX7_countDown 2 none, Cond.fieldLink RX7 50 "BearerHouse$Sender" "pollTimer" "I", Cond.fieldLink RX7 43 "BearerHouse$Sender" "isAsked" "Z", Cond.fieldLink RX7 37 "BearerHouse$Sender" "next" "I", Cond.fieldLink RX7 34 "BearerHouse$Sender" "low" "I", Cond.fieldLink RX7 40 "BearerHouse$Sender" "again" "I", Cond.methodLink RX7 59 yX7_pieceAt, Cond.instanceMethod yX7_pieceAt, Cond.selects RX7 yX7_pieceAt yX7_pieceAt, Cond.code yX7_pieceAt cX7_pieceAt 2 (some (.object "BearerHouse$Piece")), Cond.methodLink RX7 63 yX7_bringAgain, Cond.instanceMethod yX7_bringAgain]
def wsL_law_r14 : List Cond := [Cond.selects RX7 yX7_bringAgain yX7_bringAgain, Cond.code yX7_bringAgain cX7_bringAgain 6 none, Cond.fieldLink RX7 47 "BearerHouse$Sender" "failed" "Z", Cond.methodLink RX7 85 yX5_markCell, Cond.instanceMethod yX5_markCell, Cond.selects RX5 yX5_markCell yX5_markCell, Cond.code yX5_markCell cX5_markCell 2 none, Cond.fieldLink RX5 25 "BearerHouse$Piece" "marks" "I", Cond.methodLink RX8 90 yX6_countDown, Cond.instanceMethod yX6_countDown, Cond.selects RX6 yX6_countDown yX6_countDown, Cond.code yX6_countDown cX6_countDown 1 none, Cond.fieldLink RX6 60 "BearerHouse$Receiver" "prohibitTimer" "I", Cond.fieldLink RX6 57 "BearerHouse$Receiver" "reorderTimer" "I", Cond.methodLink RX6 66 yX6_giveUpAwaiting, Cond.instanceMethod yX6_giveUpAwaiting, Cond.selects RX6 yX6_giveUpAwaiting yX6_giveUpAwaiting, Cond.code yX6_giveUpAwaiting cX6_giveUpAwaiting 1 none, Cond.fieldLink RX6 47 "BearerHouse$Receiver" "told" "I", Cond.fieldLink RX6 50 "BearerHouse$Receiver" "awaited" "I", Cond.methodLink RX6 69 Lib.Math.max.name, Cond.static Lib.Math.max.name, Cond.initialized "java/lang/Math", Cond.code Lib.Math.max.name Lib.Math.max.code 2 (some .int)]
def wsL_law_r15 : List Cond := [Cond.fieldLink RX6 53 "BearerHouse$Receiver" "wanted" "Z", Cond.fieldLink RX6 37 "BearerHouse$Receiver" "high" "I", Cond.methodLink RX6 75 yX6_raiseTold, Cond.instanceMethod yX6_raiseTold, Cond.selects RX6 yX6_raiseTold yX6_raiseTold, Cond.code yX6_raiseTold cX6_raiseTold 2 none, Cond.methodLink RX6 109 yX6_isWhole, Cond.instanceMethod yX6_isWhole, Cond.selects RX6 yX6_isWhole yX6_isWhole, Cond.code yX6_isWhole cX6_isWhole 3 (some .boolean), Cond.fieldLink RX6 34 "BearerHouse$Receiver" "low" "I", Cond.methodLink RX6 40 yX6_pieceAt, Cond.instanceMethod yX6_pieceAt, Cond.selects RX6 yX6_pieceAt yX6_pieceAt, Cond.code yX6_pieceAt cX6_pieceAt 2 (some (.object "BearerHouse$Piece")), Cond.methodLink RX6 78 yX6_answerPolls, Cond.instanceMethod yX6_answerPolls, Cond.selects RX6 yX6_answerPolls yX6_answerPolls, Cond.code yX6_answerPolls cX6_answerPolls 1 none, Cond.methodLink RX8 91 yX7_prepare, Cond.instanceMethod yX7_prepare, Cond.selects RX7 yX7_prepare yX7_prepare, Cond.code yX7_prepare cX7_prepare 1 none, Cond.fieldLink RX7 67 "BearerHouse$Sender" "bucket" "I"]
def wsL_law_r16 : List Cond := [Cond.methodLink RX7 70 Lib.Math.min.name, Cond.static Lib.Math.min.name, Cond.code Lib.Math.min.name Lib.Math.min.code 2 (some .int), Cond.methodLink RX8 97 yX8_fillBlock, Cond.instanceMethod yX8_fillBlock, Cond.selects RX8 yX8_fillBlock yX8_fillBlock, Cond.code yX8_fillBlock cX8_fillBlock 13 none, Cond.methodLink RX8 257 Lib.Math.min.name, Cond.methodLink RX8 262 yX8_makePart, Cond.instanceMethod yX8_makePart, Cond.selects RX8 yX8_makePart yX8_makePart, Cond.code yX8_makePart cX8_makePart 9 (some .boolean), Cond.methodLink RX8 270 yX0_put, Cond.instanceMethod yX0_put, Cond.selects RX0 yX0_put yX0_put, Cond.code yX0_put cX0_put 2 none, Cond.fieldLink RX0 15 "BearerHouse$Air" "size" "I", Cond.methodLink RX8 273 yX6_makeStatus, Cond.instanceMethod yX6_makeStatus, Cond.selects RX6 yX6_makeStatus yX6_makeStatus, Cond.code yX6_makeStatus cX6_makeStatus 10 none, Cond.fieldLink RX6 127 "BearerHouse$Receiver" "statusMade" "I", Cond.methodLink RX6 113 yX0_put, Cond.methodLink RX6 116 yX5_missingRuns]
def wsL_law_r17 : List Cond := [Cond.instanceMethod yX5_missingRuns, Cond.selects RX5 yX5_missingRuns yX5_missingRuns, Cond.code yX5_missingRuns cX5_missingRuns 4 (some .int), Cond.methodLink RX5 48 yX5_reach, Cond.instanceMethod yX5_reach, Cond.selects RX5 yX5_reach yX5_reach, Cond.code yX5_reach cX5_reach 1 (some .int), Cond.fieldLink RX5 21 "BearerHouse$Piece" "size" "I", Cond.methodLink RX5 52 yX5_nextMark, Cond.instanceMethod yX5_nextMark, Cond.selects RX5 yX5_nextMark yX5_nextMark, Cond.code yX5_nextMark cX5_nextMark 5 (some .int), Cond.methodLink RX5 38 Lib.Math.max.name, Cond.methodLink RX6 120 yX5_writeMissing, Cond.instanceMethod yX5_writeMissing, Cond.selects RX5 yX5_writeMissing yX5_writeMissing, Cond.code yX5_writeMissing cX5_writeMissing 6 none, Cond.methodLink RX5 56 yX0_put, Cond.methodLink RX6 124 yX0_set, Cond.instanceMethod yX0_set, Cond.selects RX0 yX0_set yX0_set, Cond.code yX0_set cX0_set 3 none, Cond.methodLink RX8 276 yX7_makeAgain, Cond.instanceMethod yX7_makeAgain]
def wsL_law_r18 : List Cond := [Cond.selects RX7 yX7_makeAgain yX7_makeAgain, Cond.code yX7_makeAgain cX7_makeAgain 9 none, Cond.fieldLink RX7 102 "BearerHouse$Sender" "dataAgain" "I", Cond.methodLink RX7 88 yX5_nextMark, Cond.methodLink RX7 92 yX5_innerEnds, Cond.instanceMethod yX5_innerEnds, Cond.selects RX5 yX5_innerEnds yX5_innerEnds, Cond.code yX5_innerEnds cX5_innerEnds 5 (some .int), Cond.methodLink RX5 44 yX5_has, Cond.instanceMethod yX5_has, Cond.selects RX5 yX5_has yX5_has, Cond.code yX5_has cX5_has 3 (some .boolean), Cond.methodLink RX7 95 yX5_fitting, Cond.instanceMethod yX5_fitting, Cond.selects RX5 yX5_fitting yX5_fitting, Cond.code yX5_fitting cX5_fitting 6 (some .int), Cond.methodLink RX7 99 yX5_unmarkCell, Cond.instanceMethod yX5_unmarkCell, Cond.selects RX5 yX5_unmarkCell yX5_unmarkCell, Cond.code yX5_unmarkCell cX5_unmarkCell 2 none, Cond.methodLink RX7 105 yX7_countData, Cond.instanceMethod yX7_countData, Cond.selects RX7 yX7_countData yX7_countData, Cond.code yX7_countData cX7_countData 3 (some .boolean)]
def wsL_law_r19 : List Cond := [Cond.fieldLink RX7 134 "BearerHouse$Sender" "dataMade" "I", Cond.fieldLink RX7 53 "BearerHouse$Sender" "sincePoll" "I", Cond.methodLink RX7 109 yX5_writeData, Cond.instanceMethod yX5_writeData, Cond.selects RX5 yX5_writeData yX5_writeData, Cond.code yX5_writeData cX5_writeData 9 none, Cond.methodLink RX5 62 yX5_innerEnds, Cond.methodLink RX5 65 yX5_writeLengths, Cond.instanceMethod yX5_writeLengths, Cond.selects RX5 yX5_writeLengths yX5_writeLengths, Cond.code yX5_writeLengths cX5_writeLengths 8 none, Cond.methodLink RX5 69 yX5_cell, Cond.instanceMethod yX5_cell, Cond.selects RX5 yX5_cell yX5_cell, Cond.code yX5_cell cX5_cell 2 (some .int), Cond.methodLink RX8 279 yX7_makeNew, Cond.instanceMethod yX7_makeNew, Cond.selects RX7 yX7_makeNew yX7_makeNew, Cond.code yX7_makeNew cX7_makeNew 7 none, Cond.methodLink RX7 113 yX5_clear, Cond.instanceMethod yX5_clear, Cond.selects RX5 yX5_clear yX5_clear, Cond.code yX5_clear cX5_clear 2 none, Cond.fieldLink RX5 28 "BearerHouse$Piece" "tries" "I"]
def wsL_law_r20 : List Cond := [Cond.fieldLink RX5 31 "BearerHouse$Piece" "isConfirmed" "Z", Cond.fieldLink RX5 35 "BearerHouse$Piece" "isNamed" "Z", Cond.methodLink RX5 15 yJ7_fill_53178, Cond.static yJ7_fill_53178, Cond.initialized RJ7, Cond.code yJ7_fill_53178 cJ7_fill_53178 4 none, Cond.methodLink RX7 116 yX5_has, Cond.methodLink RX7 123 yX4_openFront, Cond.instanceMethod yX4_openFront, Cond.selects RX4 yX4_openFront yX4_openFront, Cond.code yX4_openFront cX4_openFront 4 none, Cond.fieldLink RX4 72 "BearerHouse$Outbox" "frontSize" "I", Cond.fieldLink RX4 69 "BearerHouse$Outbox" "reportSize" "I", Cond.methodLink RX4 75 yX4_packetSize, Cond.instanceMethod yX4_packetSize, Cond.selects RX4 yX4_packetSize yX4_packetSize, Cond.code yX4_packetSize cX4_packetSize 2 (some .int), Cond.methodLink RX4 79 yX2_mask, Cond.instanceMethod yX2_mask, Cond.selects RX2 yX2_mask yX2_mask, Cond.code yX2_mask cX2_mask 7 none, Cond.methodLink RX2 24 yX2_setCounter, Cond.instanceMethod yX2_setCounter, Cond.selects RX2 yX2_setCounter yX2_setCounter]
def wsL_law_r21 : List Cond := [Cond.code yX2_setCounter cX2_setCounter 5 none, Cond.methodLink RX2 31 yJ7_fill_53178, Cond.methodLink RX2 28 yX2_encrypt, Cond.instanceMethod yX2_encrypt, Cond.selects RX2 yX2_encrypt yX2_encrypt, Cond.code yX2_encrypt cX2_encrypt 7 none, Cond.methodLink RX7 127 yX4_takeCell, Cond.instanceMethod yX4_takeCell, Cond.selects RX4 yX4_takeCell yX4_takeCell, Cond.code yX4_takeCell cX4_takeCell 2 (some .int), Cond.fieldLink RX4 66 "BearerHouse$Outbox" "gone" "I", Cond.methodLink RX4 85 yX4_dropFront, Cond.instanceMethod yX4_dropFront, Cond.selects RX4 yX4_dropFront yX4_dropFront, Cond.code yX4_dropFront cX4_dropFront 2 none, Cond.methodLink RX4 60 Lib.Math.max.name, Cond.methodLink RX7 131 yX5_append, Cond.instanceMethod yX5_append, Cond.selects RX5 yX5_append yX5_append, Cond.code yX5_append cX5_append 2 none, Cond.methodLink RX8 283 yX0_set, Cond.methodLink RX8 266 yX8_fillUp, Cond.static yX8_fillUp, Cond.code yX8_fillUp cX8_fillUp 3 none]
def wsL_law_r22 : List Cond := [Cond.methodLink RX8 104 yX8_countSending, Cond.instanceMethod yX8_countSending, Cond.selects RX8 yX8_countSending yX8_countSending, Cond.code yX8_countSending cX8_countSending 4 (some .boolean), Cond.fieldLink RX8 243 "BearerHouse" "sendings" "I", Cond.fieldLink RX8 244 "BearerHouse" "lost" "I", Cond.methodLink RX8 112 yX8_workOn, Cond.instanceMethod yX8_workOn, Cond.selects RX8 yX8_workOn yX8_workOn, Cond.code yX8_workOn cX8_workOn 7 none, Cond.fieldLink RX8 253 "BearerHouse" "worked" "I", Cond.methodLink RX8 141 yX0_at, Cond.instanceMethod yX0_at, Cond.selects RX0 yX0_at yX0_at, Cond.code yX0_at cX0_at 2 (some .int), Cond.methodLink RX8 286 yX8_takeData, Cond.instanceMethod yX8_takeData, Cond.selects RX8 yX8_takeData yX8_takeData, Cond.code yX8_takeData cX8_takeData 8 none, Cond.methodLink RX8 293 yX6_takeBytes, Cond.instanceMethod yX6_takeBytes, Cond.selects RX6 yX6_takeBytes yX6_takeBytes, Cond.code yX6_takeBytes cX6_takeBytes 12 (some .int), Cond.fieldLink RX6 81 "BearerHouse$Receiver" "dataCame" "I"]
def wsL_law_r23 : List Cond := [Cond.fieldLink RX6 90 "BearerHouse$Receiver" "dataInVain" "I", Cond.methodLink RX6 97 Lib.Math.min.name, Cond.methodLink RX6 84 yX0_at, Cond.methodLink RX6 93 yX6_takeCells, Cond.instanceMethod yX6_takeCells, Cond.selects RX6 yX6_takeCells yX6_takeCells, Cond.code yX6_takeCells cX6_takeCells 14 (some .int), Cond.methodLink RX6 100 yX6_countLengths, Cond.static yX6_countLengths, Cond.code yX6_countLengths cX6_countLengths 4 (some .int), Cond.methodLink RX6 104 yX5_putArrived, Cond.instanceMethod yX5_putArrived, Cond.selects RX5 yX5_putArrived yX5_putArrived, Cond.code yX5_putArrived cX5_putArrived 3 none, Cond.methodLink RX8 297 yX6_raiseTold, Cond.methodLink RX8 300 yX6_isWhole, Cond.methodLink RX8 304 yX6_pieceAt, Cond.methodLink RX8 308 yX8_hand, Cond.instanceMethod yX8_hand, Cond.selects RX8 yX8_hand yX8_hand, Cond.code yX8_hand cX8_hand 5 none, Cond.methodLink RX8 325 yX5_cell, Cond.methodLink RX8 328 yX3_completes, Cond.instanceMethod yX3_completes]
def wsL_law_r24 : List Cond := [Cond.selects RX3 yX3_completes yX3_completes, Cond.code yX3_completes cX3_completes 2 (some .boolean), Cond.fieldLink RX3 28 "BearerHouse$Inbox" "isBegun" "Z", Cond.fieldLink RX3 32 "BearerHouse$Inbox" "packetSize" "I", Cond.methodLink RX8 331 yX8_takePacket, Cond.instanceMethod yX8_takePacket, Cond.selects RX8 yX8_takePacket yX8_takePacket, Cond.code yX8_takePacket cX8_takePacket 4 none, Cond.methodLink RX8 341 yX4_confirmReported, Cond.instanceMethod yX4_confirmReported, Cond.selects RX4 yX4_confirmReported yX4_confirmReported, Cond.code yX4_confirmReported cX4_confirmReported 9 none, Cond.methodLink RX4 88 yX4_keeps, Cond.instanceMethod yX4_keeps, Cond.selects RX4 yX4_keeps yX4_keeps, Cond.code yX4_keeps cX4_keeps 2 (some .boolean), Cond.methodLink RX4 92 yX4_confirmUnit, Cond.instanceMethod yX4_confirmUnit, Cond.selects RX4 yX4_confirmUnit yX4_confirmUnit, Cond.code yX4_confirmUnit cX4_confirmUnit 4 none, Cond.methodLink RX8 345 yX3_meantCount, Cond.instanceMethod yX3_meantCount, Cond.selects RX3 yX3_meantCount yX3_meantCount, Cond.code yX3_meantCount cX3_meantCount 2 (some .int)]
def wsL_law_r25 : List Cond := [Cond.fieldLink RX3 35 "BearerHouse$Inbox" "next" "I", Cond.methodLink RX8 348 yX3_isDouble, Cond.instanceMethod yX3_isDouble, Cond.selects RX3 yX3_isDouble yX3_isDouble, Cond.code yX3_isDouble cX3_isDouble 2 (some .boolean), Cond.methodLink RX8 354 yX2_mask, Cond.methodLink RX8 358 yX3_store, Cond.instanceMethod yX3_store, Cond.selects RX3 yX3_store yX3_store, Cond.code yX3_store cX3_store 4 none, Cond.methodLink RX3 38 arraycopyName, Cond.fieldLink RX3 44 "BearerHouse$Inbox" "stored" "I", Cond.methodLink RX8 361 yX3_deliverStored, Cond.instanceMethod yX3_deliverStored, Cond.selects RX3 yX3_deliverStored yX3_deliverStored, Cond.code yX3_deliverStored cX3_deliverStored 4 none, Cond.methodLink RX3 47 Lib.Math.min.name, Cond.fieldLink RX3 53 "BearerHouse$Inbox" "latestSize" "I", Cond.fieldLink RX3 56 "BearerHouse$Inbox" "bytes" "I", Cond.fieldLink RX3 59 "BearerHouse$Inbox" "sum" "I", Cond.methodLink RX8 312 yX6_passLow, Cond.instanceMethod yX6_passLow, Cond.selects RX6 yX6_passLow yX6_passLow, Cond.code yX6_passLow cX6_passLow 1 none]
def wsL_law_r26 : List Cond := [Cond.methodLink RX6 44 yX5_clear, Cond.methodLink RX8 315 yX6_settle, Cond.instanceMethod yX6_settle, Cond.selects RX6 yX6_settle yX6_settle, Cond.code yX6_settle cX6_settle 3 none, Cond.methodLink RX8 290 yX7_takeStatus, Cond.instanceMethod yX7_takeStatus, Cond.selects RX7 yX7_takeStatus yX7_takeStatus, Cond.code yX7_takeStatus cX7_takeStatus 6 none, Cond.fieldLink RX7 137 "BearerHouse$Sender" "statusCame" "I", Cond.methodLink RX7 140 yX0_at, Cond.methodLink RX7 146 yX7_meant, Cond.instanceMethod yX7_meant, Cond.selects RX7 yX7_meant yX7_meant, Cond.code yX7_meant cX7_meant 2 (some .int), Cond.methodLink RX7 149 yX7_nameEntries, Cond.instanceMethod yX7_nameEntries, Cond.selects RX7 yX7_nameEntries yX7_nameEntries, Cond.code yX7_nameEntries cX7_nameEntries 6 none, Cond.methodLink RX7 159 yX7_confirm, Cond.instanceMethod yX7_confirm, Cond.selects RX7 yX7_confirm yX7_confirm, Cond.code yX7_confirm cX7_confirm 3 none, Cond.methodLink RX7 166 yX5_cell]
def wsL_law_r27 : List Cond := [Cond.methodLink RX7 169 yX4_confirmByte, Cond.instanceMethod yX4_confirmByte, Cond.selects RX4 yX4_confirmByte yX4_confirmByte, Cond.code yX4_confirmByte cX4_confirmByte 4 none, Cond.methodLink RX7 163 yX7_takeEntries, Cond.instanceMethod yX7_takeEntries, Cond.selects RX7 yX7_takeEntries yX7_takeEntries, Cond.code yX7_takeEntries cX7_takeEntries 9 none, Cond.methodLink RX8 116 yX8_takeAnswer, Cond.instanceMethod yX8_takeAnswer, Cond.selects RX8 yX8_takeAnswer yX8_takeAnswer, Cond.code yX8_takeAnswer cX8_takeAnswer 3 none, Cond.fieldLink RX8 247 "BearerHouse" "turned" "I", Cond.fieldLink RX8 250 "BearerHouse" "dropped" "I", Cond.methodLink RX8 127 yX1_makeEmpty, Cond.instanceMethod yX1_makeEmpty, Cond.selects RX1 yX1_makeEmpty yX1_makeEmpty, Cond.code yX1_makeEmpty cX1_makeEmpty 1 none, Cond.fieldLink RX1 16 "BearerHouse$Carrier" "size" "I", Cond.fieldLink RX1 20 "BearerHouse$Carrier" "sendings" "I", Cond.fieldLink RX1 23 "BearerHouse$Carrier" "hasCome" "Z", Cond.methodLink RL 45 yX9_tick, Cond.instanceMethod yX9_tick, Cond.selects RX9 yX9_tick yX9_tick]
def wsL_law_r28 : List Cond := [Cond.code yX9_tick cX9_tick 8 (some .int), Cond.fieldLink RX9 363 "BearerHouseModel" "ticks" "I", Cond.methodLink RX9 395 yX9_timers, Cond.instanceMethod yX9_timers, Cond.selects RX9 yX9_timers yX9_timers, Cond.code yX9_timers cX9_timers 3 none, Cond.methodLink RX9 289 yX9_allAgain, Cond.instanceMethod yX9_allAgain, Cond.selects RX9 yX9_allAgain yX9_allAgain, Cond.code yX9_allAgain cX9_allAgain 4 (some .int), Cond.methodLink RX9 283 yX9_isAgain, Cond.instanceMethod yX9_isAgain, Cond.selects RX9 yX9_isAgain yX9_isAgain, Cond.code yX9_isAgain cX9_isAgain 6 (some .int), Cond.methodLink RX9 327 yX9_comesAgain, Cond.instanceMethod yX9_comesAgain, Cond.selects RX9 yX9_comesAgain yX9_comesAgain, Cond.code yX9_comesAgain cX9_comesAgain 7 none, Cond.methodLink RX9 337 yX9_goOn, Cond.instanceMethod yX9_goOn, Cond.selects RX9 yX9_goOn yX9_goOn, Cond.code yX9_goOn cX9_goOn 2 none, Cond.methodLink RX9 306 yX9_isWhole, Cond.instanceMethod yX9_isWhole]
def wsL_law_r29 : List Cond := [Cond.selects RX9 yX9_isWhole yX9_isWhole, Cond.code yX9_isWhole cX9_isWhole 6 (some .boolean), Cond.methodLink RX9 347 yX9_asksStatus, Cond.instanceMethod yX9_asksStatus, Cond.selects RX9 yX9_asksStatus yX9_asksStatus, Cond.code yX9_asksStatus cX9_asksStatus 2 none, Cond.methodLink RX9 398 yX9_sends, Cond.instanceMethod yX9_sends, Cond.selects RX9 yX9_sends yX9_sends, Cond.code yX9_sends cX9_sends 8 (some .int), Cond.fieldLink RX9 369 "BearerHouseModel" "sendings" "I", Cond.fieldLink RX9 372 "BearerHouseModel" "lost" "I", Cond.fieldLink RX9 375 "BearerHouseModel" "turned" "I", Cond.fieldLink RX9 381 "BearerHouseModel" "dropped" "I", Cond.methodLink RX9 366 yX9_lay, Cond.instanceMethod yX9_lay, Cond.selects RX9 yX9_lay yX9_lay, Cond.code yX9_lay cX9_lay 11 (some .boolean), Cond.methodLink RX9 359 yX9_make, Cond.instanceMethod yX9_make, Cond.selects RX9 yX9_make yX9_make, Cond.code yX9_make cX9_make 9 (some .int), Cond.methodLink RX9 286 yX9_makeStatus, Cond.instanceMethod yX9_makeStatus]
def wsL_law_r30 : List Cond := [Cond.selects RX9 yX9_makeStatus yX9_makeStatus, Cond.code yX9_makeStatus cX9_makeStatus 9 (some .int), Cond.methodLink RX9 309 yX9_entries, Cond.instanceMethod yX9_entries, Cond.selects RX9 yX9_entries yX9_entries, Cond.code yX9_entries cX9_entries 13 (some .int), Cond.methodLink RX9 303 yX9_putRun, Cond.instanceMethod yX9_putRun, Cond.selects RX9 yX9_putRun yX9_putRun, Cond.code yX9_putRun cX9_putRun 5 none, Cond.methodLink RX9 313 yX9_isEmpty, Cond.instanceMethod yX9_isEmpty, Cond.selects RX9 yX9_isEmpty yX9_isEmpty, Cond.code yX9_isEmpty cX9_isEmpty 6 (some .boolean), Cond.methodLink RX9 292 yX9_makeAgain, Cond.instanceMethod yX9_makeAgain, Cond.selects RX9 yX9_makeAgain yX9_makeAgain, Cond.code yX9_makeAgain cX9_makeAgain 9 (some .int), Cond.methodLink RX9 295 yX9_fitting, Cond.instanceMethod yX9_fitting, Cond.selects RX9 yX9_fitting yX9_fitting, Cond.code yX9_fitting cX9_fitting 10 (some .int), Cond.methodLink RX9 299 yX9_data, Cond.instanceMethod yX9_data]
def wsL_law_r31 : List Cond := [Cond.selects RX9 yX9_data yX9_data, Cond.code yX9_data cX9_data 13 (some .int), Cond.methodLink RX9 280 yX9_cutWaiting, Cond.instanceMethod yX9_cutWaiting, Cond.selects RX9 yX9_cutWaiting yX9_cutWaiting, Cond.code yX9_cutWaiting cX9_cutWaiting 7 none, Cond.methodLink RX9 378 yX9_work, Cond.instanceMethod yX9_work, Cond.selects RX9 yX9_work yX9_work, Cond.code yX9_work cX9_work 7 none, Cond.fieldLink RX9 384 "BearerHouseModel" "worked" "I", Cond.methodLink RX9 387 yX9_dataComes, Cond.instanceMethod yX9_dataComes, Cond.selects RX9 yX9_dataComes yX9_dataComes, Cond.code yX9_dataComes cX9_dataComes 10 none, Cond.methodLink RX9 316 yX9_meant, Cond.static yX9_meant, Cond.code yX9_meant cX9_meant 2 (some .int), Cond.methodLink RX9 333 yX9_lays, Cond.instanceMethod yX9_lays, Cond.selects RX9 yX9_lays yX9_lays, Cond.code yX9_lays cX9_lays 17 (some .boolean), Cond.methodLink RX9 341 yX9_hand, Cond.instanceMethod yX9_hand]
def wsL_law_r32 : List Cond := [Cond.selects RX9 yX9_hand yX9_hand, Cond.code yX9_hand cX9_hand 9 none, Cond.methodLink RX9 350 yX9_unitComes, Cond.instanceMethod yX9_unitComes, Cond.selects RX9 yX9_unitComes yX9_unitComes, Cond.code yX9_unitComes cX9_unitComes 9 none, Cond.methodLink RX9 356 yX9_deliver, Cond.instanceMethod yX9_deliver, Cond.selects RX9 yX9_deliver yX9_deliver, Cond.code yX9_deliver cX9_deliver 5 none, Cond.methodLink RX9 353 yX9_report, Cond.instanceMethod yX9_report, Cond.selects RX9 yX9_report yX9_report, Cond.code yX9_report cX9_report 7 none, Cond.methodLink RX9 330 yX9_confirm, Cond.instanceMethod yX9_confirm, Cond.selects RX9 yX9_confirm yX9_confirm, Cond.code yX9_confirm cX9_confirm 5 none, Cond.methodLink RX9 344 yX9_clear, Cond.instanceMethod yX9_clear, Cond.selects RX9 yX9_clear yX9_clear, Cond.code yX9_clear cX9_clear 5 none, Cond.methodLink RX9 391 yX9_status, Cond.instanceMethod yX9_status]
def wsL_law_r33 : List Cond := [Cond.selects RX9 yX9_status yX9_status, Cond.code yX9_status cX9_status 11 none, Cond.methodLink RX9 319 yX9_isNamed, Cond.static yX9_isNamed, Cond.code yX9_isNamed cX9_isNamed 7 (some .boolean), Cond.methodLink RX9 323 yX9_confirmPiece, Cond.instanceMethod yX9_confirmPiece, Cond.selects RX9 yX9_confirmPiece yX9_confirmPiece, Cond.code yX9_confirmPiece cX9_confirmPiece 7 none, Cond.methodLink RL 46 yX8_renew, Cond.instanceMethod yX8_renew, Cond.selects RX8 yX8_renew yX8_renew, Cond.code yX8_renew cX8_renew 2 (some .int), Cond.fieldLink RX8 130 "BearerHouse" "epoch" "I", Cond.methodLink RX8 120 yX8_handAllWhole, Cond.instanceMethod yX8_handAllWhole, Cond.selects RX8 yX8_handAllWhole yX8_handAllWhole, Cond.code yX8_handAllWhole cX8_handAllWhole 4 none, Cond.methodLink RX8 123 yX6_startAnew, Cond.instanceMethod yX6_startAnew, Cond.selects RX6 yX6_startAnew yX6_startAnew, Cond.code yX6_startAnew cX6_startAnew 2 none, Cond.methodLink RX8 126 yX7_startAnew, Cond.instanceMethod yX7_startAnew]
def wsL_law_r34 : List Cond := [Cond.selects RX7 yX7_startAnew yX7_startAnew, Cond.code yX7_startAnew cX7_startAnew 1 none, Cond.methodLink RX8 137 yX4_waitAnew, Cond.instanceMethod yX4_waitAnew, Cond.selects RX4 yX4_waitAnew yX4_waitAnew, Cond.code yX4_waitAnew cX4_waitAnew 4 none, Cond.methodLink RX4 95 yX3_writeReport, Cond.instanceMethod yX3_writeReport, Cond.selects RX3 yX3_writeReport yX3_writeReport, Cond.code yX3_writeReport cX3_writeReport 5 (some .int), Cond.methodLink RX3 62 yJ7_fill_53178, Cond.methodLink RL 50 yX9_renew, Cond.instanceMethod yX9_renew, Cond.selects RX9 yX9_renew yX9_renew, Cond.code yX9_renew cX9_renew 5 (some .int), Cond.methodLink RX9 402 yX9_renewReceiver, Cond.instanceMethod yX9_renewReceiver, Cond.selects RX9 yX9_renewReceiver yX9_renewReceiver, Cond.code yX9_renewReceiver cX9_renewReceiver 5 none, Cond.methodLink RX9 405 yX9_awaitReport, Cond.instanceMethod yX9_awaitReport, Cond.selects RX9 yX9_awaitReport yX9_awaitReport, Cond.code yX9_awaitReport cX9_awaitReport 9 none, Cond.methodLink RL 51 yX8_block]
def wsL_law_r35 : List Cond := [Cond.instanceMethod yX8_block, Cond.selects RX8 yX8_block yX8_block, Cond.code yX8_block cX8_block 3 (some .int), Cond.methodLink RL 54 yX9_block, Cond.instanceMethod yX9_block, Cond.selects RX9 yX9_block yX9_block, Cond.code yX9_block cX9_block 3 (some .int), Cond.methodLink RL 55 yX8_sender, Cond.instanceMethod yX8_sender, Cond.selects RX8 yX8_sender yX8_sender, Cond.code yX8_sender cX8_sender 5 (some .int), Cond.methodLink RX8 156 yX4_waitingBytes, Cond.instanceMethod yX4_waitingBytes, Cond.selects RX4 yX4_waitingBytes yX4_waitingBytes, Cond.code yX4_waitingBytes cX4_waitingBytes 3 (some .int), Cond.methodLink RL 58 yX9_sender, Cond.instanceMethod yX9_sender, Cond.selects RX9 yX9_sender yX9_sender, Cond.code yX9_sender cX9_sender 7 (some .int), Cond.methodLink RL 59 yX8_receiver, Cond.instanceMethod yX8_receiver, Cond.selects RX8 yX8_receiver yX8_receiver, Cond.code yX8_receiver cX8_receiver 5 (some .int), Cond.methodLink RX8 204 yX6_heldBytes]
def wsL_law_r36 : List Cond := [Cond.instanceMethod yX6_heldBytes, Cond.selects RX6 yX6_heldBytes yX6_heldBytes, Cond.code yX6_heldBytes cX6_heldBytes 3 (some .int), Cond.methodLink RL 62 yX9_receiver, Cond.instanceMethod yX9_receiver, Cond.selects RX9 yX9_receiver yX9_receiver, Cond.code yX9_receiver cX9_receiver 7 (some .int), Cond.methodLink RL 63 yX8_delivered, Cond.instanceMethod yX8_delivered, Cond.selects RX8 yX8_delivered yX8_delivered, Cond.code yX8_delivered cX8_delivered 5 (some .int), Cond.methodLink RL 66 yX9_delivered, Cond.instanceMethod yX9_delivered, Cond.selects RX9 yX9_delivered yX9_delivered, Cond.code yX9_delivered cX9_delivered 7 (some .int), Cond.methodLink RL 67 yX8_unit, Cond.instanceMethod yX8_unit, Cond.selects RX8 yX8_unit yX8_unit, Cond.code yX8_unit cX8_unit 5 (some .int), Cond.methodLink RL 70 yX9_unit, Cond.instanceMethod yX9_unit, Cond.selects RX9 yX9_unit yX9_unit, Cond.code yX9_unit cX9_unit 4 (some .int), Cond.methodLink RL 71 yX8_process]
def wsL_law_r37 : List Cond := [Cond.instanceMethod yX8_process, Cond.selects RX8 yX8_process yX8_process, Cond.code yX8_process cX8_process 5 (some .int), Cond.methodLink RL 74 yX9_process, Cond.instanceMethod yX9_process, Cond.selects RX9 yX9_process yX9_process, Cond.code yX9_process cX9_process 6 (some .int), Cond.methodLink RL 75 yX8_world, Cond.instanceMethod yX8_world, Cond.selects RX8 yX8_world yX8_world, Cond.code yX8_world cX8_world 2 (some .int), Cond.methodLink RL 78 yX9_world, Cond.instanceMethod yX9_world, Cond.selects RX9 yX9_world yX9_world, Cond.code yX9_world cX9_world 2 (some .int)]
def wsL_law : List Cond := (wsL_law_r1 ++ (wsL_law_r2 ++ (wsL_law_r3 ++ (wsL_law_r4 ++ (wsL_law_r5 ++ (wsL_law_r6 ++ (wsL_law_r7 ++ (wsL_law_r8 ++ (wsL_law_r9 ++ (wsL_law_r10 ++ (wsL_law_r11 ++ (wsL_law_r12 ++ (wsL_law_r13 ++ (wsL_law_r14 ++ (wsL_law_r15 ++ (wsL_law_r16 ++ (wsL_law_r17 ++ (wsL_law_r18 ++ (wsL_law_r19 ++ (wsL_law_r20 ++ (wsL_law_r21 ++ (wsL_law_r22 ++ (wsL_law_r23 ++ (wsL_law_r24 ++ (wsL_law_r25 ++ (wsL_law_r26 ++ (wsL_law_r27 ++ (wsL_law_r28 ++ (wsL_law_r29 ++ (wsL_law_r30 ++ (wsL_law_r31 ++ (wsL_law_r32 ++ (wsL_law_r33 ++ (wsL_law_r34 ++ (wsL_law_r35 ++ (wsL_law_r36 ++ wsL_law_r37)))))))))))))))))))))))))))))))))))) ++ wsX80 ++ wsX90 ++ wsX20 ++ wsX70 ++ wsX60 ++ wsX10 ++ wsX40 ++ wsX50 ++ wsX30 ++ wsX00 ++ ([] : List Cond)
set_option maxRecDepth 20000 in
theorem inlX0 : ∀ w ∈ wsX00, w ∈ wsL_law := fun _ h => List.mem_append_left _ (List.mem_append_right _ h)
theorem inlX1 : ∀ w ∈ wsX10, w ∈ wsL_law := fun _ h => List.mem_append_left _ (List.mem_append_left _ (List.mem_append_left _ (List.mem_append_left _ (List.mem_append_left _ (List.mem_append_right _ h)))))
theorem inlX2 : ∀ w ∈ wsX20, w ∈ wsL_law := fun _ h => List.mem_append_left _ (List.mem_append_left _ (List.mem_append_left _ (List.mem_append_left _ (List.mem_append_left _ (List.mem_append_left _ (List.mem_append_left _ (List.mem_append_left _ (List.mem_append_right _ h))))))))
theorem inlX3 : ∀ w ∈ wsX30, w ∈ wsL_law := fun _ h => List.mem_append_left _ (List.mem_append_left _ (List.mem_append_right _ h))
theorem inlX4 : ∀ w ∈ wsX40, w ∈ wsL_law := fun _ h => List.mem_append_left _ (List.mem_append_left _ (List.mem_append_left _ (List.mem_append_left _ (List.mem_append_right _ h))))
theorem inlX5 : ∀ w ∈ wsX50, w ∈ wsL_law := fun _ h => List.mem_append_left _ (List.mem_append_left _ (List.mem_append_left _ (List.mem_append_right _ h)))
theorem inlX6 : ∀ w ∈ wsX60, w ∈ wsL_law := fun _ h => List.mem_append_left _ (List.mem_append_left _ (List.mem_append_left _ (List.mem_append_left _ (List.mem_append_left _ (List.mem_append_left _ (List.mem_append_right _ h))))))
theorem inlX7 : ∀ w ∈ wsX70, w ∈ wsL_law := fun _ h => List.mem_append_left _ (List.mem_append_left _ (List.mem_append_left _ (List.mem_append_left _ (List.mem_append_left _ (List.mem_append_left _ (List.mem_append_left _ (List.mem_append_right _ h)))))))
theorem inlX8 : ∀ w ∈ wsX80, w ∈ wsL_law := fun _ h => List.mem_append_left _ (List.mem_append_left _ (List.mem_append_left _ (List.mem_append_left _ (List.mem_append_left _ (List.mem_append_left _ (List.mem_append_left _ (List.mem_append_left _ (List.mem_append_left _ (List.mem_append_left _ (List.mem_append_right _ h))))))))))
theorem inlX9 : ∀ w ∈ wsX90, w ∈ wsL_law := fun _ h => List.mem_append_left _ (List.mem_append_left _ (List.mem_append_left _ (List.mem_append_left _ (List.mem_append_left _ (List.mem_append_left _ (List.mem_append_left _ (List.mem_append_left _ (List.mem_append_left _ (List.mem_append_right _ h)))))))))
theorem inJ9 : ∀ w ∈ wsJ90, w ∈ lw_tbl := by decide +kernel
theorem inJ10 : ∀ w ∈ wsJ100, w ∈ lw_tbl := by decide +kernel
theorem inJ7 : ∀ w ∈ wsJ70, w ∈ lw_tbl := by decide +kernel
theorem dX0_init_0 : decode cX0_init 0 = .ok (.aload_n 0, 1) := by decide +kernel
theorem dX0_init_1 : decode cX0_init 1 = .ok (.invokespecial 3, 3) := by decide +kernel
theorem dX0_init_4 : decode cX0_init 4 = .ok (.aload_n 0, 1) := by decide +kernel
theorem dX0_init_5 : decode cX0_init 5 = .ok (.sipush 250, 3) := by decide +kernel
theorem dX0_init_8 : decode cX0_init 8 = .ok (.newarray .int, 2) := by decide +kernel
theorem dX0_init_10 : decode cX0_init 10 = .ok (.putfield 9, 3) := by decide +kernel
theorem dX0_init_13 : decode cX0_init 13 = .ok (.return_, 1) := by decide +kernel
theorem dX0_put_0 : decode cX0_put 0 = .ok (.aload_n 0, 1) := by decide +kernel
theorem dX0_put_1 : decode cX0_put 1 = .ok (.getfield 15, 3) := by decide +kernel
theorem dX0_put_4 : decode cX0_put 4 = .ok (.aload_n 0, 1) := by decide +kernel
theorem dX0_put_5 : decode cX0_put 5 = .ok (.getfield 9, 3) := by decide +kernel
theorem dX0_put_8 : decode cX0_put 8 = .ok (.arraylength, 1) := by decide +kernel
theorem dX0_put_9 : decode cX0_put 9 = .ok (.if_icmp .ge 20, 3) := by decide +kernel
theorem dX0_put_12 : decode cX0_put 12 = .ok (.aload_n 0, 1) := by decide +kernel
theorem dX0_put_13 : decode cX0_put 13 = .ok (.getfield 9, 3) := by decide +kernel
theorem dX0_put_16 : decode cX0_put 16 = .ok (.aload_n 0, 1) := by decide +kernel
theorem dX0_put_17 : decode cX0_put 17 = .ok (.dup, 1) := by decide +kernel
theorem dX0_put_18 : decode cX0_put 18 = .ok (.getfield 15, 3) := by decide +kernel
theorem dX0_put_21 : decode cX0_put 21 = .ok (.dup_x1, 1) := by decide +kernel
theorem dX0_put_22 : decode cX0_put 22 = .ok (.iconst 1, 1) := by decide +kernel
theorem dX0_put_23 : decode cX0_put 23 = .ok (.iadd, 1) := by decide +kernel
theorem dX0_put_24 : decode cX0_put 24 = .ok (.putfield 15, 3) := by decide +kernel
theorem dX0_put_27 : decode cX0_put 27 = .ok (.iload_n 1, 1) := by decide +kernel
theorem dX0_put_28 : decode cX0_put 28 = .ok (.iastore, 1) := by decide +kernel
theorem dX0_put_29 : decode cX0_put 29 = .ok (.return_, 1) := by decide +kernel
theorem dX0_set_0 : decode cX0_set 0 = .ok (.iload_n 1, 1) := by decide +kernel
theorem dX0_set_1 : decode cX0_set 1 = .ok (.ifCond .lt 18, 3) := by decide +kernel
theorem dX0_set_4 : decode cX0_set 4 = .ok (.iload_n 1, 1) := by decide +kernel
theorem dX0_set_5 : decode cX0_set 5 = .ok (.aload_n 0, 1) := by decide +kernel
theorem dX0_set_6 : decode cX0_set 6 = .ok (.getfield 15, 3) := by decide +kernel
theorem dX0_set_9 : decode cX0_set 9 = .ok (.if_icmp .ge 10, 3) := by decide +kernel
theorem dX0_set_12 : decode cX0_set 12 = .ok (.aload_n 0, 1) := by decide +kernel
theorem dX0_set_13 : decode cX0_set 13 = .ok (.getfield 9, 3) := by decide +kernel
theorem dX0_set_16 : decode cX0_set 16 = .ok (.iload_n 1, 1) := by decide +kernel
theorem dX0_set_17 : decode cX0_set 17 = .ok (.iload_n 2, 1) := by decide +kernel
theorem dX0_set_18 : decode cX0_set 18 = .ok (.iastore, 1) := by decide +kernel
theorem dX0_set_19 : decode cX0_set 19 = .ok (.return_, 1) := by decide +kernel
theorem dX0_at_0 : decode cX0_at 0 = .ok (.iload_n 1, 1) := by decide +kernel
theorem dX0_at_1 : decode cX0_at 1 = .ok (.ifCond .lt 20, 3) := by decide +kernel
theorem dX0_at_4 : decode cX0_at 4 = .ok (.iload_n 1, 1) := by decide +kernel
theorem dX0_at_5 : decode cX0_at 5 = .ok (.aload_n 0, 1) := by decide +kernel
theorem dX0_at_6 : decode cX0_at 6 = .ok (.getfield 15, 3) := by decide +kernel
theorem dX0_at_9 : decode cX0_at 9 = .ok (.if_icmp .ge 12, 3) := by decide +kernel
theorem dX0_at_12 : decode cX0_at 12 = .ok (.aload_n 0, 1) := by decide +kernel
theorem dX0_at_13 : decode cX0_at 13 = .ok (.getfield 9, 3) := by decide +kernel
theorem dX0_at_16 : decode cX0_at 16 = .ok (.iload_n 1, 1) := by decide +kernel
theorem dX0_at_17 : decode cX0_at 17 = .ok (.iaload, 1) := by decide +kernel
theorem dX0_at_18 : decode cX0_at 18 = .ok (.goto 4, 3) := by decide +kernel
theorem dX0_at_21 : decode cX0_at 21 = .ok (.iconst 0, 1) := by decide +kernel
theorem dX0_at_22 : decode cX0_at 22 = .ok (.ireturn, 1) := by decide +kernel
set_option maxRecDepth 20000 in
theorem ggX1_init_X0_init : GoodIn wsX1_init wsX0_init := goodIn_r _ [9, 10, 2, 3, 11, 12, 13, 14] (by decide +kernel) (by decide +kernel)
set_option maxRecDepth 20000 in
theorem gX1_init_X0_init_n9 : GoodIn wsX1_init (wsX0_init) := ggX1_init_X0_init
theorem dX1_init_0 : decode cX1_init 0 = .ok (.aload_n 0, 1) := by decide +kernel
theorem dX1_init_1 : decode cX1_init 1 = .ok (.invokespecial 1, 3) := by decide +kernel
theorem dX1_init_4 : decode cX1_init 4 = .ok (.aload_n 0, 1) := by decide +kernel
theorem dX1_init_5 : decode cX1_init 5 = .ok (.new 7, 3) := by decide +kernel
theorem dX1_init_8 : decode cX1_init 8 = .ok (.dup, 1) := by decide +kernel
theorem dX1_init_9 : decode cX1_init 9 = .ok (.invokespecial 9, 3) := by decide +kernel
theorem dX1_init_12 : decode cX1_init 12 = .ok (.putfield 10, 3) := by decide +kernel
theorem dX1_init_15 : decode cX1_init 15 = .ok (.return_, 1) := by decide +kernel
theorem dX1_makeEmpty_0 : decode cX1_makeEmpty 0 = .ok (.aload_n 0, 1) := by decide +kernel
theorem dX1_makeEmpty_1 : decode cX1_makeEmpty 1 = .ok (.iconst 0, 1) := by decide +kernel
theorem dX1_makeEmpty_2 : decode cX1_makeEmpty 2 = .ok (.putfield 16, 3) := by decide +kernel
theorem dX1_makeEmpty_5 : decode cX1_makeEmpty 5 = .ok (.aload_n 0, 1) := by decide +kernel
theorem dX1_makeEmpty_6 : decode cX1_makeEmpty 6 = .ok (.iconst 0, 1) := by decide +kernel
theorem dX1_makeEmpty_7 : decode cX1_makeEmpty 7 = .ok (.putfield 20, 3) := by decide +kernel
theorem dX1_makeEmpty_10 : decode cX1_makeEmpty 10 = .ok (.aload_n 0, 1) := by decide +kernel
theorem dX1_makeEmpty_11 : decode cX1_makeEmpty 11 = .ok (.iconst 0, 1) := by decide +kernel
theorem dX1_makeEmpty_12 : decode cX1_makeEmpty 12 = .ok (.putfield 23, 3) := by decide +kernel
theorem dX1_makeEmpty_15 : decode cX1_makeEmpty 15 = .ok (.return_, 1) := by decide +kernel
theorem dX2_init_0 : decode cX2_init 0 = .ok (.aload_n 0, 1) := by decide +kernel
theorem dX2_init_1 : decode cX2_init 1 = .ok (.invokespecial 1, 3) := by decide +kernel
theorem dX2_init_4 : decode cX2_init 4 = .ok (.aload_n 0, 1) := by decide +kernel
theorem dX2_init_5 : decode cX2_init 5 = .ok (.sipush 176, 3) := by decide +kernel
theorem dX2_init_8 : decode cX2_init 8 = .ok (.newarray .int, 2) := by decide +kernel
theorem dX2_init_10 : decode cX2_init 10 = .ok (.putfield 7, 3) := by decide +kernel
theorem dX2_init_13 : decode cX2_init 13 = .ok (.aload_n 0, 1) := by decide +kernel
theorem dX2_init_14 : decode cX2_init 14 = .ok (.bipush 16, 2) := by decide +kernel
theorem dX2_init_16 : decode cX2_init 16 = .ok (.newarray .int, 2) := by decide +kernel
theorem dX2_init_18 : decode cX2_init 18 = .ok (.putfield 13, 3) := by decide +kernel
theorem dX2_init_21 : decode cX2_init 21 = .ok (.aload_n 0, 1) := by decide +kernel
theorem dX2_init_22 : decode cX2_init 22 = .ok (.bipush 16, 2) := by decide +kernel
theorem dX2_init_24 : decode cX2_init 24 = .ok (.newarray .int, 2) := by decide +kernel
theorem dX2_init_26 : decode cX2_init 26 = .ok (.putfield 16, 3) := by decide +kernel
theorem dX2_init_29 : decode cX2_init 29 = .ok (.return_, 1) := by decide +kernel
theorem dX2_setKey_0 : decode cX2_setKey 0 = .ok (.iconst 0, 1) := by decide +kernel
theorem dX2_setKey_1 : decode cX2_setKey 1 = .ok (.istore_n 3, 1) := by decide +kernel
theorem dX2_setKey_2 : decode cX2_setKey 2 = .ok (.iload_n 3, 1) := by decide +kernel
theorem dX2_setKey_3 : decode cX2_setKey 3 = .ok (.bipush 16, 2) := by decide +kernel
theorem dX2_setKey_5 : decode cX2_setKey 5 = .ok (.if_icmp .ge 37, 3) := by decide +kernel
theorem dX2_setKey_8 : decode cX2_setKey 8 = .ok (.aload_n 0, 1) := by decide +kernel
theorem dX2_setKey_9 : decode cX2_setKey 9 = .ok (.getfield 7, 3) := by decide +kernel
theorem dX2_setKey_12 : decode cX2_setKey 12 = .ok (.iload_n 3, 1) := by decide +kernel
theorem dX2_setKey_13 : decode cX2_setKey 13 = .ok (.iload_n 1, 1) := by decide +kernel
theorem dX2_setKey_14 : decode cX2_setKey 14 = .ok (.bipush 8, 2) := by decide +kernel
theorem dX2_setKey_16 : decode cX2_setKey 16 = .ok (.iload_n 3, 1) := by decide +kernel
theorem dX2_setKey_17 : decode cX2_setKey 17 = .ok (.iconst 3, 1) := by decide +kernel
theorem dX2_setKey_18 : decode cX2_setKey 18 = .ok (.iand, 1) := by decide +kernel
theorem dX2_setKey_19 : decode cX2_setKey 19 = .ok (.imul, 1) := by decide +kernel
theorem dX2_setKey_20 : decode cX2_setKey 20 = .ok (.ishr, 1) := by decide +kernel
theorem dX2_setKey_21 : decode cX2_setKey 21 = .ok (.bipush 17, 2) := by decide +kernel
theorem dX2_setKey_23 : decode cX2_setKey 23 = .ok (.iload_n 3, 1) := by decide +kernel
theorem dX2_setKey_24 : decode cX2_setKey 24 = .ok (.imul, 1) := by decide +kernel
theorem dX2_setKey_25 : decode cX2_setKey 25 = .ok (.iadd, 1) := by decide +kernel
theorem dX2_setKey_26 : decode cX2_setKey 26 = .ok (.bipush 29, 2) := by decide +kernel
theorem dX2_setKey_28 : decode cX2_setKey 28 = .ok (.iload_n 2, 1) := by decide +kernel
theorem dX2_setKey_29 : decode cX2_setKey 29 = .ok (.imul, 1) := by decide +kernel
theorem dX2_setKey_30 : decode cX2_setKey 30 = .ok (.iadd, 1) := by decide +kernel
theorem dX2_setKey_31 : decode cX2_setKey 31 = .ok (.sipush 255, 3) := by decide +kernel
theorem dX2_setKey_34 : decode cX2_setKey 34 = .ok (.iand, 1) := by decide +kernel
theorem dX2_setKey_35 : decode cX2_setKey 35 = .ok (.iastore, 1) := by decide +kernel
theorem dX2_setKey_36 : decode cX2_setKey 36 = .ok (.iinc 3 1, 3) := by decide +kernel
theorem dX2_setKey_39 : decode cX2_setKey 39 = .ok (.goto (-37), 3) := by decide +kernel
theorem dX2_setKey_42 : decode cX2_setKey 42 = .ok (.iconst 1, 1) := by decide +kernel
theorem dX2_setKey_43 : decode cX2_setKey 43 = .ok (.istore_n 3, 1) := by decide +kernel
theorem dX2_setKey_44 : decode cX2_setKey 44 = .ok (.bipush 16, 2) := by decide +kernel
theorem dX2_setKey_46 : decode cX2_setKey 46 = .ok (.istore 4, 2) := by decide +kernel
theorem dX2_setKey_48 : decode cX2_setKey 48 = .ok (.iload 4, 2) := by decide +kernel
theorem dX2_setKey_50 : decode cX2_setKey 50 = .ok (.aload_n 0, 1) := by decide +kernel
theorem dX2_setKey_51 : decode cX2_setKey 51 = .ok (.getfield 7, 3) := by decide +kernel
theorem dX2_setKey_54 : decode cX2_setKey 54 = .ok (.arraylength, 1) := by decide +kernel
theorem dX2_setKey_55 : decode cX2_setKey 55 = .ok (.if_icmp .ge 143, 3) := by decide +kernel
theorem dX2_setKey_58 : decode cX2_setKey 58 = .ok (.iload 4, 2) := by decide +kernel
theorem dX2_setKey_60 : decode cX2_setKey 60 = .ok (.bipush 15, 2) := by decide +kernel
theorem dX2_setKey_62 : decode cX2_setKey 62 = .ok (.iand, 1) := by decide +kernel
theorem dX2_setKey_63 : decode cX2_setKey 63 = .ok (.ifCond .ne 7, 3) := by decide +kernel
theorem dX2_setKey_66 : decode cX2_setKey 66 = .ok (.iconst 1, 1) := by decide +kernel
theorem dX2_setKey_67 : decode cX2_setKey 67 = .ok (.goto 4, 3) := by decide +kernel
theorem dX2_setKey_70 : decode cX2_setKey 70 = .ok (.iconst 0, 1) := by decide +kernel
theorem dX2_setKey_71 : decode cX2_setKey 71 = .ok (.istore 5, 2) := by decide +kernel
theorem dX2_setKey_73 : decode cX2_setKey 73 = .ok (.iconst 0, 1) := by decide +kernel
theorem dX2_setKey_74 : decode cX2_setKey 74 = .ok (.istore 6, 2) := by decide +kernel
theorem dX2_setKey_76 : decode cX2_setKey 76 = .ok (.iload 6, 2) := by decide +kernel
theorem dX2_setKey_78 : decode cX2_setKey 78 = .ok (.iconst 4, 1) := by decide +kernel
theorem dX2_setKey_79 : decode cX2_setKey 79 = .ok (.if_icmp .ge 81, 3) := by decide +kernel
theorem dX2_setKey_82 : decode cX2_setKey 82 = .ok (.iload 5, 2) := by decide +kernel
theorem dX2_setKey_84 : decode cX2_setKey 84 = .ok (.ifCond .eq 30, 3) := by decide +kernel
theorem dX2_setKey_87 : decode cX2_setKey 87 = .ok (.getstatic 19, 3) := by decide +kernel
theorem dX2_setKey_90 : decode cX2_setKey 90 = .ok (.aload_n 0, 1) := by decide +kernel
theorem dX2_setKey_91 : decode cX2_setKey 91 = .ok (.getfield 7, 3) := by decide +kernel
theorem dX2_setKey_94 : decode cX2_setKey 94 = .ok (.iload 4, 2) := by decide +kernel
theorem dX2_setKey_96 : decode cX2_setKey 96 = .ok (.iconst 4, 1) := by decide +kernel
theorem dX2_setKey_97 : decode cX2_setKey 97 = .ok (.isub, 1) := by decide +kernel
theorem dX2_setKey_98 : decode cX2_setKey 98 = .ok (.iload 6, 2) := by decide +kernel
theorem dX2_setKey_100 : decode cX2_setKey 100 = .ok (.iconst 1, 1) := by decide +kernel
theorem dX2_setKey_101 : decode cX2_setKey 101 = .ok (.iadd, 1) := by decide +kernel
theorem dX2_setKey_102 : decode cX2_setKey 102 = .ok (.iconst 3, 1) := by decide +kernel
theorem dX2_setKey_103 : decode cX2_setKey 103 = .ok (.iand, 1) := by decide +kernel
theorem dX2_setKey_104 : decode cX2_setKey 104 = .ok (.iadd, 1) := by decide +kernel
theorem dX2_setKey_105 : decode cX2_setKey 105 = .ok (.iaload, 1) := by decide +kernel
theorem dX2_setKey_106 : decode cX2_setKey 106 = .ok (.sipush 255, 3) := by decide +kernel
theorem dX2_setKey_109 : decode cX2_setKey 109 = .ok (.iand, 1) := by decide +kernel
theorem dX2_setKey_110 : decode cX2_setKey 110 = .ok (.iaload, 1) := by decide +kernel
theorem dX2_setKey_111 : decode cX2_setKey 111 = .ok (.goto 15, 3) := by decide +kernel
theorem dX2_setKey_114 : decode cX2_setKey 114 = .ok (.aload_n 0, 1) := by decide +kernel
theorem dX2_setKey_115 : decode cX2_setKey 115 = .ok (.getfield 7, 3) := by decide +kernel
theorem dX2_setKey_118 : decode cX2_setKey 118 = .ok (.iload 4, 2) := by decide +kernel
theorem dX2_setKey_120 : decode cX2_setKey 120 = .ok (.iconst 4, 1) := by decide +kernel
theorem dX2_setKey_121 : decode cX2_setKey 121 = .ok (.isub, 1) := by decide +kernel
theorem dX2_setKey_122 : decode cX2_setKey 122 = .ok (.iload 6, 2) := by decide +kernel
theorem dX2_setKey_124 : decode cX2_setKey 124 = .ok (.iadd, 1) := by decide +kernel
theorem dX2_setKey_125 : decode cX2_setKey 125 = .ok (.iaload, 1) := by decide +kernel
theorem dX2_setKey_126 : decode cX2_setKey 126 = .ok (.istore 7, 2) := by decide +kernel
theorem dX2_setKey_128 : decode cX2_setKey 128 = .ok (.aload_n 0, 1) := by decide +kernel
theorem dX2_setKey_129 : decode cX2_setKey 129 = .ok (.getfield 7, 3) := by decide +kernel
theorem dX2_setKey_132 : decode cX2_setKey 132 = .ok (.iload 4, 2) := by decide +kernel
theorem dX2_setKey_134 : decode cX2_setKey 134 = .ok (.iload 6, 2) := by decide +kernel
theorem dX2_setKey_136 : decode cX2_setKey 136 = .ok (.iadd, 1) := by decide +kernel
theorem dX2_setKey_137 : decode cX2_setKey 137 = .ok (.aload_n 0, 1) := by decide +kernel
theorem dX2_setKey_138 : decode cX2_setKey 138 = .ok (.getfield 7, 3) := by decide +kernel
theorem dX2_setKey_141 : decode cX2_setKey 141 = .ok (.iload 4, 2) := by decide +kernel
theorem dX2_setKey_143 : decode cX2_setKey 143 = .ok (.iload 6, 2) := by decide +kernel
theorem dX2_setKey_145 : decode cX2_setKey 145 = .ok (.iadd, 1) := by decide +kernel
theorem dX2_setKey_146 : decode cX2_setKey 146 = .ok (.bipush 16, 2) := by decide +kernel
theorem dX2_setKey_148 : decode cX2_setKey 148 = .ok (.isub, 1) := by decide +kernel
theorem dX2_setKey_149 : decode cX2_setKey 149 = .ok (.iaload, 1) := by decide +kernel
theorem dX2_setKey_150 : decode cX2_setKey 150 = .ok (.iload 7, 2) := by decide +kernel
theorem dX2_setKey_152 : decode cX2_setKey 152 = .ok (.ixor, 1) := by decide +kernel
theorem dX2_setKey_153 : decode cX2_setKey 153 = .ok (.iastore, 1) := by decide +kernel
theorem dX2_setKey_154 : decode cX2_setKey 154 = .ok (.iinc 6 1, 3) := by decide +kernel
theorem dX2_setKey_157 : decode cX2_setKey 157 = .ok (.goto (-81), 3) := by decide +kernel
theorem dX2_setKey_160 : decode cX2_setKey 160 = .ok (.iload 5, 2) := by decide +kernel
theorem dX2_setKey_162 : decode cX2_setKey 162 = .ok (.ifCond .eq 30, 3) := by decide +kernel
theorem dX2_setKey_165 : decode cX2_setKey 165 = .ok (.aload_n 0, 1) := by decide +kernel
theorem dX2_setKey_166 : decode cX2_setKey 166 = .ok (.getfield 7, 3) := by decide +kernel
theorem dX2_setKey_169 : decode cX2_setKey 169 = .ok (.iload 4, 2) := by decide +kernel
theorem dX2_setKey_171 : decode cX2_setKey 171 = .ok (.dup2, 1) := by decide +kernel
theorem dX2_setKey_172 : decode cX2_setKey 172 = .ok (.iaload, 1) := by decide +kernel
theorem dX2_setKey_173 : decode cX2_setKey 173 = .ok (.iload_n 3, 1) := by decide +kernel
theorem dX2_setKey_174 : decode cX2_setKey 174 = .ok (.ixor, 1) := by decide +kernel
theorem dX2_setKey_175 : decode cX2_setKey 175 = .ok (.iastore, 1) := by decide +kernel
theorem dX2_setKey_176 : decode cX2_setKey 176 = .ok (.iload_n 3, 1) := by decide +kernel
theorem dX2_setKey_177 : decode cX2_setKey 177 = .ok (.iconst 1, 1) := by decide +kernel
theorem dX2_setKey_178 : decode cX2_setKey 178 = .ok (.ishl, 1) := by decide +kernel
theorem dX2_setKey_179 : decode cX2_setKey 179 = .ok (.iload_n 3, 1) := by decide +kernel
theorem dX2_setKey_180 : decode cX2_setKey 180 = .ok (.bipush 7, 2) := by decide +kernel
theorem dX2_setKey_182 : decode cX2_setKey 182 = .ok (.ishr, 1) := by decide +kernel
theorem dX2_setKey_183 : decode cX2_setKey 183 = .ok (.bipush 27, 2) := by decide +kernel
theorem dX2_setKey_185 : decode cX2_setKey 185 = .ok (.imul, 1) := by decide +kernel
theorem dX2_setKey_186 : decode cX2_setKey 186 = .ok (.ixor, 1) := by decide +kernel
theorem dX2_setKey_187 : decode cX2_setKey 187 = .ok (.sipush 255, 3) := by decide +kernel
theorem dX2_setKey_190 : decode cX2_setKey 190 = .ok (.iand, 1) := by decide +kernel
theorem dX2_setKey_191 : decode cX2_setKey 191 = .ok (.istore_n 3, 1) := by decide +kernel
theorem dX2_setKey_192 : decode cX2_setKey 192 = .ok (.iinc 4 4, 3) := by decide +kernel
theorem dX2_setKey_195 : decode cX2_setKey 195 = .ok (.goto (-147), 3) := by decide +kernel
theorem dX2_setKey_198 : decode cX2_setKey 198 = .ok (.return_, 1) := by decide +kernel
set_option maxRecDepth 20000 in
theorem ggX2_mask_X2_setCounter : GoodIn wsX2_mask wsX2_setCounter := goodIn_r _ [6, 1, 7, 8, 9, 10, 17, 18, 19] (by decide +kernel) (by decide +kernel)
set_option maxRecDepth 20000 in
theorem gX2_mask_X2_setCounter : GoodIn wsX2_mask (wsV RX2 24 RX2 yX2_setCounter wsX2_setCounter) := goodIn_app (goodIn_of _ (by decide +kernel)) ggX2_mask_X2_setCounter
set_option maxRecDepth 20000 in
theorem ggX2_mask_X2_encrypt : GoodIn wsX2_mask wsX2_encrypt := goodIn_r _ [14, 1, 15, 16, 17, 18, 19] (by decide +kernel) (by decide +kernel)
set_option maxRecDepth 20000 in
theorem gX2_mask_X2_encrypt : GoodIn wsX2_mask (wsV RX2 28 RX2 yX2_encrypt wsX2_encrypt) := goodIn_app (goodIn_of _ (by decide +kernel)) ggX2_mask_X2_encrypt
theorem dX2_mask_0 : decode cX2_mask 0 = .ok (.iconst 1, 1) := by decide +kernel
theorem dX2_mask_1 : decode cX2_mask 1 = .ok (.istore 5, 2) := by decide +kernel
theorem dX2_mask_3 : decode cX2_mask 3 = .ok (.iload 5, 2) := by decide +kernel
theorem dX2_mask_5 : decode cX2_mask 5 = .ok (.iload_n 2, 1) := by decide +kernel
theorem dX2_mask_6 : decode cX2_mask 6 = .ok (.if_icmp .ge 76, 3) := by decide +kernel
theorem dX2_mask_9 : decode cX2_mask 9 = .ok (.aload_n 0, 1) := by decide +kernel
theorem dX2_mask_10 : decode cX2_mask 10 = .ok (.iload_n 3, 1) := by decide +kernel
theorem dX2_mask_11 : decode cX2_mask 11 = .ok (.iload 4, 2) := by decide +kernel
theorem dX2_mask_13 : decode cX2_mask 13 = .ok (.iload 5, 2) := by decide +kernel
theorem dX2_mask_15 : decode cX2_mask 15 = .ok (.iconst 4, 1) := by decide +kernel
theorem dX2_mask_16 : decode cX2_mask 16 = .ok (.ishr, 1) := by decide +kernel
theorem dX2_mask_17 : decode cX2_mask 17 = .ok (.invokevirtual 24, 3) := by decide +kernel
theorem dX2_mask_20 : decode cX2_mask 20 = .ok (.aload_n 0, 1) := by decide +kernel
theorem dX2_mask_21 : decode cX2_mask 21 = .ok (.invokevirtual 28, 3) := by decide +kernel
theorem dX2_mask_24 : decode cX2_mask 24 = .ok (.iconst 0, 1) := by decide +kernel
theorem dX2_mask_25 : decode cX2_mask 25 = .ok (.istore 6, 2) := by decide +kernel
theorem dX2_mask_27 : decode cX2_mask 27 = .ok (.iload 6, 2) := by decide +kernel
theorem dX2_mask_29 : decode cX2_mask 29 = .ok (.bipush 16, 2) := by decide +kernel
theorem dX2_mask_31 : decode cX2_mask 31 = .ok (.if_icmp .ge 45, 3) := by decide +kernel
theorem dX2_mask_34 : decode cX2_mask 34 = .ok (.iload 5, 2) := by decide +kernel
theorem dX2_mask_36 : decode cX2_mask 36 = .ok (.iload 6, 2) := by decide +kernel
theorem dX2_mask_38 : decode cX2_mask 38 = .ok (.iadd, 1) := by decide +kernel
theorem dX2_mask_39 : decode cX2_mask 39 = .ok (.iload_n 2, 1) := by decide +kernel
theorem dX2_mask_40 : decode cX2_mask 40 = .ok (.if_icmp .ge 36, 3) := by decide +kernel
theorem dX2_mask_43 : decode cX2_mask 43 = .ok (.iload 5, 2) := by decide +kernel
theorem dX2_mask_45 : decode cX2_mask 45 = .ok (.iload 6, 2) := by decide +kernel
theorem dX2_mask_47 : decode cX2_mask 47 = .ok (.iadd, 1) := by decide +kernel
theorem dX2_mask_48 : decode cX2_mask 48 = .ok (.aload_n 1, 1) := by decide +kernel
theorem dX2_mask_49 : decode cX2_mask 49 = .ok (.arraylength, 1) := by decide +kernel
theorem dX2_mask_50 : decode cX2_mask 50 = .ok (.if_icmp .ge 26, 3) := by decide +kernel
theorem dX2_mask_53 : decode cX2_mask 53 = .ok (.aload_n 1, 1) := by decide +kernel
theorem dX2_mask_54 : decode cX2_mask 54 = .ok (.iload 5, 2) := by decide +kernel
theorem dX2_mask_56 : decode cX2_mask 56 = .ok (.iload 6, 2) := by decide +kernel
theorem dX2_mask_58 : decode cX2_mask 58 = .ok (.iadd, 1) := by decide +kernel
theorem dX2_mask_59 : decode cX2_mask 59 = .ok (.dup2, 1) := by decide +kernel
theorem dX2_mask_60 : decode cX2_mask 60 = .ok (.iaload, 1) := by decide +kernel
theorem dX2_mask_61 : decode cX2_mask 61 = .ok (.aload_n 0, 1) := by decide +kernel
theorem dX2_mask_62 : decode cX2_mask 62 = .ok (.getfield 13, 3) := by decide +kernel
theorem dX2_mask_65 : decode cX2_mask 65 = .ok (.iload 6, 2) := by decide +kernel
theorem dX2_mask_67 : decode cX2_mask 67 = .ok (.iaload, 1) := by decide +kernel
theorem dX2_mask_68 : decode cX2_mask 68 = .ok (.ixor, 1) := by decide +kernel
theorem dX2_mask_69 : decode cX2_mask 69 = .ok (.iastore, 1) := by decide +kernel
theorem dX2_mask_70 : decode cX2_mask 70 = .ok (.iinc 6 1, 3) := by decide +kernel
theorem dX2_mask_73 : decode cX2_mask 73 = .ok (.goto (-46), 3) := by decide +kernel
theorem dX2_mask_76 : decode cX2_mask 76 = .ok (.iinc 5 16, 3) := by decide +kernel
theorem dX2_mask_79 : decode cX2_mask 79 = .ok (.goto (-76), 3) := by decide +kernel
theorem dX2_mask_82 : decode cX2_mask 82 = .ok (.return_, 1) := by decide +kernel
set_option maxRecDepth 20000 in
theorem ggX2_setCounter_J7_fill_53178 : GoodIn wsX2_setCounter wsJ7_fill_53178 := goodIn_r _ [5] (by decide +kernel) (by decide +kernel)
set_option maxRecDepth 20000 in
theorem gX2_setCounter_J7_fill_53178 : GoodIn wsX2_setCounter (va_wsS RX2 31 yJ7_fill_53178 wsJ7_fill_53178) := goodIn_app (goodIn_of _ (by decide +kernel)) ggX2_setCounter_J7_fill_53178
theorem dX2_setCounter_0 : decode cX2_setCounter 0 = .ok (.aload_n 0, 1) := by decide +kernel
theorem dX2_setCounter_1 : decode cX2_setCounter 1 = .ok (.getfield 13, 3) := by decide +kernel
theorem dX2_setCounter_4 : decode cX2_setCounter 4 = .ok (.iconst 0, 1) := by decide +kernel
theorem dX2_setCounter_5 : decode cX2_setCounter 5 = .ok (.invokestatic 31, 3) := by decide +kernel
theorem dX2_setCounter_8 : decode cX2_setCounter 8 = .ok (.iconst 0, 1) := by decide +kernel
theorem dX2_setCounter_9 : decode cX2_setCounter 9 = .ok (.istore 4, 2) := by decide +kernel
theorem dX2_setCounter_11 : decode cX2_setCounter 11 = .ok (.iload 4, 2) := by decide +kernel
theorem dX2_setCounter_13 : decode cX2_setCounter 13 = .ok (.iconst 4, 1) := by decide +kernel
theorem dX2_setCounter_14 : decode cX2_setCounter 14 = .ok (.if_icmp .ge 54, 3) := by decide +kernel
theorem dX2_setCounter_17 : decode cX2_setCounter 17 = .ok (.aload_n 0, 1) := by decide +kernel
theorem dX2_setCounter_18 : decode cX2_setCounter 18 = .ok (.getfield 13, 3) := by decide +kernel
theorem dX2_setCounter_21 : decode cX2_setCounter 21 = .ok (.iload 4, 2) := by decide +kernel
theorem dX2_setCounter_23 : decode cX2_setCounter 23 = .ok (.iload_n 1, 1) := by decide +kernel
theorem dX2_setCounter_24 : decode cX2_setCounter 24 = .ok (.bipush 24, 2) := by decide +kernel
theorem dX2_setCounter_26 : decode cX2_setCounter 26 = .ok (.bipush 8, 2) := by decide +kernel
theorem dX2_setCounter_28 : decode cX2_setCounter 28 = .ok (.iload 4, 2) := by decide +kernel
theorem dX2_setCounter_30 : decode cX2_setCounter 30 = .ok (.imul, 1) := by decide +kernel
theorem dX2_setCounter_31 : decode cX2_setCounter 31 = .ok (.isub, 1) := by decide +kernel
theorem dX2_setCounter_32 : decode cX2_setCounter 32 = .ok (.ishr, 1) := by decide +kernel
theorem dX2_setCounter_33 : decode cX2_setCounter 33 = .ok (.sipush 255, 3) := by decide +kernel
theorem dX2_setCounter_36 : decode cX2_setCounter 36 = .ok (.iand, 1) := by decide +kernel
theorem dX2_setCounter_37 : decode cX2_setCounter 37 = .ok (.iastore, 1) := by decide +kernel
theorem dX2_setCounter_38 : decode cX2_setCounter 38 = .ok (.aload_n 0, 1) := by decide +kernel
theorem dX2_setCounter_39 : decode cX2_setCounter 39 = .ok (.getfield 13, 3) := by decide +kernel
theorem dX2_setCounter_42 : decode cX2_setCounter 42 = .ok (.bipush 12, 2) := by decide +kernel
theorem dX2_setCounter_44 : decode cX2_setCounter 44 = .ok (.iload 4, 2) := by decide +kernel
theorem dX2_setCounter_46 : decode cX2_setCounter 46 = .ok (.iadd, 1) := by decide +kernel
theorem dX2_setCounter_47 : decode cX2_setCounter 47 = .ok (.iload_n 3, 1) := by decide +kernel
theorem dX2_setCounter_48 : decode cX2_setCounter 48 = .ok (.bipush 24, 2) := by decide +kernel
theorem dX2_setCounter_50 : decode cX2_setCounter 50 = .ok (.bipush 8, 2) := by decide +kernel
theorem dX2_setCounter_52 : decode cX2_setCounter 52 = .ok (.iload 4, 2) := by decide +kernel
theorem dX2_setCounter_54 : decode cX2_setCounter 54 = .ok (.imul, 1) := by decide +kernel
theorem dX2_setCounter_55 : decode cX2_setCounter 55 = .ok (.isub, 1) := by decide +kernel
theorem dX2_setCounter_56 : decode cX2_setCounter 56 = .ok (.ishr, 1) := by decide +kernel
theorem dX2_setCounter_57 : decode cX2_setCounter 57 = .ok (.sipush 255, 3) := by decide +kernel
theorem dX2_setCounter_60 : decode cX2_setCounter 60 = .ok (.iand, 1) := by decide +kernel
theorem dX2_setCounter_61 : decode cX2_setCounter 61 = .ok (.iastore, 1) := by decide +kernel
theorem dX2_setCounter_62 : decode cX2_setCounter 62 = .ok (.iinc 4 1, 3) := by decide +kernel
theorem dX2_setCounter_65 : decode cX2_setCounter 65 = .ok (.goto (-54), 3) := by decide +kernel
theorem dX2_setCounter_68 : decode cX2_setCounter 68 = .ok (.aload_n 0, 1) := by decide +kernel
theorem dX2_setCounter_69 : decode cX2_setCounter 69 = .ok (.getfield 13, 3) := by decide +kernel
theorem dX2_setCounter_72 : decode cX2_setCounter 72 = .ok (.iconst 4, 1) := by decide +kernel
theorem dX2_setCounter_73 : decode cX2_setCounter 73 = .ok (.iload_n 2, 1) := by decide +kernel
theorem dX2_setCounter_74 : decode cX2_setCounter 74 = .ok (.sipush 255, 3) := by decide +kernel
theorem dX2_setCounter_77 : decode cX2_setCounter 77 = .ok (.iand, 1) := by decide +kernel
theorem dX2_setCounter_78 : decode cX2_setCounter 78 = .ok (.iastore, 1) := by decide +kernel
theorem dX2_setCounter_79 : decode cX2_setCounter 79 = .ok (.return_, 1) := by decide +kernel
theorem dX2_encrypt_0 : decode cX2_encrypt 0 = .ok (.iconst 0, 1) := by decide +kernel
theorem dX2_encrypt_1 : decode cX2_encrypt 1 = .ok (.istore_n 1, 1) := by decide +kernel
theorem dX2_encrypt_2 : decode cX2_encrypt 2 = .ok (.iload_n 1, 1) := by decide +kernel
theorem dX2_encrypt_3 : decode cX2_encrypt 3 = .ok (.bipush 16, 2) := by decide +kernel
theorem dX2_encrypt_5 : decode cX2_encrypt 5 = .ok (.if_icmp .ge 24, 3) := by decide +kernel
theorem dX2_encrypt_8 : decode cX2_encrypt 8 = .ok (.aload_n 0, 1) := by decide +kernel
theorem dX2_encrypt_9 : decode cX2_encrypt 9 = .ok (.getfield 13, 3) := by decide +kernel
theorem dX2_encrypt_12 : decode cX2_encrypt 12 = .ok (.iload_n 1, 1) := by decide +kernel
theorem dX2_encrypt_13 : decode cX2_encrypt 13 = .ok (.dup2, 1) := by decide +kernel
theorem dX2_encrypt_14 : decode cX2_encrypt 14 = .ok (.iaload, 1) := by decide +kernel
theorem dX2_encrypt_15 : decode cX2_encrypt 15 = .ok (.aload_n 0, 1) := by decide +kernel
theorem dX2_encrypt_16 : decode cX2_encrypt 16 = .ok (.getfield 7, 3) := by decide +kernel
theorem dX2_encrypt_19 : decode cX2_encrypt 19 = .ok (.iload_n 1, 1) := by decide +kernel
theorem dX2_encrypt_20 : decode cX2_encrypt 20 = .ok (.iaload, 1) := by decide +kernel
theorem dX2_encrypt_21 : decode cX2_encrypt 21 = .ok (.ixor, 1) := by decide +kernel
theorem dX2_encrypt_22 : decode cX2_encrypt 22 = .ok (.iastore, 1) := by decide +kernel
theorem dX2_encrypt_23 : decode cX2_encrypt 23 = .ok (.iinc 1 1, 3) := by decide +kernel
theorem dX2_encrypt_26 : decode cX2_encrypt 26 = .ok (.goto (-24), 3) := by decide +kernel
theorem dX2_encrypt_29 : decode cX2_encrypt 29 = .ok (.iconst 1, 1) := by decide +kernel
theorem dX2_encrypt_30 : decode cX2_encrypt 30 = .ok (.istore_n 1, 1) := by decide +kernel
theorem dX2_encrypt_31 : decode cX2_encrypt 31 = .ok (.iload_n 1, 1) := by decide +kernel
theorem dX2_encrypt_32 : decode cX2_encrypt 32 = .ok (.bipush 10, 2) := by decide +kernel
theorem dX2_encrypt_34 : decode cX2_encrypt 34 = .ok (.if_icmp .gt 186, 3) := by decide +kernel
theorem dX2_encrypt_37 : decode cX2_encrypt 37 = .ok (.iconst 0, 1) := by decide +kernel
theorem dX2_encrypt_38 : decode cX2_encrypt 38 = .ok (.istore_n 2, 1) := by decide +kernel
theorem dX2_encrypt_39 : decode cX2_encrypt 39 = .ok (.iload_n 2, 1) := by decide +kernel
theorem dX2_encrypt_40 : decode cX2_encrypt 40 = .ok (.bipush 16, 2) := by decide +kernel
theorem dX2_encrypt_42 : decode cX2_encrypt 42 = .ok (.if_icmp .ge 38, 3) := by decide +kernel
theorem dX2_encrypt_45 : decode cX2_encrypt 45 = .ok (.aload_n 0, 1) := by decide +kernel
theorem dX2_encrypt_46 : decode cX2_encrypt 46 = .ok (.getfield 16, 3) := by decide +kernel
theorem dX2_encrypt_49 : decode cX2_encrypt 49 = .ok (.iload_n 2, 1) := by decide +kernel
theorem dX2_encrypt_50 : decode cX2_encrypt 50 = .ok (.getstatic 19, 3) := by decide +kernel
theorem dX2_encrypt_53 : decode cX2_encrypt 53 = .ok (.aload_n 0, 1) := by decide +kernel
theorem dX2_encrypt_54 : decode cX2_encrypt 54 = .ok (.getfield 13, 3) := by decide +kernel
theorem dX2_encrypt_57 : decode cX2_encrypt 57 = .ok (.iload_n 2, 1) := by decide +kernel
theorem dX2_encrypt_58 : decode cX2_encrypt 58 = .ok (.iconst 4, 1) := by decide +kernel
theorem dX2_encrypt_59 : decode cX2_encrypt 59 = .ok (.iload_n 2, 1) := by decide +kernel
theorem dX2_encrypt_60 : decode cX2_encrypt 60 = .ok (.iconst 3, 1) := by decide +kernel
theorem dX2_encrypt_61 : decode cX2_encrypt 61 = .ok (.iand, 1) := by decide +kernel
theorem dX2_encrypt_62 : decode cX2_encrypt 62 = .ok (.imul, 1) := by decide +kernel
theorem dX2_encrypt_63 : decode cX2_encrypt 63 = .ok (.iadd, 1) := by decide +kernel
theorem dX2_encrypt_64 : decode cX2_encrypt 64 = .ok (.bipush 15, 2) := by decide +kernel
theorem dX2_encrypt_66 : decode cX2_encrypt 66 = .ok (.iand, 1) := by decide +kernel
theorem dX2_encrypt_67 : decode cX2_encrypt 67 = .ok (.iaload, 1) := by decide +kernel
theorem dX2_encrypt_68 : decode cX2_encrypt 68 = .ok (.sipush 255, 3) := by decide +kernel
theorem dX2_encrypt_71 : decode cX2_encrypt 71 = .ok (.iand, 1) := by decide +kernel
theorem dX2_encrypt_72 : decode cX2_encrypt 72 = .ok (.iaload, 1) := by decide +kernel
theorem dX2_encrypt_73 : decode cX2_encrypt 73 = .ok (.iastore, 1) := by decide +kernel
theorem dX2_encrypt_74 : decode cX2_encrypt 74 = .ok (.iinc 2 1, 3) := by decide +kernel
theorem dX2_encrypt_77 : decode cX2_encrypt 77 = .ok (.goto (-38), 3) := by decide +kernel
theorem dX2_encrypt_80 : decode cX2_encrypt 80 = .ok (.iconst 0, 1) := by decide +kernel
theorem dX2_encrypt_81 : decode cX2_encrypt 81 = .ok (.istore_n 2, 1) := by decide +kernel
theorem dX2_encrypt_82 : decode cX2_encrypt 82 = .ok (.iload_n 2, 1) := by decide +kernel
theorem dX2_encrypt_83 : decode cX2_encrypt 83 = .ok (.bipush 16, 2) := by decide +kernel
theorem dX2_encrypt_85 : decode cX2_encrypt 85 = .ok (.if_icmp .ge 129, 3) := by decide +kernel
theorem dX2_encrypt_88 : decode cX2_encrypt 88 = .ok (.iload_n 2, 1) := by decide +kernel
theorem dX2_encrypt_89 : decode cX2_encrypt 89 = .ok (.bipush 12, 2) := by decide +kernel
theorem dX2_encrypt_91 : decode cX2_encrypt 91 = .ok (.iand, 1) := by decide +kernel
theorem dX2_encrypt_92 : decode cX2_encrypt 92 = .ok (.istore_n 3, 1) := by decide +kernel
theorem dX2_encrypt_93 : decode cX2_encrypt 93 = .ok (.aload_n 0, 1) := by decide +kernel
theorem dX2_encrypt_94 : decode cX2_encrypt 94 = .ok (.getfield 16, 3) := by decide +kernel
theorem dX2_encrypt_97 : decode cX2_encrypt 97 = .ok (.iload_n 3, 1) := by decide +kernel
theorem dX2_encrypt_98 : decode cX2_encrypt 98 = .ok (.iaload, 1) := by decide +kernel
theorem dX2_encrypt_99 : decode cX2_encrypt 99 = .ok (.aload_n 0, 1) := by decide +kernel
theorem dX2_encrypt_100 : decode cX2_encrypt 100 = .ok (.getfield 16, 3) := by decide +kernel
theorem dX2_encrypt_103 : decode cX2_encrypt 103 = .ok (.iload_n 3, 1) := by decide +kernel
theorem dX2_encrypt_104 : decode cX2_encrypt 104 = .ok (.iconst 1, 1) := by decide +kernel
theorem dX2_encrypt_105 : decode cX2_encrypt 105 = .ok (.iadd, 1) := by decide +kernel
theorem dX2_encrypt_106 : decode cX2_encrypt 106 = .ok (.iaload, 1) := by decide +kernel
theorem dX2_encrypt_107 : decode cX2_encrypt 107 = .ok (.ixor, 1) := by decide +kernel
theorem dX2_encrypt_108 : decode cX2_encrypt 108 = .ok (.aload_n 0, 1) := by decide +kernel
theorem dX2_encrypt_109 : decode cX2_encrypt 109 = .ok (.getfield 16, 3) := by decide +kernel
theorem dX2_encrypt_112 : decode cX2_encrypt 112 = .ok (.iload_n 3, 1) := by decide +kernel
theorem dX2_encrypt_113 : decode cX2_encrypt 113 = .ok (.iconst 2, 1) := by decide +kernel
theorem dX2_encrypt_114 : decode cX2_encrypt 114 = .ok (.iadd, 1) := by decide +kernel
theorem dX2_encrypt_115 : decode cX2_encrypt 115 = .ok (.iaload, 1) := by decide +kernel
theorem dX2_encrypt_116 : decode cX2_encrypt 116 = .ok (.ixor, 1) := by decide +kernel
theorem dX2_encrypt_117 : decode cX2_encrypt 117 = .ok (.aload_n 0, 1) := by decide +kernel
theorem dX2_encrypt_118 : decode cX2_encrypt 118 = .ok (.getfield 16, 3) := by decide +kernel
theorem dX2_encrypt_121 : decode cX2_encrypt 121 = .ok (.iload_n 3, 1) := by decide +kernel
theorem dX2_encrypt_122 : decode cX2_encrypt 122 = .ok (.iconst 3, 1) := by decide +kernel
theorem dX2_encrypt_123 : decode cX2_encrypt 123 = .ok (.iadd, 1) := by decide +kernel
theorem dX2_encrypt_124 : decode cX2_encrypt 124 = .ok (.iaload, 1) := by decide +kernel
theorem dX2_encrypt_125 : decode cX2_encrypt 125 = .ok (.ixor, 1) := by decide +kernel
theorem dX2_encrypt_126 : decode cX2_encrypt 126 = .ok (.istore 4, 2) := by decide +kernel
theorem dX2_encrypt_128 : decode cX2_encrypt 128 = .ok (.aload_n 0, 1) := by decide +kernel
theorem dX2_encrypt_129 : decode cX2_encrypt 129 = .ok (.getfield 16, 3) := by decide +kernel
theorem dX2_encrypt_132 : decode cX2_encrypt 132 = .ok (.iload_n 2, 1) := by decide +kernel
theorem dX2_encrypt_133 : decode cX2_encrypt 133 = .ok (.iaload, 1) := by decide +kernel
theorem dX2_encrypt_134 : decode cX2_encrypt 134 = .ok (.aload_n 0, 1) := by decide +kernel
theorem dX2_encrypt_135 : decode cX2_encrypt 135 = .ok (.getfield 16, 3) := by decide +kernel
theorem dX2_encrypt_138 : decode cX2_encrypt 138 = .ok (.iload_n 3, 1) := by decide +kernel
theorem dX2_encrypt_139 : decode cX2_encrypt 139 = .ok (.iload_n 2, 1) := by decide +kernel
theorem dX2_encrypt_140 : decode cX2_encrypt 140 = .ok (.iconst 1, 1) := by decide +kernel
theorem dX2_encrypt_141 : decode cX2_encrypt 141 = .ok (.iadd, 1) := by decide +kernel
theorem dX2_encrypt_142 : decode cX2_encrypt 142 = .ok (.iconst 3, 1) := by decide +kernel
theorem dX2_encrypt_143 : decode cX2_encrypt 143 = .ok (.iand, 1) := by decide +kernel
theorem dX2_encrypt_144 : decode cX2_encrypt 144 = .ok (.iadd, 1) := by decide +kernel
theorem dX2_encrypt_145 : decode cX2_encrypt 145 = .ok (.iaload, 1) := by decide +kernel
theorem dX2_encrypt_146 : decode cX2_encrypt 146 = .ok (.ixor, 1) := by decide +kernel
theorem dX2_encrypt_147 : decode cX2_encrypt 147 = .ok (.istore 5, 2) := by decide +kernel
theorem dX2_encrypt_149 : decode cX2_encrypt 149 = .ok (.iload_n 1, 1) := by decide +kernel
theorem dX2_encrypt_150 : decode cX2_encrypt 150 = .ok (.bipush 10, 2) := by decide +kernel
theorem dX2_encrypt_152 : decode cX2_encrypt 152 = .ok (.if_icmp .ge 26, 3) := by decide +kernel
theorem dX2_encrypt_155 : decode cX2_encrypt 155 = .ok (.iload 4, 2) := by decide +kernel
theorem dX2_encrypt_157 : decode cX2_encrypt 157 = .ok (.iload 5, 2) := by decide +kernel
theorem dX2_encrypt_159 : decode cX2_encrypt 159 = .ok (.iconst 1, 1) := by decide +kernel
theorem dX2_encrypt_160 : decode cX2_encrypt 160 = .ok (.ishl, 1) := by decide +kernel
theorem dX2_encrypt_161 : decode cX2_encrypt 161 = .ok (.iload 5, 2) := by decide +kernel
theorem dX2_encrypt_163 : decode cX2_encrypt 163 = .ok (.bipush 7, 2) := by decide +kernel
theorem dX2_encrypt_165 : decode cX2_encrypt 165 = .ok (.ishr, 1) := by decide +kernel
theorem dX2_encrypt_166 : decode cX2_encrypt 166 = .ok (.bipush 27, 2) := by decide +kernel
theorem dX2_encrypt_168 : decode cX2_encrypt 168 = .ok (.imul, 1) := by decide +kernel
theorem dX2_encrypt_169 : decode cX2_encrypt 169 = .ok (.ixor, 1) := by decide +kernel
theorem dX2_encrypt_170 : decode cX2_encrypt 170 = .ok (.sipush 255, 3) := by decide +kernel
theorem dX2_encrypt_173 : decode cX2_encrypt 173 = .ok (.iand, 1) := by decide +kernel
theorem dX2_encrypt_174 : decode cX2_encrypt 174 = .ok (.ixor, 1) := by decide +kernel
theorem dX2_encrypt_175 : decode cX2_encrypt 175 = .ok (.goto 4, 3) := by decide +kernel
theorem dX2_encrypt_178 : decode cX2_encrypt 178 = .ok (.iconst 0, 1) := by decide +kernel
theorem dX2_encrypt_179 : decode cX2_encrypt 179 = .ok (.istore 6, 2) := by decide +kernel
theorem dX2_encrypt_181 : decode cX2_encrypt 181 = .ok (.aload_n 0, 1) := by decide +kernel
theorem dX2_encrypt_182 : decode cX2_encrypt 182 = .ok (.getfield 13, 3) := by decide +kernel
theorem dX2_encrypt_185 : decode cX2_encrypt 185 = .ok (.iload_n 2, 1) := by decide +kernel
theorem dX2_encrypt_186 : decode cX2_encrypt 186 = .ok (.aload_n 0, 1) := by decide +kernel
theorem dX2_encrypt_187 : decode cX2_encrypt 187 = .ok (.getfield 16, 3) := by decide +kernel
theorem dX2_encrypt_190 : decode cX2_encrypt 190 = .ok (.iload_n 2, 1) := by decide +kernel
theorem dX2_encrypt_191 : decode cX2_encrypt 191 = .ok (.iaload, 1) := by decide +kernel
theorem dX2_encrypt_192 : decode cX2_encrypt 192 = .ok (.iload 6, 2) := by decide +kernel
theorem dX2_encrypt_194 : decode cX2_encrypt 194 = .ok (.ixor, 1) := by decide +kernel
theorem dX2_encrypt_195 : decode cX2_encrypt 195 = .ok (.aload_n 0, 1) := by decide +kernel
theorem dX2_encrypt_196 : decode cX2_encrypt 196 = .ok (.getfield 7, 3) := by decide +kernel
theorem dX2_encrypt_199 : decode cX2_encrypt 199 = .ok (.bipush 16, 2) := by decide +kernel
theorem dX2_encrypt_201 : decode cX2_encrypt 201 = .ok (.iload_n 1, 1) := by decide +kernel
theorem dX2_encrypt_202 : decode cX2_encrypt 202 = .ok (.imul, 1) := by decide +kernel
theorem dX2_encrypt_203 : decode cX2_encrypt 203 = .ok (.iload_n 2, 1) := by decide +kernel
theorem dX2_encrypt_204 : decode cX2_encrypt 204 = .ok (.iadd, 1) := by decide +kernel
theorem dX2_encrypt_205 : decode cX2_encrypt 205 = .ok (.iaload, 1) := by decide +kernel
theorem dX2_encrypt_206 : decode cX2_encrypt 206 = .ok (.ixor, 1) := by decide +kernel
theorem dX2_encrypt_207 : decode cX2_encrypt 207 = .ok (.iastore, 1) := by decide +kernel
theorem dX2_encrypt_208 : decode cX2_encrypt 208 = .ok (.iinc 2 1, 3) := by decide +kernel
theorem dX2_encrypt_211 : decode cX2_encrypt 211 = .ok (.goto (-129), 3) := by decide +kernel
theorem dX2_encrypt_214 : decode cX2_encrypt 214 = .ok (.iinc 1 1, 3) := by decide +kernel
theorem dX2_encrypt_217 : decode cX2_encrypt 217 = .ok (.goto (-186), 3) := by decide +kernel
theorem dX2_encrypt_220 : decode cX2_encrypt 220 = .ok (.return_, 1) := by decide +kernel
theorem dX3_init_0 : decode cX3_init 0 = .ok (.aload_n 0, 1) := by decide +kernel
theorem dX3_init_1 : decode cX3_init 1 = .ok (.invokespecial 3, 3) := by decide +kernel
theorem dX3_init_4 : decode cX3_init 4 = .ok (.aload_n 0, 1) := by decide +kernel
theorem dX3_init_5 : decode cX3_init 5 = .ok (.bipush 121, 2) := by decide +kernel
theorem dX3_init_7 : decode cX3_init 7 = .ok (.newarray .int, 2) := by decide +kernel
theorem dX3_init_9 : decode cX3_init 9 = .ok (.putfield 9, 3) := by decide +kernel
theorem dX3_init_12 : decode cX3_init 12 = .ok (.aload_n 0, 1) := by decide +kernel
theorem dX3_init_13 : decode cX3_init 13 = .ok (.sipush 3840, 3) := by decide +kernel
theorem dX3_init_16 : decode cX3_init 16 = .ok (.newarray .int, 2) := by decide +kernel
theorem dX3_init_18 : decode cX3_init 18 = .ok (.putfield 15, 3) := by decide +kernel
theorem dX3_init_21 : decode cX3_init 21 = .ok (.aload_n 0, 1) := by decide +kernel
theorem dX3_init_22 : decode cX3_init 22 = .ok (.bipush 32, 2) := by decide +kernel
theorem dX3_init_24 : decode cX3_init 24 = .ok (.newarray .int, 2) := by decide +kernel
theorem dX3_init_26 : decode cX3_init 26 = .ok (.putfield 18, 3) := by decide +kernel
theorem dX3_init_29 : decode cX3_init 29 = .ok (.aload_n 0, 1) := by decide +kernel
theorem dX3_init_30 : decode cX3_init 30 = .ok (.bipush 120, 2) := by decide +kernel
theorem dX3_init_32 : decode cX3_init 32 = .ok (.newarray .int, 2) := by decide +kernel
theorem dX3_init_34 : decode cX3_init 34 = .ok (.putfield 21, 3) := by decide +kernel
theorem dX3_init_37 : decode cX3_init 37 = .ok (.aload_n 0, 1) := by decide +kernel
theorem dX3_init_38 : decode cX3_init 38 = .ok (.iload_n 1, 1) := by decide +kernel
theorem dX3_init_39 : decode cX3_init 39 = .ok (.putfield 24, 3) := by decide +kernel
theorem dX3_init_42 : decode cX3_init 42 = .ok (.return_, 1) := by decide +kernel
theorem dX3_completes_0 : decode cX3_completes 0 = .ok (.iload_n 1, 1) := by decide +kernel
theorem dX3_completes_1 : decode cX3_completes 1 = .ok (.sipush 256, 3) := by decide +kernel
theorem dX3_completes_4 : decode cX3_completes 4 = .ok (.iand, 1) := by decide +kernel
theorem dX3_completes_5 : decode cX3_completes 5 = .ok (.ifCond .eq 13, 3) := by decide +kernel
theorem dX3_completes_8 : decode cX3_completes 8 = .ok (.aload_n 0, 1) := by decide +kernel
theorem dX3_completes_9 : decode cX3_completes 9 = .ok (.iconst 1, 1) := by decide +kernel
theorem dX3_completes_10 : decode cX3_completes 10 = .ok (.putfield 28, 3) := by decide +kernel
theorem dX3_completes_13 : decode cX3_completes 13 = .ok (.aload_n 0, 1) := by decide +kernel
theorem dX3_completes_14 : decode cX3_completes 14 = .ok (.iconst 0, 1) := by decide +kernel
theorem dX3_completes_15 : decode cX3_completes 15 = .ok (.putfield 32, 3) := by decide +kernel
theorem dX3_completes_18 : decode cX3_completes 18 = .ok (.aload_n 0, 1) := by decide +kernel
theorem dX3_completes_19 : decode cX3_completes 19 = .ok (.getfield 28, 3) := by decide +kernel
theorem dX3_completes_22 : decode cX3_completes 22 = .ok (.ifCond .eq 15, 3) := by decide +kernel
theorem dX3_completes_25 : decode cX3_completes 25 = .ok (.aload_n 0, 1) := by decide +kernel
theorem dX3_completes_26 : decode cX3_completes 26 = .ok (.getfield 32, 3) := by decide +kernel
theorem dX3_completes_29 : decode cX3_completes 29 = .ok (.aload_n 0, 1) := by decide +kernel
theorem dX3_completes_30 : decode cX3_completes 30 = .ok (.getfield 9, 3) := by decide +kernel
theorem dX3_completes_33 : decode cX3_completes 33 = .ok (.arraylength, 1) := by decide +kernel
theorem dX3_completes_34 : decode cX3_completes 34 = .ok (.if_icmp .lt 5, 3) := by decide +kernel
theorem dX3_completes_37 : decode cX3_completes 37 = .ok (.iconst 0, 1) := by decide +kernel
theorem dX3_completes_38 : decode cX3_completes 38 = .ok (.ireturn, 1) := by decide +kernel
theorem dX3_completes_39 : decode cX3_completes 39 = .ok (.aload_n 0, 1) := by decide +kernel
theorem dX3_completes_40 : decode cX3_completes 40 = .ok (.getfield 9, 3) := by decide +kernel
theorem dX3_completes_43 : decode cX3_completes 43 = .ok (.aload_n 0, 1) := by decide +kernel
theorem dX3_completes_44 : decode cX3_completes 44 = .ok (.dup, 1) := by decide +kernel
theorem dX3_completes_45 : decode cX3_completes 45 = .ok (.getfield 32, 3) := by decide +kernel
theorem dX3_completes_48 : decode cX3_completes 48 = .ok (.dup_x1, 1) := by decide +kernel
theorem dX3_completes_49 : decode cX3_completes 49 = .ok (.iconst 1, 1) := by decide +kernel
theorem dX3_completes_50 : decode cX3_completes 50 = .ok (.iadd, 1) := by decide +kernel
theorem dX3_completes_51 : decode cX3_completes 51 = .ok (.putfield 32, 3) := by decide +kernel
theorem dX3_completes_54 : decode cX3_completes 54 = .ok (.iload_n 1, 1) := by decide +kernel
theorem dX3_completes_55 : decode cX3_completes 55 = .ok (.sipush 255, 3) := by decide +kernel
theorem dX3_completes_58 : decode cX3_completes 58 = .ok (.iand, 1) := by decide +kernel
theorem dX3_completes_59 : decode cX3_completes 59 = .ok (.iastore, 1) := by decide +kernel
theorem dX3_completes_60 : decode cX3_completes 60 = .ok (.aload_n 0, 1) := by decide +kernel
theorem dX3_completes_61 : decode cX3_completes 61 = .ok (.iload_n 1, 1) := by decide +kernel
theorem dX3_completes_62 : decode cX3_completes 62 = .ok (.sipush 512, 3) := by decide +kernel
theorem dX3_completes_65 : decode cX3_completes 65 = .ok (.iand, 1) := by decide +kernel
theorem dX3_completes_66 : decode cX3_completes 66 = .ok (.ifCond .ne 7, 3) := by decide +kernel
theorem dX3_completes_69 : decode cX3_completes 69 = .ok (.iconst 1, 1) := by decide +kernel
theorem dX3_completes_70 : decode cX3_completes 70 = .ok (.goto 4, 3) := by decide +kernel
theorem dX3_completes_73 : decode cX3_completes 73 = .ok (.iconst 0, 1) := by decide +kernel
theorem dX3_completes_74 : decode cX3_completes 74 = .ok (.putfield 28, 3) := by decide +kernel
theorem dX3_completes_77 : decode cX3_completes 77 = .ok (.aload_n 0, 1) := by decide +kernel
theorem dX3_completes_78 : decode cX3_completes 78 = .ok (.getfield 28, 3) := by decide +kernel
theorem dX3_completes_81 : decode cX3_completes 81 = .ok (.ifCond .ne 7, 3) := by decide +kernel
theorem dX3_completes_84 : decode cX3_completes 84 = .ok (.iconst 1, 1) := by decide +kernel
theorem dX3_completes_85 : decode cX3_completes 85 = .ok (.goto 4, 3) := by decide +kernel
theorem dX3_completes_88 : decode cX3_completes 88 = .ok (.iconst 0, 1) := by decide +kernel
theorem dX3_completes_89 : decode cX3_completes 89 = .ok (.ireturn, 1) := by decide +kernel
theorem dX3_meantCount_0 : decode cX3_meantCount 0 = .ok (.aload_n 0, 1) := by decide +kernel
theorem dX3_meantCount_1 : decode cX3_meantCount 1 = .ok (.getfield 35, 3) := by decide +kernel
theorem dX3_meantCount_4 : decode cX3_meantCount 4 = .ok (.bipush 32, 2) := by decide +kernel
theorem dX3_meantCount_6 : decode cX3_meantCount 6 = .ok (.isub, 1) := by decide +kernel
theorem dX3_meantCount_7 : decode cX3_meantCount 7 = .ok (.istore_n 1, 1) := by decide +kernel
theorem dX3_meantCount_8 : decode cX3_meantCount 8 = .ok (.iload_n 1, 1) := by decide +kernel
theorem dX3_meantCount_9 : decode cX3_meantCount 9 = .ok (.aload_n 0, 1) := by decide +kernel
theorem dX3_meantCount_10 : decode cX3_meantCount 10 = .ok (.getfield 9, 3) := by decide +kernel
theorem dX3_meantCount_13 : decode cX3_meantCount 13 = .ok (.iconst 0, 1) := by decide +kernel
theorem dX3_meantCount_14 : decode cX3_meantCount 14 = .ok (.iaload, 1) := by decide +kernel
theorem dX3_meantCount_15 : decode cX3_meantCount 15 = .ok (.iload_n 1, 1) := by decide +kernel
theorem dX3_meantCount_16 : decode cX3_meantCount 16 = .ok (.isub, 1) := by decide +kernel
theorem dX3_meantCount_17 : decode cX3_meantCount 17 = .ok (.bipush 63, 2) := by decide +kernel
theorem dX3_meantCount_19 : decode cX3_meantCount 19 = .ok (.iand, 1) := by decide +kernel
theorem dX3_meantCount_20 : decode cX3_meantCount 20 = .ok (.iadd, 1) := by decide +kernel
theorem dX3_meantCount_21 : decode cX3_meantCount 21 = .ok (.ireturn, 1) := by decide +kernel
theorem dX3_isDouble_0 : decode cX3_isDouble 0 = .ok (.iload_n 1, 1) := by decide +kernel
theorem dX3_isDouble_1 : decode cX3_isDouble 1 = .ok (.aload_n 0, 1) := by decide +kernel
theorem dX3_isDouble_2 : decode cX3_isDouble 2 = .ok (.getfield 35, 3) := by decide +kernel
theorem dX3_isDouble_5 : decode cX3_isDouble 5 = .ok (.if_icmp .lt 15, 3) := by decide +kernel
theorem dX3_isDouble_8 : decode cX3_isDouble 8 = .ok (.aload_n 0, 1) := by decide +kernel
theorem dX3_isDouble_9 : decode cX3_isDouble 9 = .ok (.getfield 18, 3) := by decide +kernel
theorem dX3_isDouble_12 : decode cX3_isDouble 12 = .ok (.iload_n 1, 1) := by decide +kernel
theorem dX3_isDouble_13 : decode cX3_isDouble 13 = .ok (.bipush 31, 2) := by decide +kernel
theorem dX3_isDouble_15 : decode cX3_isDouble 15 = .ok (.iand, 1) := by decide +kernel
theorem dX3_isDouble_16 : decode cX3_isDouble 16 = .ok (.iaload, 1) := by decide +kernel
theorem dX3_isDouble_17 : decode cX3_isDouble 17 = .ok (.ifCond .le 7, 3) := by decide +kernel
theorem dX3_isDouble_20 : decode cX3_isDouble 20 = .ok (.iconst 1, 1) := by decide +kernel
theorem dX3_isDouble_21 : decode cX3_isDouble 21 = .ok (.goto 4, 3) := by decide +kernel
theorem dX3_isDouble_24 : decode cX3_isDouble 24 = .ok (.iconst 0, 1) := by decide +kernel
theorem dX3_isDouble_25 : decode cX3_isDouble 25 = .ok (.ireturn, 1) := by decide +kernel
theorem dX3_store_0 : decode cX3_store 0 = .ok (.aload_n 0, 1) := by decide +kernel
theorem dX3_store_1 : decode cX3_store 1 = .ok (.getfield 32, 3) := by decide +kernel
theorem dX3_store_4 : decode cX3_store 4 = .ok (.iconst 1, 1) := by decide +kernel
theorem dX3_store_5 : decode cX3_store 5 = .ok (.isub, 1) := by decide +kernel
theorem dX3_store_6 : decode cX3_store 6 = .ok (.istore_n 2, 1) := by decide +kernel
theorem dX3_store_7 : decode cX3_store 7 = .ok (.iload_n 2, 1) := by decide +kernel
theorem dX3_store_8 : decode cX3_store 8 = .ok (.iconst 1, 1) := by decide +kernel
theorem dX3_store_9 : decode cX3_store 9 = .ok (.if_icmp .lt 9, 3) := by decide +kernel
theorem dX3_store_12 : decode cX3_store 12 = .ok (.iload_n 2, 1) := by decide +kernel
theorem dX3_store_13 : decode cX3_store 13 = .ok (.bipush 120, 2) := by decide +kernel
theorem dX3_store_15 : decode cX3_store 15 = .ok (.if_icmp .le 4, 3) := by decide +kernel
theorem dX3_store_18 : decode cX3_store 18 = .ok (.return_, 1) := by decide +kernel
theorem dX3_store_19 : decode cX3_store 19 = .ok (.iload_n 1, 1) := by decide +kernel
theorem dX3_store_20 : decode cX3_store 20 = .ok (.bipush 31, 2) := by decide +kernel
theorem dX3_store_22 : decode cX3_store 22 = .ok (.iand, 1) := by decide +kernel
theorem dX3_store_23 : decode cX3_store 23 = .ok (.istore_n 3, 1) := by decide +kernel
theorem dX3_store_24 : decode cX3_store 24 = .ok (.aload_n 0, 1) := by decide +kernel
theorem dX3_store_25 : decode cX3_store 25 = .ok (.getfield 9, 3) := by decide +kernel
theorem dX3_store_28 : decode cX3_store 28 = .ok (.iconst 1, 1) := by decide +kernel
theorem dX3_store_29 : decode cX3_store 29 = .ok (.aload_n 0, 1) := by decide +kernel
theorem dX3_store_30 : decode cX3_store 30 = .ok (.getfield 15, 3) := by decide +kernel
theorem dX3_store_33 : decode cX3_store 33 = .ok (.iload_n 3, 1) := by decide +kernel
theorem dX3_store_34 : decode cX3_store 34 = .ok (.bipush 120, 2) := by decide +kernel
theorem dX3_store_36 : decode cX3_store 36 = .ok (.imul, 1) := by decide +kernel
theorem dX3_store_37 : decode cX3_store 37 = .ok (.iload_n 2, 1) := by decide +kernel
theorem dX3_store_38 : decode cX3_store 38 = .ok (.invokestatic 38, 3) := by decide +kernel
theorem dX3_store_41 : decode cX3_store 41 = .ok (.aload_n 0, 1) := by decide +kernel
theorem dX3_store_42 : decode cX3_store 42 = .ok (.getfield 18, 3) := by decide +kernel
theorem dX3_store_45 : decode cX3_store 45 = .ok (.iload_n 3, 1) := by decide +kernel
theorem dX3_store_46 : decode cX3_store 46 = .ok (.iload_n 2, 1) := by decide +kernel
theorem dX3_store_47 : decode cX3_store 47 = .ok (.iastore, 1) := by decide +kernel
theorem dX3_store_48 : decode cX3_store 48 = .ok (.aload_n 0, 1) := by decide +kernel
theorem dX3_store_49 : decode cX3_store 49 = .ok (.dup, 1) := by decide +kernel
theorem dX3_store_50 : decode cX3_store 50 = .ok (.getfield 44, 3) := by decide +kernel
theorem dX3_store_53 : decode cX3_store 53 = .ok (.iconst 1, 1) := by decide +kernel
theorem dX3_store_54 : decode cX3_store 54 = .ok (.iadd, 1) := by decide +kernel
theorem dX3_store_55 : decode cX3_store 55 = .ok (.putfield 44, 3) := by decide +kernel
theorem dX3_store_58 : decode cX3_store 58 = .ok (.return_, 1) := by decide +kernel
theorem dX3_deliverStored_0 : decode cX3_deliverStored 0 = .ok (.iconst 0, 1) := by decide +kernel
theorem dX3_deliverStored_1 : decode cX3_deliverStored 1 = .ok (.istore_n 1, 1) := by decide +kernel
theorem dX3_deliverStored_2 : decode cX3_deliverStored 2 = .ok (.iload_n 1, 1) := by decide +kernel
theorem dX3_deliverStored_3 : decode cX3_deliverStored 3 = .ok (.bipush 32, 2) := by decide +kernel
theorem dX3_deliverStored_5 : decode cX3_deliverStored 5 = .ok (.if_icmp .ge 157, 3) := by decide +kernel
theorem dX3_deliverStored_8 : decode cX3_deliverStored 8 = .ok (.aload_n 0, 1) := by decide +kernel
theorem dX3_deliverStored_9 : decode cX3_deliverStored 9 = .ok (.getfield 18, 3) := by decide +kernel
theorem dX3_deliverStored_12 : decode cX3_deliverStored 12 = .ok (.aload_n 0, 1) := by decide +kernel
theorem dX3_deliverStored_13 : decode cX3_deliverStored 13 = .ok (.getfield 35, 3) := by decide +kernel
theorem dX3_deliverStored_16 : decode cX3_deliverStored 16 = .ok (.bipush 31, 2) := by decide +kernel
theorem dX3_deliverStored_18 : decode cX3_deliverStored 18 = .ok (.iand, 1) := by decide +kernel
theorem dX3_deliverStored_19 : decode cX3_deliverStored 19 = .ok (.iaload, 1) := by decide +kernel
theorem dX3_deliverStored_20 : decode cX3_deliverStored 20 = .ok (.ifCond .le 142, 3) := by decide +kernel
theorem dX3_deliverStored_23 : decode cX3_deliverStored 23 = .ok (.aload_n 0, 1) := by decide +kernel
theorem dX3_deliverStored_24 : decode cX3_deliverStored 24 = .ok (.getfield 35, 3) := by decide +kernel
theorem dX3_deliverStored_27 : decode cX3_deliverStored 27 = .ok (.bipush 31, 2) := by decide +kernel
theorem dX3_deliverStored_29 : decode cX3_deliverStored 29 = .ok (.iand, 1) := by decide +kernel
theorem dX3_deliverStored_30 : decode cX3_deliverStored 30 = .ok (.istore_n 2, 1) := by decide +kernel
theorem dX3_deliverStored_31 : decode cX3_deliverStored 31 = .ok (.aload_n 0, 1) := by decide +kernel
theorem dX3_deliverStored_32 : decode cX3_deliverStored 32 = .ok (.aload_n 0, 1) := by decide +kernel
theorem dX3_deliverStored_33 : decode cX3_deliverStored 33 = .ok (.getfield 18, 3) := by decide +kernel
theorem dX3_deliverStored_36 : decode cX3_deliverStored 36 = .ok (.iload_n 2, 1) := by decide +kernel
theorem dX3_deliverStored_37 : decode cX3_deliverStored 37 = .ok (.iaload, 1) := by decide +kernel
theorem dX3_deliverStored_38 : decode cX3_deliverStored 38 = .ok (.bipush 120, 2) := by decide +kernel
theorem dX3_deliverStored_40 : decode cX3_deliverStored 40 = .ok (.invokestatic 47, 3) := by decide +kernel
theorem dX3_deliverStored_43 : decode cX3_deliverStored 43 = .ok (.putfield 53, 3) := by decide +kernel
theorem dX3_deliverStored_46 : decode cX3_deliverStored 46 = .ok (.aload_n 0, 1) := by decide +kernel
theorem dX3_deliverStored_47 : decode cX3_deliverStored 47 = .ok (.getfield 15, 3) := by decide +kernel
theorem dX3_deliverStored_50 : decode cX3_deliverStored 50 = .ok (.iload_n 2, 1) := by decide +kernel
theorem dX3_deliverStored_51 : decode cX3_deliverStored 51 = .ok (.bipush 120, 2) := by decide +kernel
theorem dX3_deliverStored_53 : decode cX3_deliverStored 53 = .ok (.imul, 1) := by decide +kernel
theorem dX3_deliverStored_54 : decode cX3_deliverStored 54 = .ok (.aload_n 0, 1) := by decide +kernel
theorem dX3_deliverStored_55 : decode cX3_deliverStored 55 = .ok (.getfield 21, 3) := by decide +kernel
theorem dX3_deliverStored_58 : decode cX3_deliverStored 58 = .ok (.iconst 0, 1) := by decide +kernel
theorem dX3_deliverStored_59 : decode cX3_deliverStored 59 = .ok (.aload_n 0, 1) := by decide +kernel
theorem dX3_deliverStored_60 : decode cX3_deliverStored 60 = .ok (.getfield 53, 3) := by decide +kernel
theorem dX3_deliverStored_63 : decode cX3_deliverStored 63 = .ok (.invokestatic 38, 3) := by decide +kernel
theorem dX3_deliverStored_66 : decode cX3_deliverStored 66 = .ok (.aload_n 0, 1) := by decide +kernel
theorem dX3_deliverStored_67 : decode cX3_deliverStored 67 = .ok (.getfield 18, 3) := by decide +kernel
theorem dX3_deliverStored_70 : decode cX3_deliverStored 70 = .ok (.iload_n 2, 1) := by decide +kernel
theorem dX3_deliverStored_71 : decode cX3_deliverStored 71 = .ok (.iconst 0, 1) := by decide +kernel
theorem dX3_deliverStored_72 : decode cX3_deliverStored 72 = .ok (.iastore, 1) := by decide +kernel
theorem dX3_deliverStored_73 : decode cX3_deliverStored 73 = .ok (.aload_n 0, 1) := by decide +kernel
theorem dX3_deliverStored_74 : decode cX3_deliverStored 74 = .ok (.dup, 1) := by decide +kernel
theorem dX3_deliverStored_75 : decode cX3_deliverStored 75 = .ok (.getfield 44, 3) := by decide +kernel
theorem dX3_deliverStored_78 : decode cX3_deliverStored 78 = .ok (.iconst 1, 1) := by decide +kernel
theorem dX3_deliverStored_79 : decode cX3_deliverStored 79 = .ok (.isub, 1) := by decide +kernel
theorem dX3_deliverStored_80 : decode cX3_deliverStored 80 = .ok (.putfield 44, 3) := by decide +kernel
theorem dX3_deliverStored_83 : decode cX3_deliverStored 83 = .ok (.aload_n 0, 1) := by decide +kernel
theorem dX3_deliverStored_84 : decode cX3_deliverStored 84 = .ok (.dup, 1) := by decide +kernel
theorem dX3_deliverStored_85 : decode cX3_deliverStored 85 = .ok (.getfield 35, 3) := by decide +kernel
theorem dX3_deliverStored_88 : decode cX3_deliverStored 88 = .ok (.iconst 1, 1) := by decide +kernel
theorem dX3_deliverStored_89 : decode cX3_deliverStored 89 = .ok (.iadd, 1) := by decide +kernel
theorem dX3_deliverStored_90 : decode cX3_deliverStored 90 = .ok (.putfield 35, 3) := by decide +kernel
theorem dX3_deliverStored_93 : decode cX3_deliverStored 93 = .ok (.aload_n 0, 1) := by decide +kernel
theorem dX3_deliverStored_94 : decode cX3_deliverStored 94 = .ok (.dup, 1) := by decide +kernel
theorem dX3_deliverStored_95 : decode cX3_deliverStored 95 = .ok (.getfield 56, 3) := by decide +kernel
theorem dX3_deliverStored_98 : decode cX3_deliverStored 98 = .ok (.aload_n 0, 1) := by decide +kernel
theorem dX3_deliverStored_99 : decode cX3_deliverStored 99 = .ok (.getfield 53, 3) := by decide +kernel
theorem dX3_deliverStored_102 : decode cX3_deliverStored 102 = .ok (.iadd, 1) := by decide +kernel
theorem dX3_deliverStored_103 : decode cX3_deliverStored 103 = .ok (.putfield 56, 3) := by decide +kernel
theorem dX3_deliverStored_106 : decode cX3_deliverStored 106 = .ok (.aload_n 0, 1) := by decide +kernel
theorem dX3_deliverStored_107 : decode cX3_deliverStored 107 = .ok (.bipush 31, 2) := by decide +kernel
theorem dX3_deliverStored_109 : decode cX3_deliverStored 109 = .ok (.aload_n 0, 1) := by decide +kernel
theorem dX3_deliverStored_110 : decode cX3_deliverStored 110 = .ok (.getfield 59, 3) := by decide +kernel
theorem dX3_deliverStored_113 : decode cX3_deliverStored 113 = .ok (.imul, 1) := by decide +kernel
theorem dX3_deliverStored_114 : decode cX3_deliverStored 114 = .ok (.aload_n 0, 1) := by decide +kernel
theorem dX3_deliverStored_115 : decode cX3_deliverStored 115 = .ok (.getfield 53, 3) := by decide +kernel
theorem dX3_deliverStored_118 : decode cX3_deliverStored 118 = .ok (.iadd, 1) := by decide +kernel
theorem dX3_deliverStored_119 : decode cX3_deliverStored 119 = .ok (.putfield 59, 3) := by decide +kernel
theorem dX3_deliverStored_122 : decode cX3_deliverStored 122 = .ok (.iconst 0, 1) := by decide +kernel
theorem dX3_deliverStored_123 : decode cX3_deliverStored 123 = .ok (.istore_n 3, 1) := by decide +kernel
theorem dX3_deliverStored_124 : decode cX3_deliverStored 124 = .ok (.iload_n 3, 1) := by decide +kernel
theorem dX3_deliverStored_125 : decode cX3_deliverStored 125 = .ok (.aload_n 0, 1) := by decide +kernel
theorem dX3_deliverStored_126 : decode cX3_deliverStored 126 = .ok (.getfield 53, 3) := by decide +kernel
theorem dX3_deliverStored_129 : decode cX3_deliverStored 129 = .ok (.if_icmp .ge 27, 3) := by decide +kernel
theorem dX3_deliverStored_132 : decode cX3_deliverStored 132 = .ok (.aload_n 0, 1) := by decide +kernel
theorem dX3_deliverStored_133 : decode cX3_deliverStored 133 = .ok (.bipush 31, 2) := by decide +kernel
theorem dX3_deliverStored_135 : decode cX3_deliverStored 135 = .ok (.aload_n 0, 1) := by decide +kernel
theorem dX3_deliverStored_136 : decode cX3_deliverStored 136 = .ok (.getfield 59, 3) := by decide +kernel
theorem dX3_deliverStored_139 : decode cX3_deliverStored 139 = .ok (.imul, 1) := by decide +kernel
theorem dX3_deliverStored_140 : decode cX3_deliverStored 140 = .ok (.aload_n 0, 1) := by decide +kernel
theorem dX3_deliverStored_141 : decode cX3_deliverStored 141 = .ok (.getfield 21, 3) := by decide +kernel
theorem dX3_deliverStored_144 : decode cX3_deliverStored 144 = .ok (.iload_n 3, 1) := by decide +kernel
theorem dX3_deliverStored_145 : decode cX3_deliverStored 145 = .ok (.iaload, 1) := by decide +kernel
theorem dX3_deliverStored_146 : decode cX3_deliverStored 146 = .ok (.iadd, 1) := by decide +kernel
theorem dX3_deliverStored_147 : decode cX3_deliverStored 147 = .ok (.putfield 59, 3) := by decide +kernel
theorem dX3_deliverStored_150 : decode cX3_deliverStored 150 = .ok (.iinc 3 1, 3) := by decide +kernel
theorem dX3_deliverStored_153 : decode cX3_deliverStored 153 = .ok (.goto (-29), 3) := by decide +kernel
theorem dX3_deliverStored_156 : decode cX3_deliverStored 156 = .ok (.iinc 1 1, 3) := by decide +kernel
theorem dX3_deliverStored_159 : decode cX3_deliverStored 159 = .ok (.goto (-157), 3) := by decide +kernel
theorem dX3_deliverStored_162 : decode cX3_deliverStored 162 = .ok (.return_, 1) := by decide +kernel
set_option maxRecDepth 20000 in
theorem ggX3_writeReport_J7_fill_53178 : GoodIn wsX3_writeReport wsJ7_fill_53178 := goodIn_r _ [6] (by decide +kernel) (by decide +kernel)
set_option maxRecDepth 20000 in
theorem gX3_writeReport_J7_fill_53178 : GoodIn wsX3_writeReport (va_wsS RX3 62 yJ7_fill_53178 wsJ7_fill_53178) := goodIn_app (goodIn_of _ (by decide +kernel)) ggX3_writeReport_J7_fill_53178
theorem dX3_writeReport_0 : decode cX3_writeReport 0 = .ok (.iconst 0, 1) := by decide +kernel
theorem dX3_writeReport_1 : decode cX3_writeReport 1 = .ok (.istore_n 2, 1) := by decide +kernel
theorem dX3_writeReport_2 : decode cX3_writeReport 2 = .ok (.iconst 0, 1) := by decide +kernel
theorem dX3_writeReport_3 : decode cX3_writeReport 3 = .ok (.istore_n 3, 1) := by decide +kernel
theorem dX3_writeReport_4 : decode cX3_writeReport 4 = .ok (.iload_n 3, 1) := by decide +kernel
theorem dX3_writeReport_5 : decode cX3_writeReport 5 = .ok (.bipush 31, 2) := by decide +kernel
theorem dX3_writeReport_7 : decode cX3_writeReport 7 = .ok (.if_icmp .ge 32, 3) := by decide +kernel
theorem dX3_writeReport_10 : decode cX3_writeReport 10 = .ok (.aload_n 0, 1) := by decide +kernel
theorem dX3_writeReport_11 : decode cX3_writeReport 11 = .ok (.getfield 18, 3) := by decide +kernel
theorem dX3_writeReport_14 : decode cX3_writeReport 14 = .ok (.aload_n 0, 1) := by decide +kernel
theorem dX3_writeReport_15 : decode cX3_writeReport 15 = .ok (.getfield 35, 3) := by decide +kernel
theorem dX3_writeReport_18 : decode cX3_writeReport 18 = .ok (.iconst 1, 1) := by decide +kernel
theorem dX3_writeReport_19 : decode cX3_writeReport 19 = .ok (.iadd, 1) := by decide +kernel
theorem dX3_writeReport_20 : decode cX3_writeReport 20 = .ok (.iload_n 3, 1) := by decide +kernel
theorem dX3_writeReport_21 : decode cX3_writeReport 21 = .ok (.iadd, 1) := by decide +kernel
theorem dX3_writeReport_22 : decode cX3_writeReport 22 = .ok (.bipush 31, 2) := by decide +kernel
theorem dX3_writeReport_24 : decode cX3_writeReport 24 = .ok (.iand, 1) := by decide +kernel
theorem dX3_writeReport_25 : decode cX3_writeReport 25 = .ok (.iaload, 1) := by decide +kernel
theorem dX3_writeReport_26 : decode cX3_writeReport 26 = .ok (.ifCond .le 7, 3) := by decide +kernel
theorem dX3_writeReport_29 : decode cX3_writeReport 29 = .ok (.iload_n 3, 1) := by decide +kernel
theorem dX3_writeReport_30 : decode cX3_writeReport 30 = .ok (.iconst 1, 1) := by decide +kernel
theorem dX3_writeReport_31 : decode cX3_writeReport 31 = .ok (.iadd, 1) := by decide +kernel
theorem dX3_writeReport_32 : decode cX3_writeReport 32 = .ok (.istore_n 2, 1) := by decide +kernel
theorem dX3_writeReport_33 : decode cX3_writeReport 33 = .ok (.iinc 3 1, 3) := by decide +kernel
theorem dX3_writeReport_36 : decode cX3_writeReport 36 = .ok (.goto (-32), 3) := by decide +kernel
theorem dX3_writeReport_39 : decode cX3_writeReport 39 = .ok (.aload_n 1, 1) := by decide +kernel
