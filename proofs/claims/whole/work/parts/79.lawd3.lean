/-! the law, rows 3 -/
theorem dw_1091 : decode code 1091 = .ok (.aload_n 0, 1) := by decide +kernel
theorem dw_1092 : decode code 1092 = .ok (.iload_n 3, 1) := by decide +kernel
theorem dw_1093 : decode code 1093 = .ok (.iconst 1, 1) := by decide +kernel
theorem dw_1094 : decode code 1094 = .ok (.iadd, 1) := by decide +kernel
theorem dw_1095 : decode code 1095 = .ok (.iaload, 1) := by decide +kernel
theorem dw_1096 : decode code 1096 = .ok (.aload_n 0, 1) := by decide +kernel
theorem dw_1097 : decode code 1097 = .ok (.iload_n 3, 1) := by decide +kernel
theorem dw_1098 : decode code 1098 = .ok (.iconst 2, 1) := by decide +kernel
theorem dw_1099 : decode code 1099 = .ok (.iadd, 1) := by decide +kernel
theorem dw_1100 : decode code 1100 = .ok (.iaload, 1) := by decide +kernel
theorem dw_1101 : decode code 1101 = .ok (.invokevirtual 141, 3) := by decide +kernel
theorem dw_1104 : decode code 1104 = .ok (.if_icmp .eq 274, 3) := by decide +kernel
theorem dw_1107 : decode code 1107 = .ok (.iconst 0, 1) := by decide +kernel
theorem dw_1108 : decode code 1108 = .ok (.ireturn, 1) := by decide +kernel
theorem dw_1109 : decode code 1109 = .ok (.aload_n 1, 1) := by decide +kernel
theorem dw_1110 : decode code 1110 = .ok (.aload_n 0, 1) := by decide +kernel
theorem dw_1111 : decode code 1111 = .ok (.iload_n 3, 1) := by decide +kernel
theorem dw_1112 : decode code 1112 = .ok (.iconst 1, 1) := by decide +kernel
theorem dw_1113 : decode code 1113 = .ok (.iadd, 1) := by decide +kernel
theorem dw_1114 : decode code 1114 = .ok (.iaload, 1) := by decide +kernel
theorem dw_1115 : decode code 1115 = .ok (.aload_n 0, 1) := by decide +kernel
theorem dw_1116 : decode code 1116 = .ok (.iload_n 3, 1) := by decide +kernel
theorem dw_1117 : decode code 1117 = .ok (.iconst 2, 1) := by decide +kernel
theorem dw_1118 : decode code 1118 = .ok (.iadd, 1) := by decide +kernel
theorem dw_1119 : decode code 1119 = .ok (.iaload, 1) := by decide +kernel
theorem dw_1120 : decode code 1120 = .ok (.aload_n 0, 1) := by decide +kernel
theorem dw_1121 : decode code 1121 = .ok (.iload_n 3, 1) := by decide +kernel
theorem dw_1122 : decode code 1122 = .ok (.iconst 3, 1) := by decide +kernel
theorem dw_1123 : decode code 1123 = .ok (.iadd, 1) := by decide +kernel
theorem dw_1124 : decode code 1124 = .ok (.iaload, 1) := by decide +kernel
theorem dw_1125 : decode code 1125 = .ok (.invokevirtual 142, 3) := by decide +kernel
theorem dw_1128 : decode code 1128 = .ok (.aload_n 2, 1) := by decide +kernel
theorem dw_1129 : decode code 1129 = .ok (.aload_n 0, 1) := by decide +kernel
theorem dw_1130 : decode code 1130 = .ok (.iload_n 3, 1) := by decide +kernel
theorem dw_1131 : decode code 1131 = .ok (.iconst 1, 1) := by decide +kernel
theorem dw_1132 : decode code 1132 = .ok (.iadd, 1) := by decide +kernel
theorem dw_1133 : decode code 1133 = .ok (.iaload, 1) := by decide +kernel
theorem dw_1134 : decode code 1134 = .ok (.aload_n 0, 1) := by decide +kernel
theorem dw_1135 : decode code 1135 = .ok (.iload_n 3, 1) := by decide +kernel
theorem dw_1136 : decode code 1136 = .ok (.iconst 2, 1) := by decide +kernel
theorem dw_1137 : decode code 1137 = .ok (.iadd, 1) := by decide +kernel
theorem dw_1138 : decode code 1138 = .ok (.iaload, 1) := by decide +kernel
theorem dw_1139 : decode code 1139 = .ok (.aload_n 0, 1) := by decide +kernel
theorem dw_1140 : decode code 1140 = .ok (.iload_n 3, 1) := by decide +kernel
theorem dw_1141 : decode code 1141 = .ok (.iconst 3, 1) := by decide +kernel
theorem dw_1142 : decode code 1142 = .ok (.iadd, 1) := by decide +kernel
theorem dw_1143 : decode code 1143 = .ok (.iaload, 1) := by decide +kernel
theorem dw_1144 : decode code 1144 = .ok (.invokevirtual 145, 3) := by decide +kernel
theorem dw_1147 : decode code 1147 = .ok (.if_icmp .eq 231, 3) := by decide +kernel
theorem dw_1150 : decode code 1150 = .ok (.iconst 0, 1) := by decide +kernel
theorem dw_1151 : decode code 1151 = .ok (.ireturn, 1) := by decide +kernel
theorem dw_1152 : decode code 1152 = .ok (.aload_n 1, 1) := by decide +kernel
theorem dw_1153 : decode code 1153 = .ok (.aload_n 0, 1) := by decide +kernel
theorem dw_1154 : decode code 1154 = .ok (.iload_n 3, 1) := by decide +kernel
theorem dw_1155 : decode code 1155 = .ok (.iconst 1, 1) := by decide +kernel
theorem dw_1156 : decode code 1156 = .ok (.iadd, 1) := by decide +kernel
theorem dw_1157 : decode code 1157 = .ok (.iaload, 1) := by decide +kernel
theorem dw_1158 : decode code 1158 = .ok (.aload_n 0, 1) := by decide +kernel
theorem dw_1159 : decode code 1159 = .ok (.iload_n 3, 1) := by decide +kernel
theorem dw_1160 : decode code 1160 = .ok (.iconst 2, 1) := by decide +kernel
theorem dw_1161 : decode code 1161 = .ok (.iadd, 1) := by decide +kernel
theorem dw_1162 : decode code 1162 = .ok (.iaload, 1) := by decide +kernel
theorem dw_1163 : decode code 1163 = .ok (.aload_n 0, 1) := by decide +kernel
theorem dw_1164 : decode code 1164 = .ok (.iload_n 3, 1) := by decide +kernel
theorem dw_1165 : decode code 1165 = .ok (.iconst 3, 1) := by decide +kernel
theorem dw_1166 : decode code 1166 = .ok (.iadd, 1) := by decide +kernel
theorem dw_1167 : decode code 1167 = .ok (.iaload, 1) := by decide +kernel
theorem dw_1168 : decode code 1168 = .ok (.i2l, 1) := by decide +kernel
theorem dw_1169 : decode code 1169 = .ok (.bipush 32, 2) := by decide +kernel
theorem dw_1171 : decode code 1171 = .ok (.lshl, 1) := by decide +kernel
theorem dw_1172 : decode code 1172 = .ok (.aload_n 0, 1) := by decide +kernel
theorem dw_1173 : decode code 1173 = .ok (.iload_n 3, 1) := by decide +kernel
theorem dw_1174 : decode code 1174 = .ok (.iconst 4, 1) := by decide +kernel
theorem dw_1175 : decode code 1175 = .ok (.iadd, 1) := by decide +kernel
theorem dw_1176 : decode code 1176 = .ok (.iaload, 1) := by decide +kernel
theorem dw_1177 : decode code 1177 = .ok (.i2l, 1) := by decide +kernel
theorem dw_1178 : decode code 1178 = .ok (.ldc2_w 146, 3) := by decide +kernel
theorem dw_1181 : decode code 1181 = .ok (.land, 1) := by decide +kernel
theorem dw_1182 : decode code 1182 = .ok (.lor, 1) := by decide +kernel
theorem dw_1183 : decode code 1183 = .ok (.invokevirtual 148, 3) := by decide +kernel
theorem dw_1186 : decode code 1186 = .ok (.aload_n 2, 1) := by decide +kernel
theorem dw_1187 : decode code 1187 = .ok (.aload_n 0, 1) := by decide +kernel
theorem dw_1188 : decode code 1188 = .ok (.iload_n 3, 1) := by decide +kernel
theorem dw_1189 : decode code 1189 = .ok (.iconst 1, 1) := by decide +kernel
theorem dw_1190 : decode code 1190 = .ok (.iadd, 1) := by decide +kernel
theorem dw_1191 : decode code 1191 = .ok (.iaload, 1) := by decide +kernel
theorem dw_1192 : decode code 1192 = .ok (.aload_n 0, 1) := by decide +kernel
theorem dw_1193 : decode code 1193 = .ok (.iload_n 3, 1) := by decide +kernel
theorem dw_1194 : decode code 1194 = .ok (.iconst 2, 1) := by decide +kernel
theorem dw_1195 : decode code 1195 = .ok (.iadd, 1) := by decide +kernel
theorem dw_1196 : decode code 1196 = .ok (.iaload, 1) := by decide +kernel
theorem dw_1197 : decode code 1197 = .ok (.aload_n 0, 1) := by decide +kernel
theorem dw_1198 : decode code 1198 = .ok (.iload_n 3, 1) := by decide +kernel
theorem dw_1199 : decode code 1199 = .ok (.iconst 3, 1) := by decide +kernel
theorem dw_1200 : decode code 1200 = .ok (.iadd, 1) := by decide +kernel
theorem dw_1201 : decode code 1201 = .ok (.iaload, 1) := by decide +kernel
theorem dw_1202 : decode code 1202 = .ok (.i2l, 1) := by decide +kernel
theorem dw_1203 : decode code 1203 = .ok (.bipush 32, 2) := by decide +kernel
theorem dw_1205 : decode code 1205 = .ok (.lshl, 1) := by decide +kernel
theorem dw_1206 : decode code 1206 = .ok (.aload_n 0, 1) := by decide +kernel
theorem dw_1207 : decode code 1207 = .ok (.iload_n 3, 1) := by decide +kernel
theorem dw_1208 : decode code 1208 = .ok (.iconst 4, 1) := by decide +kernel
theorem dw_1209 : decode code 1209 = .ok (.iadd, 1) := by decide +kernel
theorem dw_1210 : decode code 1210 = .ok (.iaload, 1) := by decide +kernel
theorem dw_1211 : decode code 1211 = .ok (.i2l, 1) := by decide +kernel
theorem dw_1212 : decode code 1212 = .ok (.ldc2_w 146, 3) := by decide +kernel
theorem dw_1215 : decode code 1215 = .ok (.land, 1) := by decide +kernel
theorem dw_1216 : decode code 1216 = .ok (.lor, 1) := by decide +kernel
theorem dw_1217 : decode code 1217 = .ok (.invokevirtual 152, 3) := by decide +kernel
theorem dw_1220 : decode code 1220 = .ok (.if_icmp .eq 158, 3) := by decide +kernel
theorem dw_1223 : decode code 1223 = .ok (.iconst 0, 1) := by decide +kernel
theorem dw_1224 : decode code 1224 = .ok (.ireturn, 1) := by decide +kernel
theorem dw_1225 : decode code 1225 = .ok (.aload_n 1, 1) := by decide +kernel
theorem dw_1226 : decode code 1226 = .ok (.aload_n 0, 1) := by decide +kernel
theorem dw_1227 : decode code 1227 = .ok (.iload_n 3, 1) := by decide +kernel
theorem dw_1228 : decode code 1228 = .ok (.iconst 1, 1) := by decide +kernel
theorem dw_1229 : decode code 1229 = .ok (.iadd, 1) := by decide +kernel
theorem dw_1230 : decode code 1230 = .ok (.iaload, 1) := by decide +kernel
theorem dw_1231 : decode code 1231 = .ok (.aload_n 0, 1) := by decide +kernel
theorem dw_1232 : decode code 1232 = .ok (.iload_n 3, 1) := by decide +kernel
theorem dw_1233 : decode code 1233 = .ok (.iconst 2, 1) := by decide +kernel
theorem dw_1234 : decode code 1234 = .ok (.iadd, 1) := by decide +kernel
theorem dw_1235 : decode code 1235 = .ok (.iaload, 1) := by decide +kernel
theorem dw_1236 : decode code 1236 = .ok (.invokevirtual 153, 3) := by decide +kernel
theorem dw_1239 : decode code 1239 = .ok (.aload_n 2, 1) := by decide +kernel
theorem dw_1240 : decode code 1240 = .ok (.aload_n 0, 1) := by decide +kernel
theorem dw_1241 : decode code 1241 = .ok (.iload_n 3, 1) := by decide +kernel
theorem dw_1242 : decode code 1242 = .ok (.iconst 1, 1) := by decide +kernel
theorem dw_1243 : decode code 1243 = .ok (.iadd, 1) := by decide +kernel
theorem dw_1244 : decode code 1244 = .ok (.iaload, 1) := by decide +kernel
theorem dw_1245 : decode code 1245 = .ok (.aload_n 0, 1) := by decide +kernel
theorem dw_1246 : decode code 1246 = .ok (.iload_n 3, 1) := by decide +kernel
theorem dw_1247 : decode code 1247 = .ok (.iconst 2, 1) := by decide +kernel
theorem dw_1248 : decode code 1248 = .ok (.iadd, 1) := by decide +kernel
theorem dw_1249 : decode code 1249 = .ok (.iaload, 1) := by decide +kernel
theorem dw_1250 : decode code 1250 = .ok (.invokevirtual 157, 3) := by decide +kernel
theorem dw_1253 : decode code 1253 = .ok (.lcmp, 1) := by decide +kernel
theorem dw_1254 : decode code 1254 = .ok (.ifCond .eq 124, 3) := by decide +kernel
theorem dw_1257 : decode code 1257 = .ok (.iconst 0, 1) := by decide +kernel
theorem dw_1258 : decode code 1258 = .ok (.ireturn, 1) := by decide +kernel
theorem dw_1259 : decode code 1259 = .ok (.aload_n 1, 1) := by decide +kernel
theorem dw_1260 : decode code 1260 = .ok (.aload_n 0, 1) := by decide +kernel
theorem dw_1261 : decode code 1261 = .ok (.iload_n 3, 1) := by decide +kernel
theorem dw_1262 : decode code 1262 = .ok (.iconst 1, 1) := by decide +kernel
theorem dw_1263 : decode code 1263 = .ok (.iadd, 1) := by decide +kernel
theorem dw_1264 : decode code 1264 = .ok (.iaload, 1) := by decide +kernel
theorem dw_1265 : decode code 1265 = .ok (.aload_n 0, 1) := by decide +kernel
theorem dw_1266 : decode code 1266 = .ok (.iload_n 3, 1) := by decide +kernel
theorem dw_1267 : decode code 1267 = .ok (.iconst 2, 1) := by decide +kernel
theorem dw_1268 : decode code 1268 = .ok (.iadd, 1) := by decide +kernel
theorem dw_1269 : decode code 1269 = .ok (.iaload, 1) := by decide +kernel
theorem dw_1270 : decode code 1270 = .ok (.aload_n 0, 1) := by decide +kernel
theorem dw_1271 : decode code 1271 = .ok (.iload_n 3, 1) := by decide +kernel
theorem dw_1272 : decode code 1272 = .ok (.iconst 3, 1) := by decide +kernel
theorem dw_1273 : decode code 1273 = .ok (.iadd, 1) := by decide +kernel
theorem dw_1274 : decode code 1274 = .ok (.iaload, 1) := by decide +kernel
theorem dw_1275 : decode code 1275 = .ok (.aload_n 0, 1) := by decide +kernel
theorem dw_1276 : decode code 1276 = .ok (.iload_n 3, 1) := by decide +kernel
theorem dw_1277 : decode code 1277 = .ok (.iconst 4, 1) := by decide +kernel
theorem dw_1278 : decode code 1278 = .ok (.iadd, 1) := by decide +kernel
theorem dw_1279 : decode code 1279 = .ok (.iaload, 1) := by decide +kernel
theorem dw_1280 : decode code 1280 = .ok (.aload_n 0, 1) := by decide +kernel
theorem dw_1281 : decode code 1281 = .ok (.iload_n 3, 1) := by decide +kernel
theorem dw_1282 : decode code 1282 = .ok (.iconst 5, 1) := by decide +kernel
theorem dw_1283 : decode code 1283 = .ok (.iadd, 1) := by decide +kernel
theorem dw_1284 : decode code 1284 = .ok (.iaload, 1) := by decide +kernel
theorem dw_1285 : decode code 1285 = .ok (.invokevirtual 158, 3) := by decide +kernel
theorem dw_1288 : decode code 1288 = .ok (.aload_n 2, 1) := by decide +kernel
theorem dw_1289 : decode code 1289 = .ok (.aload_n 0, 1) := by decide +kernel
theorem dw_1290 : decode code 1290 = .ok (.iload_n 3, 1) := by decide +kernel
theorem dw_1291 : decode code 1291 = .ok (.iconst 1, 1) := by decide +kernel
theorem dw_1292 : decode code 1292 = .ok (.iadd, 1) := by decide +kernel
theorem dw_1293 : decode code 1293 = .ok (.iaload, 1) := by decide +kernel
theorem dw_1294 : decode code 1294 = .ok (.aload_n 0, 1) := by decide +kernel
theorem dw_1295 : decode code 1295 = .ok (.iload_n 3, 1) := by decide +kernel
theorem dw_1296 : decode code 1296 = .ok (.iconst 2, 1) := by decide +kernel
theorem dw_1297 : decode code 1297 = .ok (.iadd, 1) := by decide +kernel
theorem dw_1298 : decode code 1298 = .ok (.iaload, 1) := by decide +kernel
theorem dw_1299 : decode code 1299 = .ok (.aload_n 0, 1) := by decide +kernel
theorem dw_1300 : decode code 1300 = .ok (.iload_n 3, 1) := by decide +kernel
theorem dw_1301 : decode code 1301 = .ok (.iconst 3, 1) := by decide +kernel
theorem dw_1302 : decode code 1302 = .ok (.iadd, 1) := by decide +kernel
theorem dw_1303 : decode code 1303 = .ok (.iaload, 1) := by decide +kernel
theorem dw_1304 : decode code 1304 = .ok (.aload_n 0, 1) := by decide +kernel
theorem dw_1305 : decode code 1305 = .ok (.iload_n 3, 1) := by decide +kernel
theorem dw_1306 : decode code 1306 = .ok (.iconst 4, 1) := by decide +kernel
theorem dw_1307 : decode code 1307 = .ok (.iadd, 1) := by decide +kernel
theorem dw_1308 : decode code 1308 = .ok (.iaload, 1) := by decide +kernel
theorem dw_1309 : decode code 1309 = .ok (.aload_n 0, 1) := by decide +kernel
theorem dw_1310 : decode code 1310 = .ok (.iload_n 3, 1) := by decide +kernel
theorem dw_1311 : decode code 1311 = .ok (.iconst 5, 1) := by decide +kernel
theorem dw_1312 : decode code 1312 = .ok (.iadd, 1) := by decide +kernel
theorem dw_1313 : decode code 1313 = .ok (.iaload, 1) := by decide +kernel
theorem dw_1314 : decode code 1314 = .ok (.invokevirtual 162, 3) := by decide +kernel
theorem dw_1317 : decode code 1317 = .ok (.if_icmp .eq 61, 3) := by decide +kernel
theorem dw_1320 : decode code 1320 = .ok (.iconst 0, 1) := by decide +kernel
theorem dw_1321 : decode code 1321 = .ok (.ireturn, 1) := by decide +kernel
theorem dw_1322 : decode code 1322 = .ok (.aload_n 1, 1) := by decide +kernel
theorem dw_1323 : decode code 1323 = .ok (.aload_n 0, 1) := by decide +kernel
theorem dw_1324 : decode code 1324 = .ok (.iload_n 3, 1) := by decide +kernel
theorem dw_1325 : decode code 1325 = .ok (.iconst 1, 1) := by decide +kernel
theorem dw_1326 : decode code 1326 = .ok (.iadd, 1) := by decide +kernel
theorem dw_1327 : decode code 1327 = .ok (.iaload, 1) := by decide +kernel
theorem dw_1328 : decode code 1328 = .ok (.aload_n 0, 1) := by decide +kernel
theorem dw_1329 : decode code 1329 = .ok (.iload_n 3, 1) := by decide +kernel
theorem dw_1330 : decode code 1330 = .ok (.iconst 2, 1) := by decide +kernel
theorem dw_1331 : decode code 1331 = .ok (.iadd, 1) := by decide +kernel
theorem dw_1332 : decode code 1332 = .ok (.iaload, 1) := by decide +kernel
theorem dw_1333 : decode code 1333 = .ok (.invokevirtual 163, 3) := by decide +kernel
theorem dw_1336 : decode code 1336 = .ok (.aload_n 2, 1) := by decide +kernel
theorem dw_1337 : decode code 1337 = .ok (.aload_n 0, 1) := by decide +kernel
theorem dw_1338 : decode code 1338 = .ok (.iload_n 3, 1) := by decide +kernel
theorem dw_1339 : decode code 1339 = .ok (.iconst 1, 1) := by decide +kernel
theorem dw_1340 : decode code 1340 = .ok (.iadd, 1) := by decide +kernel
theorem dw_1341 : decode code 1341 = .ok (.iaload, 1) := by decide +kernel
theorem dw_1342 : decode code 1342 = .ok (.aload_n 0, 1) := by decide +kernel
theorem dw_1343 : decode code 1343 = .ok (.iload_n 3, 1) := by decide +kernel
theorem dw_1344 : decode code 1344 = .ok (.iconst 2, 1) := by decide +kernel
theorem dw_1345 : decode code 1345 = .ok (.iadd, 1) := by decide +kernel
theorem dw_1346 : decode code 1346 = .ok (.iaload, 1) := by decide +kernel
theorem dw_1347 : decode code 1347 = .ok (.invokevirtual 166, 3) := by decide +kernel
theorem dw_1350 : decode code 1350 = .ok (.if_icmp .eq 28, 3) := by decide +kernel
theorem dw_1353 : decode code 1353 = .ok (.iconst 0, 1) := by decide +kernel
theorem dw_1354 : decode code 1354 = .ok (.ireturn, 1) := by decide +kernel
theorem dw_1355 : decode code 1355 = .ok (.aload_n 1, 1) := by decide +kernel
theorem dw_1356 : decode code 1356 = .ok (.aload_n 0, 1) := by decide +kernel
theorem dw_1357 : decode code 1357 = .ok (.iload_n 3, 1) := by decide +kernel
theorem dw_1358 : decode code 1358 = .ok (.iconst 1, 1) := by decide +kernel
theorem dw_1359 : decode code 1359 = .ok (.iadd, 1) := by decide +kernel
theorem dw_1360 : decode code 1360 = .ok (.iaload, 1) := by decide +kernel
theorem dw_1361 : decode code 1361 = .ok (.invokevirtual 167, 3) := by decide +kernel
theorem dw_1364 : decode code 1364 = .ok (.aload_n 2, 1) := by decide +kernel
theorem dw_1365 : decode code 1365 = .ok (.aload_n 0, 1) := by decide +kernel
theorem dw_1366 : decode code 1366 = .ok (.iload_n 3, 1) := by decide +kernel
theorem dw_1367 : decode code 1367 = .ok (.iconst 1, 1) := by decide +kernel
theorem dw_1368 : decode code 1368 = .ok (.iadd, 1) := by decide +kernel
theorem dw_1369 : decode code 1369 = .ok (.iaload, 1) := by decide +kernel
theorem dw_1370 : decode code 1370 = .ok (.invokevirtual 170, 3) := by decide +kernel
theorem dw_1373 : decode code 1373 = .ok (.if_icmp .eq 5, 3) := by decide +kernel
theorem dw_1376 : decode code 1376 = .ok (.iconst 0, 1) := by decide +kernel
theorem dw_1377 : decode code 1377 = .ok (.ireturn, 1) := by decide +kernel
theorem dw_1378 : decode code 1378 = .ok (.iinc 3 6, 3) := by decide +kernel
theorem dw_1381 : decode code 1381 = .ok (.goto (-1363), 3) := by decide +kernel
theorem dw_1384 : decode code 1384 = .ok (.iconst 1, 1) := by decide +kernel
theorem dw_1385 : decode code 1385 = .ok (.ireturn, 1) := by decide +kernel
