theorem dL_law_2148 : decode cL_law 2148 = .ok (.iload 5, 2) := by decide +kernel
theorem dL_law_2150 : decode cL_law 2150 = .ok (.iconst 2, 1) := by decide +kernel
theorem dL_law_2151 : decode cL_law 2151 = .ok (.iadd, 1) := by decide +kernel
theorem dL_law_2152 : decode cL_law 2152 = .ok (.iaload, 1) := by decide +kernel
theorem dL_law_2153 : decode cL_law 2153 = .ok (.aload_n 3, 1) := by decide +kernel
theorem dL_law_2154 : decode cL_law 2154 = .ok (.invokestatic 280, 3) := by decide +kernel
theorem dL_law_2157 : decode cL_law 2157 = .ok (.istore 6, 2) := by decide +kernel
theorem dL_law_2159 : decode cL_law 2159 = .ok (.aload_n 2, 1) := by decide +kernel
theorem dL_law_2160 : decode cL_law 2160 = .ok (.aload_n 0, 1) := by decide +kernel
theorem dL_law_2161 : decode cL_law 2161 = .ok (.iload 5, 2) := by decide +kernel
theorem dL_law_2163 : decode cL_law 2163 = .ok (.iconst 1, 1) := by decide +kernel
theorem dL_law_2164 : decode cL_law 2164 = .ok (.iadd, 1) := by decide +kernel
theorem dL_law_2165 : decode cL_law 2165 = .ok (.iaload, 1) := by decide +kernel
theorem dL_law_2166 : decode cL_law 2166 = .ok (.aload_n 0, 1) := by decide +kernel
theorem dL_law_2167 : decode cL_law 2167 = .ok (.iload 5, 2) := by decide +kernel
theorem dL_law_2169 : decode cL_law 2169 = .ok (.iconst 2, 1) := by decide +kernel
theorem dL_law_2170 : decode cL_law 2170 = .ok (.iadd, 1) := by decide +kernel
theorem dL_law_2171 : decode cL_law 2171 = .ok (.iaload, 1) := by decide +kernel
theorem dL_law_2172 : decode cL_law 2172 = .ok (.invokevirtual 282, 3) := by decide +kernel
theorem dL_law_2175 : decode cL_law 2175 = .ok (.istore 7, 2) := by decide +kernel
theorem dL_law_2177 : decode cL_law 2177 = .ok (.aload_n 2, 1) := by decide +kernel
theorem dL_law_2178 : decode cL_law 2178 = .ok (.invokevirtual 198, 3) := by decide +kernel
theorem dL_law_2181 : decode cL_law 2181 = .ok (.iload 6, 2) := by decide +kernel
theorem dL_law_2183 : decode cL_law 2183 = .ok (.if_icmp .eq 5, 3) := by decide +kernel
theorem dL_law_2186 : decode cL_law 2186 = .ok (.iconst 0, 1) := by decide +kernel
theorem dL_law_2187 : decode cL_law 2187 = .ok (.ireturn, 1) := by decide +kernel
theorem dL_law_2188 : decode cL_law 2188 = .ok (.iload 6, 2) := by decide +kernel
theorem dL_law_2190 : decode cL_law 2190 = .ok (.ifCond .ne 15, 3) := by decide +kernel
theorem dL_law_2193 : decode cL_law 2193 = .ok (.aload_n 3, 1) := by decide +kernel
theorem dL_law_2194 : decode cL_law 2194 = .ok (.iconst 0, 1) := by decide +kernel
theorem dL_law_2195 : decode cL_law 2195 = .ok (.laload, 1) := by decide +kernel
theorem dL_law_2196 : decode cL_law 2196 = .ok (.iload 7, 2) := by decide +kernel
theorem dL_law_2198 : decode cL_law 2198 = .ok (.i2l, 1) := by decide +kernel
theorem dL_law_2199 : decode cL_law 2199 = .ok (.lcmp, 1) := by decide +kernel
theorem dL_law_2200 : decode cL_law 2200 = .ok (.ifCond .eq 5, 3) := by decide +kernel
theorem dL_law_2203 : decode cL_law 2203 = .ok (.iconst 0, 1) := by decide +kernel
theorem dL_law_2204 : decode cL_law 2204 = .ok (.ireturn, 1) := by decide +kernel
theorem dL_law_2205 : decode cL_law 2205 = .ok (.goto 1876, 3) := by decide +kernel
theorem dL_law_2208 : decode cL_law 2208 = .ok (.aload_n 1, 1) := by decide +kernel
theorem dL_law_2209 : decode cL_law 2209 = .ok (.aload_n 0, 1) := by decide +kernel
theorem dL_law_2210 : decode cL_law 2210 = .ok (.iload 5, 2) := by decide +kernel
theorem dL_law_2212 : decode cL_law 2212 = .ok (.iconst 1, 1) := by decide +kernel
theorem dL_law_2213 : decode cL_law 2213 = .ok (.iadd, 1) := by decide +kernel
theorem dL_law_2214 : decode cL_law 2214 = .ok (.iaload, 1) := by decide +kernel
theorem dL_law_2215 : decode cL_law 2215 = .ok (.aload_n 3, 1) := by decide +kernel
theorem dL_law_2216 : decode cL_law 2216 = .ok (.invokestatic 283, 3) := by decide +kernel
theorem dL_law_2219 : decode cL_law 2219 = .ok (.istore 6, 2) := by decide +kernel
theorem dL_law_2221 : decode cL_law 2221 = .ok (.aload_n 2, 1) := by decide +kernel
theorem dL_law_2222 : decode cL_law 2222 = .ok (.aload_n 0, 1) := by decide +kernel
theorem dL_law_2223 : decode cL_law 2223 = .ok (.iload 5, 2) := by decide +kernel
theorem dL_law_2225 : decode cL_law 2225 = .ok (.iconst 1, 1) := by decide +kernel
theorem dL_law_2226 : decode cL_law 2226 = .ok (.iadd, 1) := by decide +kernel
theorem dL_law_2227 : decode cL_law 2227 = .ok (.iaload, 1) := by decide +kernel
theorem dL_law_2228 : decode cL_law 2228 = .ok (.invokevirtual 285, 3) := by decide +kernel
theorem dL_law_2231 : decode cL_law 2231 = .ok (.istore 7, 2) := by decide +kernel
theorem dL_law_2233 : decode cL_law 2233 = .ok (.aload_n 2, 1) := by decide +kernel
theorem dL_law_2234 : decode cL_law 2234 = .ok (.invokevirtual 198, 3) := by decide +kernel
theorem dL_law_2237 : decode cL_law 2237 = .ok (.iload 6, 2) := by decide +kernel
theorem dL_law_2239 : decode cL_law 2239 = .ok (.if_icmp .eq 5, 3) := by decide +kernel
theorem dL_law_2242 : decode cL_law 2242 = .ok (.iconst 0, 1) := by decide +kernel
theorem dL_law_2243 : decode cL_law 2243 = .ok (.ireturn, 1) := by decide +kernel
theorem dL_law_2244 : decode cL_law 2244 = .ok (.iload 6, 2) := by decide +kernel
theorem dL_law_2246 : decode cL_law 2246 = .ok (.ifCond .ne 15, 3) := by decide +kernel
theorem dL_law_2249 : decode cL_law 2249 = .ok (.aload_n 3, 1) := by decide +kernel
theorem dL_law_2250 : decode cL_law 2250 = .ok (.iconst 0, 1) := by decide +kernel
theorem dL_law_2251 : decode cL_law 2251 = .ok (.laload, 1) := by decide +kernel
theorem dL_law_2252 : decode cL_law 2252 = .ok (.iload 7, 2) := by decide +kernel
theorem dL_law_2254 : decode cL_law 2254 = .ok (.i2l, 1) := by decide +kernel
theorem dL_law_2255 : decode cL_law 2255 = .ok (.lcmp, 1) := by decide +kernel
theorem dL_law_2256 : decode cL_law 2256 = .ok (.ifCond .eq 5, 3) := by decide +kernel
theorem dL_law_2259 : decode cL_law 2259 = .ok (.iconst 0, 1) := by decide +kernel
theorem dL_law_2260 : decode cL_law 2260 = .ok (.ireturn, 1) := by decide +kernel
theorem dL_law_2261 : decode cL_law 2261 = .ok (.goto 1820, 3) := by decide +kernel
theorem dL_law_2264 : decode cL_law 2264 = .ok (.aload_n 1, 1) := by decide +kernel
theorem dL_law_2265 : decode cL_law 2265 = .ok (.aload_n 0, 1) := by decide +kernel
theorem dL_law_2266 : decode cL_law 2266 = .ok (.iload 5, 2) := by decide +kernel
theorem dL_law_2268 : decode cL_law 2268 = .ok (.iconst 1, 1) := by decide +kernel
theorem dL_law_2269 : decode cL_law 2269 = .ok (.iadd, 1) := by decide +kernel
theorem dL_law_2270 : decode cL_law 2270 = .ok (.iaload, 1) := by decide +kernel
theorem dL_law_2271 : decode cL_law 2271 = .ok (.aload_n 3, 1) := by decide +kernel
theorem dL_law_2272 : decode cL_law 2272 = .ok (.invokestatic 286, 3) := by decide +kernel
theorem dL_law_2275 : decode cL_law 2275 = .ok (.istore 6, 2) := by decide +kernel
theorem dL_law_2277 : decode cL_law 2277 = .ok (.aload_n 2, 1) := by decide +kernel
theorem dL_law_2278 : decode cL_law 2278 = .ok (.aload_n 0, 1) := by decide +kernel
theorem dL_law_2279 : decode cL_law 2279 = .ok (.iload 5, 2) := by decide +kernel
theorem dL_law_2281 : decode cL_law 2281 = .ok (.iconst 1, 1) := by decide +kernel
theorem dL_law_2282 : decode cL_law 2282 = .ok (.iadd, 1) := by decide +kernel
theorem dL_law_2283 : decode cL_law 2283 = .ok (.iaload, 1) := by decide +kernel
theorem dL_law_2284 : decode cL_law 2284 = .ok (.invokevirtual 288, 3) := by decide +kernel
theorem dL_law_2287 : decode cL_law 2287 = .ok (.istore 7, 2) := by decide +kernel
theorem dL_law_2289 : decode cL_law 2289 = .ok (.aload_n 2, 1) := by decide +kernel
theorem dL_law_2290 : decode cL_law 2290 = .ok (.invokevirtual 198, 3) := by decide +kernel
theorem dL_law_2293 : decode cL_law 2293 = .ok (.iload 6, 2) := by decide +kernel
theorem dL_law_2295 : decode cL_law 2295 = .ok (.if_icmp .eq 5, 3) := by decide +kernel
theorem dL_law_2298 : decode cL_law 2298 = .ok (.iconst 0, 1) := by decide +kernel
theorem dL_law_2299 : decode cL_law 2299 = .ok (.ireturn, 1) := by decide +kernel
theorem dL_law_2300 : decode cL_law 2300 = .ok (.iload 6, 2) := by decide +kernel
theorem dL_law_2302 : decode cL_law 2302 = .ok (.ifCond .ne 15, 3) := by decide +kernel
theorem dL_law_2305 : decode cL_law 2305 = .ok (.aload_n 3, 1) := by decide +kernel
theorem dL_law_2306 : decode cL_law 2306 = .ok (.iconst 0, 1) := by decide +kernel
theorem dL_law_2307 : decode cL_law 2307 = .ok (.laload, 1) := by decide +kernel
theorem dL_law_2308 : decode cL_law 2308 = .ok (.iload 7, 2) := by decide +kernel
theorem dL_law_2310 : decode cL_law 2310 = .ok (.i2l, 1) := by decide +kernel
theorem dL_law_2311 : decode cL_law 2311 = .ok (.lcmp, 1) := by decide +kernel
theorem dL_law_2312 : decode cL_law 2312 = .ok (.ifCond .eq 5, 3) := by decide +kernel
theorem dL_law_2315 : decode cL_law 2315 = .ok (.iconst 0, 1) := by decide +kernel
theorem dL_law_2316 : decode cL_law 2316 = .ok (.ireturn, 1) := by decide +kernel
theorem dL_law_2317 : decode cL_law 2317 = .ok (.goto 1764, 3) := by decide +kernel
theorem dL_law_2320 : decode cL_law 2320 = .ok (.aload_n 1, 1) := by decide +kernel
theorem dL_law_2321 : decode cL_law 2321 = .ok (.aload_n 0, 1) := by decide +kernel
theorem dL_law_2322 : decode cL_law 2322 = .ok (.iload 5, 2) := by decide +kernel
theorem dL_law_2324 : decode cL_law 2324 = .ok (.iconst 1, 1) := by decide +kernel
theorem dL_law_2325 : decode cL_law 2325 = .ok (.iadd, 1) := by decide +kernel
theorem dL_law_2326 : decode cL_law 2326 = .ok (.iaload, 1) := by decide +kernel
theorem dL_law_2327 : decode cL_law 2327 = .ok (.aload_n 3, 1) := by decide +kernel
theorem dL_law_2328 : decode cL_law 2328 = .ok (.invokestatic 289, 3) := by decide +kernel
theorem dL_law_2331 : decode cL_law 2331 = .ok (.istore 6, 2) := by decide +kernel
theorem dL_law_2333 : decode cL_law 2333 = .ok (.aload_n 2, 1) := by decide +kernel
theorem dL_law_2334 : decode cL_law 2334 = .ok (.aload_n 0, 1) := by decide +kernel
theorem dL_law_2335 : decode cL_law 2335 = .ok (.iload 5, 2) := by decide +kernel
theorem dL_law_2337 : decode cL_law 2337 = .ok (.iconst 1, 1) := by decide +kernel
theorem dL_law_2338 : decode cL_law 2338 = .ok (.iadd, 1) := by decide +kernel
theorem dL_law_2339 : decode cL_law 2339 = .ok (.iaload, 1) := by decide +kernel
theorem dL_law_2340 : decode cL_law 2340 = .ok (.invokevirtual 291, 3) := by decide +kernel
theorem dL_law_2343 : decode cL_law 2343 = .ok (.istore 7, 2) := by decide +kernel
theorem dL_law_2345 : decode cL_law 2345 = .ok (.aload_n 2, 1) := by decide +kernel
theorem dL_law_2346 : decode cL_law 2346 = .ok (.invokevirtual 198, 3) := by decide +kernel
theorem dL_law_2349 : decode cL_law 2349 = .ok (.iload 6, 2) := by decide +kernel
theorem dL_law_2351 : decode cL_law 2351 = .ok (.if_icmp .eq 5, 3) := by decide +kernel
theorem dL_law_2354 : decode cL_law 2354 = .ok (.iconst 0, 1) := by decide +kernel
theorem dL_law_2355 : decode cL_law 2355 = .ok (.ireturn, 1) := by decide +kernel
theorem dL_law_2356 : decode cL_law 2356 = .ok (.iload 6, 2) := by decide +kernel
theorem dL_law_2358 : decode cL_law 2358 = .ok (.ifCond .ne 15, 3) := by decide +kernel
theorem dL_law_2361 : decode cL_law 2361 = .ok (.aload_n 3, 1) := by decide +kernel
theorem dL_law_2362 : decode cL_law 2362 = .ok (.iconst 0, 1) := by decide +kernel
theorem dL_law_2363 : decode cL_law 2363 = .ok (.laload, 1) := by decide +kernel
theorem dL_law_2364 : decode cL_law 2364 = .ok (.iload 7, 2) := by decide +kernel
theorem dL_law_2366 : decode cL_law 2366 = .ok (.i2l, 1) := by decide +kernel
theorem dL_law_2367 : decode cL_law 2367 = .ok (.lcmp, 1) := by decide +kernel
theorem dL_law_2368 : decode cL_law 2368 = .ok (.ifCond .eq 5, 3) := by decide +kernel
theorem dL_law_2371 : decode cL_law 2371 = .ok (.iconst 0, 1) := by decide +kernel
theorem dL_law_2372 : decode cL_law 2372 = .ok (.ireturn, 1) := by decide +kernel
theorem dL_law_2373 : decode cL_law 2373 = .ok (.goto 1708, 3) := by decide +kernel
theorem dL_law_2376 : decode cL_law 2376 = .ok (.aload_n 1, 1) := by decide +kernel
theorem dL_law_2377 : decode cL_law 2377 = .ok (.aload_n 0, 1) := by decide +kernel
theorem dL_law_2378 : decode cL_law 2378 = .ok (.iload 5, 2) := by decide +kernel
theorem dL_law_2380 : decode cL_law 2380 = .ok (.iconst 1, 1) := by decide +kernel
theorem dL_law_2381 : decode cL_law 2381 = .ok (.iadd, 1) := by decide +kernel
theorem dL_law_2382 : decode cL_law 2382 = .ok (.iaload, 1) := by decide +kernel
theorem dL_law_2383 : decode cL_law 2383 = .ok (.aload_n 3, 1) := by decide +kernel
theorem dL_law_2384 : decode cL_law 2384 = .ok (.invokestatic 292, 3) := by decide +kernel
theorem dL_law_2387 : decode cL_law 2387 = .ok (.istore 6, 2) := by decide +kernel
theorem dL_law_2389 : decode cL_law 2389 = .ok (.aload_n 2, 1) := by decide +kernel
theorem dL_law_2390 : decode cL_law 2390 = .ok (.aload_n 0, 1) := by decide +kernel
theorem dL_law_2391 : decode cL_law 2391 = .ok (.iload 5, 2) := by decide +kernel
theorem dL_law_2393 : decode cL_law 2393 = .ok (.iconst 1, 1) := by decide +kernel
theorem dL_law_2394 : decode cL_law 2394 = .ok (.iadd, 1) := by decide +kernel
theorem dL_law_2395 : decode cL_law 2395 = .ok (.iaload, 1) := by decide +kernel
theorem dL_law_2396 : decode cL_law 2396 = .ok (.invokevirtual 294, 3) := by decide +kernel
theorem dL_law_2399 : decode cL_law 2399 = .ok (.istore 7, 2) := by decide +kernel
theorem dL_law_2401 : decode cL_law 2401 = .ok (.aload_n 2, 1) := by decide +kernel
theorem dL_law_2402 : decode cL_law 2402 = .ok (.invokevirtual 198, 3) := by decide +kernel
theorem dL_law_2405 : decode cL_law 2405 = .ok (.iload 6, 2) := by decide +kernel
theorem dL_law_2407 : decode cL_law 2407 = .ok (.if_icmp .eq 5, 3) := by decide +kernel
theorem dL_law_2410 : decode cL_law 2410 = .ok (.iconst 0, 1) := by decide +kernel
theorem dL_law_2411 : decode cL_law 2411 = .ok (.ireturn, 1) := by decide +kernel
theorem dL_law_2412 : decode cL_law 2412 = .ok (.iload 6, 2) := by decide +kernel
theorem dL_law_2414 : decode cL_law 2414 = .ok (.ifCond .ne 15, 3) := by decide +kernel
theorem dL_law_2417 : decode cL_law 2417 = .ok (.aload_n 3, 1) := by decide +kernel
theorem dL_law_2418 : decode cL_law 2418 = .ok (.iconst 0, 1) := by decide +kernel
theorem dL_law_2419 : decode cL_law 2419 = .ok (.laload, 1) := by decide +kernel
theorem dL_law_2420 : decode cL_law 2420 = .ok (.iload 7, 2) := by decide +kernel
theorem dL_law_2422 : decode cL_law 2422 = .ok (.i2l, 1) := by decide +kernel
theorem dL_law_2423 : decode cL_law 2423 = .ok (.lcmp, 1) := by decide +kernel
theorem dL_law_2424 : decode cL_law 2424 = .ok (.ifCond .eq 5, 3) := by decide +kernel
theorem dL_law_2427 : decode cL_law 2427 = .ok (.iconst 0, 1) := by decide +kernel
theorem dL_law_2428 : decode cL_law 2428 = .ok (.ireturn, 1) := by decide +kernel
theorem dL_law_2429 : decode cL_law 2429 = .ok (.goto 1652, 3) := by decide +kernel
theorem dL_law_2432 : decode cL_law 2432 = .ok (.aload_n 1, 1) := by decide +kernel
theorem dL_law_2433 : decode cL_law 2433 = .ok (.aload_n 0, 1) := by decide +kernel
theorem dL_law_2434 : decode cL_law 2434 = .ok (.iload 5, 2) := by decide +kernel
theorem dL_law_2436 : decode cL_law 2436 = .ok (.iconst 1, 1) := by decide +kernel
theorem dL_law_2437 : decode cL_law 2437 = .ok (.iadd, 1) := by decide +kernel
theorem dL_law_2438 : decode cL_law 2438 = .ok (.iaload, 1) := by decide +kernel
theorem dL_law_2439 : decode cL_law 2439 = .ok (.aload_n 3, 1) := by decide +kernel
theorem dL_law_2440 : decode cL_law 2440 = .ok (.invokestatic 295, 3) := by decide +kernel
theorem dL_law_2443 : decode cL_law 2443 = .ok (.istore 6, 2) := by decide +kernel
theorem dL_law_2445 : decode cL_law 2445 = .ok (.aload_n 2, 1) := by decide +kernel
theorem dL_law_2446 : decode cL_law 2446 = .ok (.aload_n 0, 1) := by decide +kernel
theorem dL_law_2447 : decode cL_law 2447 = .ok (.iload 5, 2) := by decide +kernel
theorem dL_law_2449 : decode cL_law 2449 = .ok (.iconst 1, 1) := by decide +kernel
theorem dL_law_2450 : decode cL_law 2450 = .ok (.iadd, 1) := by decide +kernel
theorem dL_law_2451 : decode cL_law 2451 = .ok (.iaload, 1) := by decide +kernel
theorem dL_law_2452 : decode cL_law 2452 = .ok (.invokevirtual 297, 3) := by decide +kernel
theorem dL_law_2455 : decode cL_law 2455 = .ok (.istore 7, 2) := by decide +kernel
theorem dL_law_2457 : decode cL_law 2457 = .ok (.aload_n 2, 1) := by decide +kernel
theorem dL_law_2458 : decode cL_law 2458 = .ok (.invokevirtual 198, 3) := by decide +kernel
theorem dL_law_2461 : decode cL_law 2461 = .ok (.iload 6, 2) := by decide +kernel
theorem dL_law_2463 : decode cL_law 2463 = .ok (.if_icmp .eq 5, 3) := by decide +kernel
theorem dL_law_2466 : decode cL_law 2466 = .ok (.iconst 0, 1) := by decide +kernel
theorem dL_law_2467 : decode cL_law 2467 = .ok (.ireturn, 1) := by decide +kernel
theorem dL_law_2468 : decode cL_law 2468 = .ok (.iload 6, 2) := by decide +kernel
theorem dL_law_2470 : decode cL_law 2470 = .ok (.ifCond .ne 15, 3) := by decide +kernel
theorem dL_law_2473 : decode cL_law 2473 = .ok (.aload_n 3, 1) := by decide +kernel
theorem dL_law_2474 : decode cL_law 2474 = .ok (.iconst 0, 1) := by decide +kernel
theorem dL_law_2475 : decode cL_law 2475 = .ok (.laload, 1) := by decide +kernel
theorem dL_law_2476 : decode cL_law 2476 = .ok (.iload 7, 2) := by decide +kernel
theorem dL_law_2478 : decode cL_law 2478 = .ok (.i2l, 1) := by decide +kernel
theorem dL_law_2479 : decode cL_law 2479 = .ok (.lcmp, 1) := by decide +kernel
theorem dL_law_2480 : decode cL_law 2480 = .ok (.ifCond .eq 5, 3) := by decide +kernel
theorem dL_law_2483 : decode cL_law 2483 = .ok (.iconst 0, 1) := by decide +kernel
theorem dL_law_2484 : decode cL_law 2484 = .ok (.ireturn, 1) := by decide +kernel
theorem dL_law_2485 : decode cL_law 2485 = .ok (.goto 1596, 3) := by decide +kernel
theorem dL_law_2488 : decode cL_law 2488 = .ok (.aload_n 1, 1) := by decide +kernel
theorem dL_law_2489 : decode cL_law 2489 = .ok (.aload_n 0, 1) := by decide +kernel
theorem dL_law_2490 : decode cL_law 2490 = .ok (.iload 5, 2) := by decide +kernel
theorem dL_law_2492 : decode cL_law 2492 = .ok (.iconst 1, 1) := by decide +kernel
theorem dL_law_2493 : decode cL_law 2493 = .ok (.iadd, 1) := by decide +kernel
theorem dL_law_2494 : decode cL_law 2494 = .ok (.iaload, 1) := by decide +kernel
theorem dL_law_2495 : decode cL_law 2495 = .ok (.aload_n 3, 1) := by decide +kernel
theorem dL_law_2496 : decode cL_law 2496 = .ok (.invokestatic 298, 3) := by decide +kernel
theorem dL_law_2499 : decode cL_law 2499 = .ok (.istore 6, 2) := by decide +kernel
theorem dL_law_2501 : decode cL_law 2501 = .ok (.aload_n 2, 1) := by decide +kernel
theorem dL_law_2502 : decode cL_law 2502 = .ok (.aload_n 0, 1) := by decide +kernel
theorem dL_law_2503 : decode cL_law 2503 = .ok (.iload 5, 2) := by decide +kernel
theorem dL_law_2505 : decode cL_law 2505 = .ok (.iconst 1, 1) := by decide +kernel
theorem dL_law_2506 : decode cL_law 2506 = .ok (.iadd, 1) := by decide +kernel
theorem dL_law_2507 : decode cL_law 2507 = .ok (.iaload, 1) := by decide +kernel
theorem dL_law_2508 : decode cL_law 2508 = .ok (.invokevirtual 300, 3) := by decide +kernel
theorem dL_law_2511 : decode cL_law 2511 = .ok (.istore 7, 2) := by decide +kernel
theorem dL_law_2513 : decode cL_law 2513 = .ok (.aload_n 2, 1) := by decide +kernel
theorem dL_law_2514 : decode cL_law 2514 = .ok (.invokevirtual 198, 3) := by decide +kernel
theorem dL_law_2517 : decode cL_law 2517 = .ok (.iload 6, 2) := by decide +kernel
theorem dL_law_2519 : decode cL_law 2519 = .ok (.if_icmp .eq 5, 3) := by decide +kernel
theorem dL_law_2522 : decode cL_law 2522 = .ok (.iconst 0, 1) := by decide +kernel
theorem dL_law_2523 : decode cL_law 2523 = .ok (.ireturn, 1) := by decide +kernel
theorem dL_law_2524 : decode cL_law 2524 = .ok (.iload 6, 2) := by decide +kernel
theorem dL_law_2526 : decode cL_law 2526 = .ok (.ifCond .ne 15, 3) := by decide +kernel
theorem dL_law_2529 : decode cL_law 2529 = .ok (.aload_n 3, 1) := by decide +kernel
theorem dL_law_2530 : decode cL_law 2530 = .ok (.iconst 0, 1) := by decide +kernel
theorem dL_law_2531 : decode cL_law 2531 = .ok (.laload, 1) := by decide +kernel
theorem dL_law_2532 : decode cL_law 2532 = .ok (.iload 7, 2) := by decide +kernel
theorem dL_law_2534 : decode cL_law 2534 = .ok (.i2l, 1) := by decide +kernel
theorem dL_law_2535 : decode cL_law 2535 = .ok (.lcmp, 1) := by decide +kernel
theorem dL_law_2536 : decode cL_law 2536 = .ok (.ifCond .eq 5, 3) := by decide +kernel
theorem dL_law_2539 : decode cL_law 2539 = .ok (.iconst 0, 1) := by decide +kernel
theorem dL_law_2540 : decode cL_law 2540 = .ok (.ireturn, 1) := by decide +kernel
theorem dL_law_2541 : decode cL_law 2541 = .ok (.goto 1540, 3) := by decide +kernel
theorem dL_law_2544 : decode cL_law 2544 = .ok (.aload_n 1, 1) := by decide +kernel
theorem dL_law_2545 : decode cL_law 2545 = .ok (.aload_n 0, 1) := by decide +kernel
theorem dL_law_2546 : decode cL_law 2546 = .ok (.iload 5, 2) := by decide +kernel
theorem dL_law_2548 : decode cL_law 2548 = .ok (.iconst 1, 1) := by decide +kernel
theorem dL_law_2549 : decode cL_law 2549 = .ok (.iadd, 1) := by decide +kernel
theorem dL_law_2550 : decode cL_law 2550 = .ok (.iaload, 1) := by decide +kernel
theorem dL_law_2551 : decode cL_law 2551 = .ok (.aload_n 0, 1) := by decide +kernel
theorem dL_law_2552 : decode cL_law 2552 = .ok (.iload 5, 2) := by decide +kernel
theorem dL_law_2554 : decode cL_law 2554 = .ok (.iconst 2, 1) := by decide +kernel
theorem dL_law_2555 : decode cL_law 2555 = .ok (.iadd, 1) := by decide +kernel
theorem dL_law_2556 : decode cL_law 2556 = .ok (.iaload, 1) := by decide +kernel
theorem dL_law_2557 : decode cL_law 2557 = .ok (.aload_n 3, 1) := by decide +kernel
theorem dL_law_2558 : decode cL_law 2558 = .ok (.invokestatic 301, 3) := by decide +kernel
theorem dL_law_2561 : decode cL_law 2561 = .ok (.istore 6, 2) := by decide +kernel
theorem dL_law_2563 : decode cL_law 2563 = .ok (.aload_n 2, 1) := by decide +kernel
theorem dL_law_2564 : decode cL_law 2564 = .ok (.aload_n 0, 1) := by decide +kernel
theorem dL_law_2565 : decode cL_law 2565 = .ok (.iload 5, 2) := by decide +kernel
theorem dL_law_2567 : decode cL_law 2567 = .ok (.iconst 1, 1) := by decide +kernel
theorem dL_law_2568 : decode cL_law 2568 = .ok (.iadd, 1) := by decide +kernel
theorem dL_law_2569 : decode cL_law 2569 = .ok (.iaload, 1) := by decide +kernel
theorem dL_law_2570 : decode cL_law 2570 = .ok (.aload_n 0, 1) := by decide +kernel
theorem dL_law_2571 : decode cL_law 2571 = .ok (.iload 5, 2) := by decide +kernel
theorem dL_law_2573 : decode cL_law 2573 = .ok (.iconst 2, 1) := by decide +kernel
theorem dL_law_2574 : decode cL_law 2574 = .ok (.iadd, 1) := by decide +kernel
theorem dL_law_2575 : decode cL_law 2575 = .ok (.iaload, 1) := by decide +kernel
theorem dL_law_2576 : decode cL_law 2576 = .ok (.invokevirtual 303, 3) := by decide +kernel
theorem dL_law_2579 : decode cL_law 2579 = .ok (.istore 7, 2) := by decide +kernel
theorem dL_law_2581 : decode cL_law 2581 = .ok (.aload_n 2, 1) := by decide +kernel
theorem dL_law_2582 : decode cL_law 2582 = .ok (.invokevirtual 198, 3) := by decide +kernel
theorem dL_law_2585 : decode cL_law 2585 = .ok (.iload 6, 2) := by decide +kernel
theorem dL_law_2587 : decode cL_law 2587 = .ok (.if_icmp .eq 5, 3) := by decide +kernel
theorem dL_law_2590 : decode cL_law 2590 = .ok (.iconst 0, 1) := by decide +kernel
theorem dL_law_2591 : decode cL_law 2591 = .ok (.ireturn, 1) := by decide +kernel
theorem dL_law_2592 : decode cL_law 2592 = .ok (.iload 6, 2) := by decide +kernel
theorem dL_law_2594 : decode cL_law 2594 = .ok (.ifCond .ne 15, 3) := by decide +kernel
theorem dL_law_2597 : decode cL_law 2597 = .ok (.aload_n 3, 1) := by decide +kernel
theorem dL_law_2598 : decode cL_law 2598 = .ok (.iconst 0, 1) := by decide +kernel
theorem dL_law_2599 : decode cL_law 2599 = .ok (.laload, 1) := by decide +kernel
theorem dL_law_2600 : decode cL_law 2600 = .ok (.iload 7, 2) := by decide +kernel
theorem dL_law_2602 : decode cL_law 2602 = .ok (.i2l, 1) := by decide +kernel
theorem dL_law_2603 : decode cL_law 2603 = .ok (.lcmp, 1) := by decide +kernel
theorem dL_law_2604 : decode cL_law 2604 = .ok (.ifCond .eq 5, 3) := by decide +kernel
theorem dL_law_2607 : decode cL_law 2607 = .ok (.iconst 0, 1) := by decide +kernel
theorem dL_law_2608 : decode cL_law 2608 = .ok (.ireturn, 1) := by decide +kernel
theorem dL_law_2609 : decode cL_law 2609 = .ok (.goto 1472, 3) := by decide +kernel
theorem dL_law_2612 : decode cL_law 2612 = .ok (.aload_n 1, 1) := by decide +kernel
theorem dL_law_2613 : decode cL_law 2613 = .ok (.aload_n 0, 1) := by decide +kernel
theorem dL_law_2614 : decode cL_law 2614 = .ok (.iload 5, 2) := by decide +kernel
theorem dL_law_2616 : decode cL_law 2616 = .ok (.iconst 1, 1) := by decide +kernel
theorem dL_law_2617 : decode cL_law 2617 = .ok (.iadd, 1) := by decide +kernel
theorem dL_law_2618 : decode cL_law 2618 = .ok (.iaload, 1) := by decide +kernel
theorem dL_law_2619 : decode cL_law 2619 = .ok (.aload_n 0, 1) := by decide +kernel
theorem dL_law_2620 : decode cL_law 2620 = .ok (.iload 5, 2) := by decide +kernel
theorem dL_law_2622 : decode cL_law 2622 = .ok (.iconst 2, 1) := by decide +kernel
theorem dL_law_2623 : decode cL_law 2623 = .ok (.iadd, 1) := by decide +kernel
theorem dL_law_2624 : decode cL_law 2624 = .ok (.iaload, 1) := by decide +kernel
theorem dL_law_2625 : decode cL_law 2625 = .ok (.aload_n 3, 1) := by decide +kernel
theorem dL_law_2626 : decode cL_law 2626 = .ok (.invokestatic 304, 3) := by decide +kernel
theorem dL_law_2629 : decode cL_law 2629 = .ok (.istore 6, 2) := by decide +kernel
theorem dL_law_2631 : decode cL_law 2631 = .ok (.aload_n 2, 1) := by decide +kernel
theorem dL_law_2632 : decode cL_law 2632 = .ok (.aload_n 0, 1) := by decide +kernel
theorem dL_law_2633 : decode cL_law 2633 = .ok (.iload 5, 2) := by decide +kernel
theorem dL_law_2635 : decode cL_law 2635 = .ok (.iconst 1, 1) := by decide +kernel
theorem dL_law_2636 : decode cL_law 2636 = .ok (.iadd, 1) := by decide +kernel
theorem dL_law_2637 : decode cL_law 2637 = .ok (.iaload, 1) := by decide +kernel
theorem dL_law_2638 : decode cL_law 2638 = .ok (.aload_n 0, 1) := by decide +kernel
theorem dL_law_2639 : decode cL_law 2639 = .ok (.iload 5, 2) := by decide +kernel
theorem dL_law_2641 : decode cL_law 2641 = .ok (.iconst 2, 1) := by decide +kernel
theorem dL_law_2642 : decode cL_law 2642 = .ok (.iadd, 1) := by decide +kernel
theorem dL_law_2643 : decode cL_law 2643 = .ok (.iaload, 1) := by decide +kernel
theorem dL_law_2644 : decode cL_law 2644 = .ok (.invokevirtual 306, 3) := by decide +kernel
theorem dL_law_2647 : decode cL_law 2647 = .ok (.istore 7, 2) := by decide +kernel
theorem dL_law_2649 : decode cL_law 2649 = .ok (.aload_n 2, 1) := by decide +kernel
theorem dL_law_2650 : decode cL_law 2650 = .ok (.invokevirtual 198, 3) := by decide +kernel
theorem dL_law_2653 : decode cL_law 2653 = .ok (.iload 6, 2) := by decide +kernel
theorem dL_law_2655 : decode cL_law 2655 = .ok (.if_icmp .eq 5, 3) := by decide +kernel
theorem dL_law_2658 : decode cL_law 2658 = .ok (.iconst 0, 1) := by decide +kernel
theorem dL_law_2659 : decode cL_law 2659 = .ok (.ireturn, 1) := by decide +kernel
theorem dL_law_2660 : decode cL_law 2660 = .ok (.iload 6, 2) := by decide +kernel
theorem dL_law_2662 : decode cL_law 2662 = .ok (.ifCond .ne 15, 3) := by decide +kernel
theorem dL_law_2665 : decode cL_law 2665 = .ok (.aload_n 3, 1) := by decide +kernel
theorem dL_law_2666 : decode cL_law 2666 = .ok (.iconst 0, 1) := by decide +kernel
theorem dL_law_2667 : decode cL_law 2667 = .ok (.laload, 1) := by decide +kernel
theorem dL_law_2668 : decode cL_law 2668 = .ok (.iload 7, 2) := by decide +kernel
theorem dL_law_2670 : decode cL_law 2670 = .ok (.i2l, 1) := by decide +kernel
theorem dL_law_2671 : decode cL_law 2671 = .ok (.lcmp, 1) := by decide +kernel
theorem dL_law_2672 : decode cL_law 2672 = .ok (.ifCond .eq 5, 3) := by decide +kernel
theorem dL_law_2675 : decode cL_law 2675 = .ok (.iconst 0, 1) := by decide +kernel
theorem dL_law_2676 : decode cL_law 2676 = .ok (.ireturn, 1) := by decide +kernel
theorem dL_law_2677 : decode cL_law 2677 = .ok (.goto 1404, 3) := by decide +kernel
theorem dL_law_2680 : decode cL_law 2680 = .ok (.aload_n 1, 1) := by decide +kernel
theorem dL_law_2681 : decode cL_law 2681 = .ok (.aload_n 0, 1) := by decide +kernel
theorem dL_law_2682 : decode cL_law 2682 = .ok (.iload 5, 2) := by decide +kernel
theorem dL_law_2684 : decode cL_law 2684 = .ok (.iconst 1, 1) := by decide +kernel
theorem dL_law_2685 : decode cL_law 2685 = .ok (.iadd, 1) := by decide +kernel
theorem dL_law_2686 : decode cL_law 2686 = .ok (.iaload, 1) := by decide +kernel
theorem dL_law_2687 : decode cL_law 2687 = .ok (.aload_n 0, 1) := by decide +kernel
theorem dL_law_2688 : decode cL_law 2688 = .ok (.iload 5, 2) := by decide +kernel
theorem dL_law_2690 : decode cL_law 2690 = .ok (.iconst 2, 1) := by decide +kernel
theorem dL_law_2691 : decode cL_law 2691 = .ok (.iadd, 1) := by decide +kernel
theorem dL_law_2692 : decode cL_law 2692 = .ok (.iaload, 1) := by decide +kernel
theorem dL_law_2693 : decode cL_law 2693 = .ok (.aload_n 3, 1) := by decide +kernel
theorem dL_law_2694 : decode cL_law 2694 = .ok (.invokestatic 307, 3) := by decide +kernel
theorem dL_law_2697 : decode cL_law 2697 = .ok (.istore 6, 2) := by decide +kernel
theorem dL_law_2699 : decode cL_law 2699 = .ok (.aload_n 2, 1) := by decide +kernel
theorem dL_law_2700 : decode cL_law 2700 = .ok (.aload_n 0, 1) := by decide +kernel
theorem dL_law_2701 : decode cL_law 2701 = .ok (.iload 5, 2) := by decide +kernel
theorem dL_law_2703 : decode cL_law 2703 = .ok (.iconst 1, 1) := by decide +kernel
theorem dL_law_2704 : decode cL_law 2704 = .ok (.iadd, 1) := by decide +kernel
theorem dL_law_2705 : decode cL_law 2705 = .ok (.iaload, 1) := by decide +kernel
theorem dL_law_2706 : decode cL_law 2706 = .ok (.aload_n 0, 1) := by decide +kernel
theorem dL_law_2707 : decode cL_law 2707 = .ok (.iload 5, 2) := by decide +kernel
theorem dL_law_2709 : decode cL_law 2709 = .ok (.iconst 2, 1) := by decide +kernel
theorem dL_law_2710 : decode cL_law 2710 = .ok (.iadd, 1) := by decide +kernel
theorem dL_law_2711 : decode cL_law 2711 = .ok (.iaload, 1) := by decide +kernel
theorem dL_law_2712 : decode cL_law 2712 = .ok (.invokevirtual 309, 3) := by decide +kernel
theorem dL_law_2715 : decode cL_law 2715 = .ok (.istore 7, 2) := by decide +kernel
theorem dL_law_2717 : decode cL_law 2717 = .ok (.aload_n 2, 1) := by decide +kernel
theorem dL_law_2718 : decode cL_law 2718 = .ok (.invokevirtual 198, 3) := by decide +kernel
theorem dL_law_2721 : decode cL_law 2721 = .ok (.iload 6, 2) := by decide +kernel
theorem dL_law_2723 : decode cL_law 2723 = .ok (.if_icmp .eq 5, 3) := by decide +kernel
theorem dL_law_2726 : decode cL_law 2726 = .ok (.iconst 0, 1) := by decide +kernel
theorem dL_law_2727 : decode cL_law 2727 = .ok (.ireturn, 1) := by decide +kernel
theorem dL_law_2728 : decode cL_law 2728 = .ok (.iload 6, 2) := by decide +kernel
theorem dL_law_2730 : decode cL_law 2730 = .ok (.ifCond .ne 15, 3) := by decide +kernel
theorem dL_law_2733 : decode cL_law 2733 = .ok (.aload_n 3, 1) := by decide +kernel
theorem dL_law_2734 : decode cL_law 2734 = .ok (.iconst 0, 1) := by decide +kernel
theorem dL_law_2735 : decode cL_law 2735 = .ok (.laload, 1) := by decide +kernel
theorem dL_law_2736 : decode cL_law 2736 = .ok (.iload 7, 2) := by decide +kernel
theorem dL_law_2738 : decode cL_law 2738 = .ok (.i2l, 1) := by decide +kernel
theorem dL_law_2739 : decode cL_law 2739 = .ok (.lcmp, 1) := by decide +kernel
theorem dL_law_2740 : decode cL_law 2740 = .ok (.ifCond .eq 5, 3) := by decide +kernel
theorem dL_law_2743 : decode cL_law 2743 = .ok (.iconst 0, 1) := by decide +kernel
theorem dL_law_2744 : decode cL_law 2744 = .ok (.ireturn, 1) := by decide +kernel
theorem dL_law_2745 : decode cL_law 2745 = .ok (.goto 1336, 3) := by decide +kernel
theorem dL_law_2748 : decode cL_law 2748 = .ok (.aload_n 1, 1) := by decide +kernel
theorem dL_law_2749 : decode cL_law 2749 = .ok (.aload_n 0, 1) := by decide +kernel
theorem dL_law_2750 : decode cL_law 2750 = .ok (.iload 5, 2) := by decide +kernel
theorem dL_law_2752 : decode cL_law 2752 = .ok (.iconst 1, 1) := by decide +kernel
theorem dL_law_2753 : decode cL_law 2753 = .ok (.iadd, 1) := by decide +kernel
theorem dL_law_2754 : decode cL_law 2754 = .ok (.iaload, 1) := by decide +kernel
theorem dL_law_2755 : decode cL_law 2755 = .ok (.aload_n 0, 1) := by decide +kernel
theorem dL_law_2756 : decode cL_law 2756 = .ok (.iload 5, 2) := by decide +kernel
theorem dL_law_2758 : decode cL_law 2758 = .ok (.iconst 2, 1) := by decide +kernel
theorem dL_law_2759 : decode cL_law 2759 = .ok (.iadd, 1) := by decide +kernel
theorem dL_law_2760 : decode cL_law 2760 = .ok (.iaload, 1) := by decide +kernel
theorem dL_law_2761 : decode cL_law 2761 = .ok (.aload_n 0, 1) := by decide +kernel
theorem dL_law_2762 : decode cL_law 2762 = .ok (.iload 5, 2) := by decide +kernel
theorem dL_law_2764 : decode cL_law 2764 = .ok (.iconst 3, 1) := by decide +kernel
theorem dL_law_2765 : decode cL_law 2765 = .ok (.iadd, 1) := by decide +kernel
theorem dL_law_2766 : decode cL_law 2766 = .ok (.iaload, 1) := by decide +kernel
theorem dL_law_2767 : decode cL_law 2767 = .ok (.i2c, 1) := by decide +kernel
theorem dL_law_2768 : decode cL_law 2768 = .ok (.aload_n 3, 1) := by decide +kernel
theorem dL_law_2769 : decode cL_law 2769 = .ok (.invokestatic 310, 3) := by decide +kernel
theorem dL_law_2772 : decode cL_law 2772 = .ok (.istore 6, 2) := by decide +kernel
theorem dL_law_2774 : decode cL_law 2774 = .ok (.aload_n 2, 1) := by decide +kernel
theorem dL_law_2775 : decode cL_law 2775 = .ok (.aload_n 0, 1) := by decide +kernel
theorem dL_law_2776 : decode cL_law 2776 = .ok (.iload 5, 2) := by decide +kernel
theorem dL_law_2778 : decode cL_law 2778 = .ok (.iconst 1, 1) := by decide +kernel
theorem dL_law_2779 : decode cL_law 2779 = .ok (.iadd, 1) := by decide +kernel
theorem dL_law_2780 : decode cL_law 2780 = .ok (.iaload, 1) := by decide +kernel
theorem dL_law_2781 : decode cL_law 2781 = .ok (.aload_n 0, 1) := by decide +kernel
theorem dL_law_2782 : decode cL_law 2782 = .ok (.iload 5, 2) := by decide +kernel
theorem dL_law_2784 : decode cL_law 2784 = .ok (.iconst 2, 1) := by decide +kernel
theorem dL_law_2785 : decode cL_law 2785 = .ok (.iadd, 1) := by decide +kernel
theorem dL_law_2786 : decode cL_law 2786 = .ok (.iaload, 1) := by decide +kernel
theorem dL_law_2787 : decode cL_law 2787 = .ok (.aload_n 0, 1) := by decide +kernel
theorem dL_law_2788 : decode cL_law 2788 = .ok (.iload 5, 2) := by decide +kernel
theorem dL_law_2790 : decode cL_law 2790 = .ok (.iconst 3, 1) := by decide +kernel
theorem dL_law_2791 : decode cL_law 2791 = .ok (.iadd, 1) := by decide +kernel
theorem dL_law_2792 : decode cL_law 2792 = .ok (.iaload, 1) := by decide +kernel
theorem dL_law_2793 : decode cL_law 2793 = .ok (.i2c, 1) := by decide +kernel
theorem dL_law_2794 : decode cL_law 2794 = .ok (.invokevirtual 313, 3) := by decide +kernel
theorem dL_law_2797 : decode cL_law 2797 = .ok (.istore 7, 2) := by decide +kernel
theorem dL_law_2799 : decode cL_law 2799 = .ok (.aload_n 2, 1) := by decide +kernel
theorem dL_law_2800 : decode cL_law 2800 = .ok (.invokevirtual 198, 3) := by decide +kernel
theorem dL_law_2803 : decode cL_law 2803 = .ok (.iload 6, 2) := by decide +kernel
theorem dL_law_2805 : decode cL_law 2805 = .ok (.if_icmp .eq 5, 3) := by decide +kernel
theorem dL_law_2808 : decode cL_law 2808 = .ok (.iconst 0, 1) := by decide +kernel
theorem dL_law_2809 : decode cL_law 2809 = .ok (.ireturn, 1) := by decide +kernel
theorem dL_law_2810 : decode cL_law 2810 = .ok (.iload 6, 2) := by decide +kernel
theorem dL_law_2812 : decode cL_law 2812 = .ok (.ifCond .ne 15, 3) := by decide +kernel
theorem dL_law_2815 : decode cL_law 2815 = .ok (.aload_n 3, 1) := by decide +kernel
theorem dL_law_2816 : decode cL_law 2816 = .ok (.iconst 0, 1) := by decide +kernel
theorem dL_law_2817 : decode cL_law 2817 = .ok (.laload, 1) := by decide +kernel
theorem dL_law_2818 : decode cL_law 2818 = .ok (.iload 7, 2) := by decide +kernel
theorem dL_law_2820 : decode cL_law 2820 = .ok (.i2l, 1) := by decide +kernel
theorem dL_law_2821 : decode cL_law 2821 = .ok (.lcmp, 1) := by decide +kernel
theorem dL_law_2822 : decode cL_law 2822 = .ok (.ifCond .eq 5, 3) := by decide +kernel
theorem dL_law_2825 : decode cL_law 2825 = .ok (.iconst 0, 1) := by decide +kernel
theorem dL_law_2826 : decode cL_law 2826 = .ok (.ireturn, 1) := by decide +kernel
theorem dL_law_2827 : decode cL_law 2827 = .ok (.goto 1254, 3) := by decide +kernel
theorem dL_law_2830 : decode cL_law 2830 = .ok (.aload_n 1, 1) := by decide +kernel
theorem dL_law_2831 : decode cL_law 2831 = .ok (.aload_n 0, 1) := by decide +kernel
theorem dL_law_2832 : decode cL_law 2832 = .ok (.iload 5, 2) := by decide +kernel
theorem dL_law_2834 : decode cL_law 2834 = .ok (.iconst 1, 1) := by decide +kernel
theorem dL_law_2835 : decode cL_law 2835 = .ok (.iadd, 1) := by decide +kernel
theorem dL_law_2836 : decode cL_law 2836 = .ok (.iaload, 1) := by decide +kernel
theorem dL_law_2837 : decode cL_law 2837 = .ok (.aload_n 0, 1) := by decide +kernel
theorem dL_law_2838 : decode cL_law 2838 = .ok (.iload 5, 2) := by decide +kernel
theorem dL_law_2840 : decode cL_law 2840 = .ok (.iconst 2, 1) := by decide +kernel
theorem dL_law_2841 : decode cL_law 2841 = .ok (.iadd, 1) := by decide +kernel
theorem dL_law_2842 : decode cL_law 2842 = .ok (.iaload, 1) := by decide +kernel
theorem dL_law_2843 : decode cL_law 2843 = .ok (.aload_n 3, 1) := by decide +kernel
theorem dL_law_2844 : decode cL_law 2844 = .ok (.invokestatic 314, 3) := by decide +kernel
theorem dL_law_2847 : decode cL_law 2847 = .ok (.istore 6, 2) := by decide +kernel
theorem dL_law_2849 : decode cL_law 2849 = .ok (.aload_n 2, 1) := by decide +kernel
theorem dL_law_2850 : decode cL_law 2850 = .ok (.aload_n 0, 1) := by decide +kernel
theorem dL_law_2851 : decode cL_law 2851 = .ok (.iload 5, 2) := by decide +kernel
theorem dL_law_2853 : decode cL_law 2853 = .ok (.iconst 1, 1) := by decide +kernel
theorem dL_law_2854 : decode cL_law 2854 = .ok (.iadd, 1) := by decide +kernel
theorem dL_law_2855 : decode cL_law 2855 = .ok (.iaload, 1) := by decide +kernel
theorem dL_law_2856 : decode cL_law 2856 = .ok (.aload_n 0, 1) := by decide +kernel
theorem dL_law_2857 : decode cL_law 2857 = .ok (.iload 5, 2) := by decide +kernel
theorem dL_law_2859 : decode cL_law 2859 = .ok (.iconst 2, 1) := by decide +kernel
theorem dL_law_2860 : decode cL_law 2860 = .ok (.iadd, 1) := by decide +kernel
theorem dL_law_2861 : decode cL_law 2861 = .ok (.iaload, 1) := by decide +kernel
theorem dL_law_2862 : decode cL_law 2862 = .ok (.invokevirtual 316, 3) := by decide +kernel
theorem dL_law_2865 : decode cL_law 2865 = .ok (.istore 7, 2) := by decide +kernel
theorem dL_law_2867 : decode cL_law 2867 = .ok (.aload_n 2, 1) := by decide +kernel
theorem dL_law_2868 : decode cL_law 2868 = .ok (.invokevirtual 198, 3) := by decide +kernel
theorem dL_law_2871 : decode cL_law 2871 = .ok (.iload 6, 2) := by decide +kernel
theorem dL_law_2873 : decode cL_law 2873 = .ok (.if_icmp .eq 5, 3) := by decide +kernel
theorem dL_law_2876 : decode cL_law 2876 = .ok (.iconst 0, 1) := by decide +kernel
theorem dL_law_2877 : decode cL_law 2877 = .ok (.ireturn, 1) := by decide +kernel
theorem dL_law_2878 : decode cL_law 2878 = .ok (.iload 6, 2) := by decide +kernel
theorem dL_law_2880 : decode cL_law 2880 = .ok (.ifCond .ne 15, 3) := by decide +kernel
theorem dL_law_2883 : decode cL_law 2883 = .ok (.aload_n 3, 1) := by decide +kernel
theorem dL_law_2884 : decode cL_law 2884 = .ok (.iconst 0, 1) := by decide +kernel
theorem dL_law_2885 : decode cL_law 2885 = .ok (.laload, 1) := by decide +kernel
theorem dL_law_2886 : decode cL_law 2886 = .ok (.iload 7, 2) := by decide +kernel
theorem dL_law_2888 : decode cL_law 2888 = .ok (.i2l, 1) := by decide +kernel
theorem dL_law_2889 : decode cL_law 2889 = .ok (.lcmp, 1) := by decide +kernel
theorem dL_law_2890 : decode cL_law 2890 = .ok (.ifCond .eq 5, 3) := by decide +kernel
theorem dL_law_2893 : decode cL_law 2893 = .ok (.iconst 0, 1) := by decide +kernel
theorem dL_law_2894 : decode cL_law 2894 = .ok (.ireturn, 1) := by decide +kernel
theorem dL_law_2895 : decode cL_law 2895 = .ok (.goto 1186, 3) := by decide +kernel
theorem dL_law_2898 : decode cL_law 2898 = .ok (.aload_n 1, 1) := by decide +kernel
theorem dL_law_2899 : decode cL_law 2899 = .ok (.aload_n 0, 1) := by decide +kernel
theorem dL_law_2900 : decode cL_law 2900 = .ok (.iload 5, 2) := by decide +kernel
theorem dL_law_2902 : decode cL_law 2902 = .ok (.iconst 1, 1) := by decide +kernel
theorem dL_law_2903 : decode cL_law 2903 = .ok (.iadd, 1) := by decide +kernel
theorem dL_law_2904 : decode cL_law 2904 = .ok (.iaload, 1) := by decide +kernel
theorem dL_law_2905 : decode cL_law 2905 = .ok (.aload_n 0, 1) := by decide +kernel
theorem dL_law_2906 : decode cL_law 2906 = .ok (.iload 5, 2) := by decide +kernel
theorem dL_law_2908 : decode cL_law 2908 = .ok (.iconst 2, 1) := by decide +kernel
theorem dL_law_2909 : decode cL_law 2909 = .ok (.iadd, 1) := by decide +kernel
theorem dL_law_2910 : decode cL_law 2910 = .ok (.iaload, 1) := by decide +kernel
theorem dL_law_2911 : decode cL_law 2911 = .ok (.aload_n 3, 1) := by decide +kernel
theorem dL_law_2912 : decode cL_law 2912 = .ok (.invokestatic 317, 3) := by decide +kernel
theorem dL_law_2915 : decode cL_law 2915 = .ok (.istore 6, 2) := by decide +kernel
theorem dL_law_2917 : decode cL_law 2917 = .ok (.aload_n 2, 1) := by decide +kernel
theorem dL_law_2918 : decode cL_law 2918 = .ok (.aload_n 0, 1) := by decide +kernel
theorem dL_law_2919 : decode cL_law 2919 = .ok (.iload 5, 2) := by decide +kernel
theorem dL_law_2921 : decode cL_law 2921 = .ok (.iconst 1, 1) := by decide +kernel
theorem dL_law_2922 : decode cL_law 2922 = .ok (.iadd, 1) := by decide +kernel
theorem dL_law_2923 : decode cL_law 2923 = .ok (.iaload, 1) := by decide +kernel
theorem dL_law_2924 : decode cL_law 2924 = .ok (.aload_n 0, 1) := by decide +kernel
theorem dL_law_2925 : decode cL_law 2925 = .ok (.iload 5, 2) := by decide +kernel
theorem dL_law_2927 : decode cL_law 2927 = .ok (.iconst 2, 1) := by decide +kernel
theorem dL_law_2928 : decode cL_law 2928 = .ok (.iadd, 1) := by decide +kernel
theorem dL_law_2929 : decode cL_law 2929 = .ok (.iaload, 1) := by decide +kernel
theorem dL_law_2930 : decode cL_law 2930 = .ok (.invokevirtual 319, 3) := by decide +kernel
theorem dL_law_2933 : decode cL_law 2933 = .ok (.istore 7, 2) := by decide +kernel
theorem dL_law_2935 : decode cL_law 2935 = .ok (.aload_n 2, 1) := by decide +kernel
theorem dL_law_2936 : decode cL_law 2936 = .ok (.invokevirtual 198, 3) := by decide +kernel
theorem dL_law_2939 : decode cL_law 2939 = .ok (.iload 6, 2) := by decide +kernel
theorem dL_law_2941 : decode cL_law 2941 = .ok (.if_icmp .eq 5, 3) := by decide +kernel
theorem dL_law_2944 : decode cL_law 2944 = .ok (.iconst 0, 1) := by decide +kernel
theorem dL_law_2945 : decode cL_law 2945 = .ok (.ireturn, 1) := by decide +kernel
theorem dL_law_2946 : decode cL_law 2946 = .ok (.iload 6, 2) := by decide +kernel
theorem dL_law_2948 : decode cL_law 2948 = .ok (.ifCond .ne 15, 3) := by decide +kernel
theorem dL_law_2951 : decode cL_law 2951 = .ok (.aload_n 3, 1) := by decide +kernel
theorem dL_law_2952 : decode cL_law 2952 = .ok (.iconst 0, 1) := by decide +kernel
theorem dL_law_2953 : decode cL_law 2953 = .ok (.laload, 1) := by decide +kernel
theorem dL_law_2954 : decode cL_law 2954 = .ok (.iload 7, 2) := by decide +kernel
theorem dL_law_2956 : decode cL_law 2956 = .ok (.i2l, 1) := by decide +kernel
theorem dL_law_2957 : decode cL_law 2957 = .ok (.lcmp, 1) := by decide +kernel
theorem dL_law_2958 : decode cL_law 2958 = .ok (.ifCond .eq 5, 3) := by decide +kernel
theorem dL_law_2961 : decode cL_law 2961 = .ok (.iconst 0, 1) := by decide +kernel
theorem dL_law_2962 : decode cL_law 2962 = .ok (.ireturn, 1) := by decide +kernel
theorem dL_law_2963 : decode cL_law 2963 = .ok (.goto 1118, 3) := by decide +kernel
theorem dL_law_2966 : decode cL_law 2966 = .ok (.aload_n 1, 1) := by decide +kernel
theorem dL_law_2967 : decode cL_law 2967 = .ok (.aload_n 0, 1) := by decide +kernel
theorem dL_law_2968 : decode cL_law 2968 = .ok (.iload 5, 2) := by decide +kernel
theorem dL_law_2970 : decode cL_law 2970 = .ok (.iconst 1, 1) := by decide +kernel
theorem dL_law_2971 : decode cL_law 2971 = .ok (.iadd, 1) := by decide +kernel
theorem dL_law_2972 : decode cL_law 2972 = .ok (.iaload, 1) := by decide +kernel
theorem dL_law_2973 : decode cL_law 2973 = .ok (.aload_n 0, 1) := by decide +kernel
theorem dL_law_2974 : decode cL_law 2974 = .ok (.iload 5, 2) := by decide +kernel
theorem dL_law_2976 : decode cL_law 2976 = .ok (.iconst 2, 1) := by decide +kernel
theorem dL_law_2977 : decode cL_law 2977 = .ok (.iadd, 1) := by decide +kernel
theorem dL_law_2978 : decode cL_law 2978 = .ok (.iaload, 1) := by decide +kernel
theorem dL_law_2979 : decode cL_law 2979 = .ok (.aload_n 3, 1) := by decide +kernel
theorem dL_law_2980 : decode cL_law 2980 = .ok (.invokestatic 320, 3) := by decide +kernel
theorem dL_law_2983 : decode cL_law 2983 = .ok (.istore 6, 2) := by decide +kernel
theorem dL_law_2985 : decode cL_law 2985 = .ok (.aload_n 2, 1) := by decide +kernel
theorem dL_law_2986 : decode cL_law 2986 = .ok (.aload_n 0, 1) := by decide +kernel
theorem dL_law_2987 : decode cL_law 2987 = .ok (.iload 5, 2) := by decide +kernel
theorem dL_law_2989 : decode cL_law 2989 = .ok (.iconst 1, 1) := by decide +kernel
theorem dL_law_2990 : decode cL_law 2990 = .ok (.iadd, 1) := by decide +kernel
theorem dL_law_2991 : decode cL_law 2991 = .ok (.iaload, 1) := by decide +kernel
theorem dL_law_2992 : decode cL_law 2992 = .ok (.aload_n 0, 1) := by decide +kernel
theorem dL_law_2993 : decode cL_law 2993 = .ok (.iload 5, 2) := by decide +kernel
theorem dL_law_2995 : decode cL_law 2995 = .ok (.iconst 2, 1) := by decide +kernel
theorem dL_law_2996 : decode cL_law 2996 = .ok (.iadd, 1) := by decide +kernel
theorem dL_law_2997 : decode cL_law 2997 = .ok (.iaload, 1) := by decide +kernel
theorem dL_law_2998 : decode cL_law 2998 = .ok (.invokevirtual 322, 3) := by decide +kernel
theorem dL_law_3001 : decode cL_law 3001 = .ok (.istore 7, 2) := by decide +kernel
theorem dL_law_3003 : decode cL_law 3003 = .ok (.aload_n 2, 1) := by decide +kernel
theorem dL_law_3004 : decode cL_law 3004 = .ok (.invokevirtual 198, 3) := by decide +kernel
theorem dL_law_3007 : decode cL_law 3007 = .ok (.iload 6, 2) := by decide +kernel
theorem dL_law_3009 : decode cL_law 3009 = .ok (.if_icmp .eq 5, 3) := by decide +kernel
theorem dL_law_3012 : decode cL_law 3012 = .ok (.iconst 0, 1) := by decide +kernel
theorem dL_law_3013 : decode cL_law 3013 = .ok (.ireturn, 1) := by decide +kernel
theorem dL_law_3014 : decode cL_law 3014 = .ok (.iload 6, 2) := by decide +kernel
theorem dL_law_3016 : decode cL_law 3016 = .ok (.ifCond .ne 15, 3) := by decide +kernel
theorem dL_law_3019 : decode cL_law 3019 = .ok (.aload_n 3, 1) := by decide +kernel
theorem dL_law_3020 : decode cL_law 3020 = .ok (.iconst 0, 1) := by decide +kernel
theorem dL_law_3021 : decode cL_law 3021 = .ok (.laload, 1) := by decide +kernel
theorem dL_law_3022 : decode cL_law 3022 = .ok (.iload 7, 2) := by decide +kernel
theorem dL_law_3024 : decode cL_law 3024 = .ok (.i2l, 1) := by decide +kernel
theorem dL_law_3025 : decode cL_law 3025 = .ok (.lcmp, 1) := by decide +kernel
theorem dL_law_3026 : decode cL_law 3026 = .ok (.ifCond .eq 5, 3) := by decide +kernel
theorem dL_law_3029 : decode cL_law 3029 = .ok (.iconst 0, 1) := by decide +kernel
theorem dL_law_3030 : decode cL_law 3030 = .ok (.ireturn, 1) := by decide +kernel
theorem dL_law_3031 : decode cL_law 3031 = .ok (.goto 1050, 3) := by decide +kernel
theorem dL_law_3034 : decode cL_law 3034 = .ok (.aload_n 1, 1) := by decide +kernel
theorem dL_law_3035 : decode cL_law 3035 = .ok (.aload_n 0, 1) := by decide +kernel
theorem dL_law_3036 : decode cL_law 3036 = .ok (.iload 5, 2) := by decide +kernel
theorem dL_law_3038 : decode cL_law 3038 = .ok (.iconst 1, 1) := by decide +kernel
theorem dL_law_3039 : decode cL_law 3039 = .ok (.iadd, 1) := by decide +kernel
theorem dL_law_3040 : decode cL_law 3040 = .ok (.iaload, 1) := by decide +kernel
theorem dL_law_3041 : decode cL_law 3041 = .ok (.aload_n 0, 1) := by decide +kernel
theorem dL_law_3042 : decode cL_law 3042 = .ok (.iload 5, 2) := by decide +kernel
theorem dL_law_3044 : decode cL_law 3044 = .ok (.iconst 2, 1) := by decide +kernel
theorem dL_law_3045 : decode cL_law 3045 = .ok (.iadd, 1) := by decide +kernel
theorem dL_law_3046 : decode cL_law 3046 = .ok (.iaload, 1) := by decide +kernel
theorem dL_law_3047 : decode cL_law 3047 = .ok (.aload_n 3, 1) := by decide +kernel
theorem dL_law_3048 : decode cL_law 3048 = .ok (.invokestatic 323, 3) := by decide +kernel
theorem dL_law_3051 : decode cL_law 3051 = .ok (.istore 6, 2) := by decide +kernel
theorem dL_law_3053 : decode cL_law 3053 = .ok (.aload_n 2, 1) := by decide +kernel
theorem dL_law_3054 : decode cL_law 3054 = .ok (.aload_n 0, 1) := by decide +kernel
theorem dL_law_3055 : decode cL_law 3055 = .ok (.iload 5, 2) := by decide +kernel
theorem dL_law_3057 : decode cL_law 3057 = .ok (.iconst 1, 1) := by decide +kernel
theorem dL_law_3058 : decode cL_law 3058 = .ok (.iadd, 1) := by decide +kernel
theorem dL_law_3059 : decode cL_law 3059 = .ok (.iaload, 1) := by decide +kernel
theorem dL_law_3060 : decode cL_law 3060 = .ok (.aload_n 0, 1) := by decide +kernel
theorem dL_law_3061 : decode cL_law 3061 = .ok (.iload 5, 2) := by decide +kernel
theorem dL_law_3063 : decode cL_law 3063 = .ok (.iconst 2, 1) := by decide +kernel
theorem dL_law_3064 : decode cL_law 3064 = .ok (.iadd, 1) := by decide +kernel
theorem dL_law_3065 : decode cL_law 3065 = .ok (.iaload, 1) := by decide +kernel
theorem dL_law_3066 : decode cL_law 3066 = .ok (.invokevirtual 325, 3) := by decide +kernel
theorem dL_law_3069 : decode cL_law 3069 = .ok (.istore 7, 2) := by decide +kernel
theorem dL_law_3071 : decode cL_law 3071 = .ok (.aload_n 2, 1) := by decide +kernel
theorem dL_law_3072 : decode cL_law 3072 = .ok (.invokevirtual 198, 3) := by decide +kernel
theorem dL_law_3075 : decode cL_law 3075 = .ok (.iload 6, 2) := by decide +kernel
theorem dL_law_3077 : decode cL_law 3077 = .ok (.if_icmp .eq 5, 3) := by decide +kernel
theorem dL_law_3080 : decode cL_law 3080 = .ok (.iconst 0, 1) := by decide +kernel
theorem dL_law_3081 : decode cL_law 3081 = .ok (.ireturn, 1) := by decide +kernel
theorem dL_law_3082 : decode cL_law 3082 = .ok (.iload 6, 2) := by decide +kernel
theorem dL_law_3084 : decode cL_law 3084 = .ok (.ifCond .ne 15, 3) := by decide +kernel
theorem dL_law_3087 : decode cL_law 3087 = .ok (.aload_n 3, 1) := by decide +kernel
theorem dL_law_3088 : decode cL_law 3088 = .ok (.iconst 0, 1) := by decide +kernel
theorem dL_law_3089 : decode cL_law 3089 = .ok (.laload, 1) := by decide +kernel
theorem dL_law_3090 : decode cL_law 3090 = .ok (.iload 7, 2) := by decide +kernel
theorem dL_law_3092 : decode cL_law 3092 = .ok (.i2l, 1) := by decide +kernel
theorem dL_law_3093 : decode cL_law 3093 = .ok (.lcmp, 1) := by decide +kernel
theorem dL_law_3094 : decode cL_law 3094 = .ok (.ifCond .eq 5, 3) := by decide +kernel
theorem dL_law_3097 : decode cL_law 3097 = .ok (.iconst 0, 1) := by decide +kernel
theorem dL_law_3098 : decode cL_law 3098 = .ok (.ireturn, 1) := by decide +kernel
theorem dL_law_3099 : decode cL_law 3099 = .ok (.goto 982, 3) := by decide +kernel
theorem dL_law_3102 : decode cL_law 3102 = .ok (.aload_n 1, 1) := by decide +kernel
theorem dL_law_3103 : decode cL_law 3103 = .ok (.aload_n 0, 1) := by decide +kernel
theorem dL_law_3104 : decode cL_law 3104 = .ok (.iload 5, 2) := by decide +kernel
theorem dL_law_3106 : decode cL_law 3106 = .ok (.iconst 1, 1) := by decide +kernel
theorem dL_law_3107 : decode cL_law 3107 = .ok (.iadd, 1) := by decide +kernel
theorem dL_law_3108 : decode cL_law 3108 = .ok (.iaload, 1) := by decide +kernel
theorem dL_law_3109 : decode cL_law 3109 = .ok (.aload_n 3, 1) := by decide +kernel
theorem dL_law_3110 : decode cL_law 3110 = .ok (.invokestatic 326, 3) := by decide +kernel
theorem dL_law_3113 : decode cL_law 3113 = .ok (.istore 6, 2) := by decide +kernel
theorem dL_law_3115 : decode cL_law 3115 = .ok (.aload_n 2, 1) := by decide +kernel
theorem dL_law_3116 : decode cL_law 3116 = .ok (.aload_n 0, 1) := by decide +kernel
theorem dL_law_3117 : decode cL_law 3117 = .ok (.iload 5, 2) := by decide +kernel
theorem dL_law_3119 : decode cL_law 3119 = .ok (.iconst 1, 1) := by decide +kernel
theorem dL_law_3120 : decode cL_law 3120 = .ok (.iadd, 1) := by decide +kernel
theorem dL_law_3121 : decode cL_law 3121 = .ok (.iaload, 1) := by decide +kernel
theorem dL_law_3122 : decode cL_law 3122 = .ok (.invokevirtual 328, 3) := by decide +kernel
theorem dL_law_3125 : decode cL_law 3125 = .ok (.istore 7, 2) := by decide +kernel
theorem dL_law_3127 : decode cL_law 3127 = .ok (.aload_n 2, 1) := by decide +kernel
theorem dL_law_3128 : decode cL_law 3128 = .ok (.invokevirtual 198, 3) := by decide +kernel
theorem dL_law_3131 : decode cL_law 3131 = .ok (.iload 6, 2) := by decide +kernel
theorem dL_law_3133 : decode cL_law 3133 = .ok (.if_icmp .eq 5, 3) := by decide +kernel
theorem dL_law_3136 : decode cL_law 3136 = .ok (.iconst 0, 1) := by decide +kernel
theorem dL_law_3137 : decode cL_law 3137 = .ok (.ireturn, 1) := by decide +kernel
theorem dL_law_3138 : decode cL_law 3138 = .ok (.iload 6, 2) := by decide +kernel
theorem dL_law_3140 : decode cL_law 3140 = .ok (.ifCond .ne 15, 3) := by decide +kernel
theorem dL_law_3143 : decode cL_law 3143 = .ok (.aload_n 3, 1) := by decide +kernel
theorem dL_law_3144 : decode cL_law 3144 = .ok (.iconst 0, 1) := by decide +kernel
theorem dL_law_3145 : decode cL_law 3145 = .ok (.laload, 1) := by decide +kernel
theorem dL_law_3146 : decode cL_law 3146 = .ok (.iload 7, 2) := by decide +kernel
theorem dL_law_3148 : decode cL_law 3148 = .ok (.i2l, 1) := by decide +kernel
theorem dL_law_3149 : decode cL_law 3149 = .ok (.lcmp, 1) := by decide +kernel
theorem dL_law_3150 : decode cL_law 3150 = .ok (.ifCond .eq 5, 3) := by decide +kernel
theorem dL_law_3153 : decode cL_law 3153 = .ok (.iconst 0, 1) := by decide +kernel
theorem dL_law_3154 : decode cL_law 3154 = .ok (.ireturn, 1) := by decide +kernel
theorem dL_law_3155 : decode cL_law 3155 = .ok (.goto 926, 3) := by decide +kernel
theorem dL_law_3158 : decode cL_law 3158 = .ok (.aload_n 1, 1) := by decide +kernel
theorem dL_law_3159 : decode cL_law 3159 = .ok (.aload_n 0, 1) := by decide +kernel
theorem dL_law_3160 : decode cL_law 3160 = .ok (.iload 5, 2) := by decide +kernel
theorem dL_law_3162 : decode cL_law 3162 = .ok (.iconst 1, 1) := by decide +kernel
theorem dL_law_3163 : decode cL_law 3163 = .ok (.iadd, 1) := by decide +kernel
theorem dL_law_3164 : decode cL_law 3164 = .ok (.iaload, 1) := by decide +kernel
theorem dL_law_3165 : decode cL_law 3165 = .ok (.aload_n 0, 1) := by decide +kernel
theorem dL_law_3166 : decode cL_law 3166 = .ok (.iload 5, 2) := by decide +kernel
theorem dL_law_3168 : decode cL_law 3168 = .ok (.iconst 2, 1) := by decide +kernel
theorem dL_law_3169 : decode cL_law 3169 = .ok (.iadd, 1) := by decide +kernel
theorem dL_law_3170 : decode cL_law 3170 = .ok (.iaload, 1) := by decide +kernel
theorem dL_law_3171 : decode cL_law 3171 = .ok (.aload_n 3, 1) := by decide +kernel
theorem dL_law_3172 : decode cL_law 3172 = .ok (.invokestatic 329, 3) := by decide +kernel
theorem dL_law_3175 : decode cL_law 3175 = .ok (.istore 6, 2) := by decide +kernel
theorem dL_law_3177 : decode cL_law 3177 = .ok (.aload_n 2, 1) := by decide +kernel
theorem dL_law_3178 : decode cL_law 3178 = .ok (.aload_n 0, 1) := by decide +kernel
theorem dL_law_3179 : decode cL_law 3179 = .ok (.iload 5, 2) := by decide +kernel
theorem dL_law_3181 : decode cL_law 3181 = .ok (.iconst 1, 1) := by decide +kernel
theorem dL_law_3182 : decode cL_law 3182 = .ok (.iadd, 1) := by decide +kernel
theorem dL_law_3183 : decode cL_law 3183 = .ok (.iaload, 1) := by decide +kernel
theorem dL_law_3184 : decode cL_law 3184 = .ok (.aload_n 0, 1) := by decide +kernel
theorem dL_law_3185 : decode cL_law 3185 = .ok (.iload 5, 2) := by decide +kernel
theorem dL_law_3187 : decode cL_law 3187 = .ok (.iconst 2, 1) := by decide +kernel
theorem dL_law_3188 : decode cL_law 3188 = .ok (.iadd, 1) := by decide +kernel
theorem dL_law_3189 : decode cL_law 3189 = .ok (.iaload, 1) := by decide +kernel
theorem dL_law_3190 : decode cL_law 3190 = .ok (.invokevirtual 331, 3) := by decide +kernel
theorem dL_law_3193 : decode cL_law 3193 = .ok (.istore 7, 2) := by decide +kernel
theorem dL_law_3195 : decode cL_law 3195 = .ok (.aload_n 2, 1) := by decide +kernel
theorem dL_law_3196 : decode cL_law 3196 = .ok (.invokevirtual 198, 3) := by decide +kernel
theorem dL_law_3199 : decode cL_law 3199 = .ok (.iload 6, 2) := by decide +kernel
theorem dL_law_3201 : decode cL_law 3201 = .ok (.if_icmp .eq 5, 3) := by decide +kernel
theorem dL_law_3204 : decode cL_law 3204 = .ok (.iconst 0, 1) := by decide +kernel
theorem dL_law_3205 : decode cL_law 3205 = .ok (.ireturn, 1) := by decide +kernel
theorem dL_law_3206 : decode cL_law 3206 = .ok (.iload 6, 2) := by decide +kernel
theorem dL_law_3208 : decode cL_law 3208 = .ok (.ifCond .ne 15, 3) := by decide +kernel
theorem dL_law_3211 : decode cL_law 3211 = .ok (.aload_n 3, 1) := by decide +kernel
theorem dL_law_3212 : decode cL_law 3212 = .ok (.iconst 0, 1) := by decide +kernel
theorem dL_law_3213 : decode cL_law 3213 = .ok (.laload, 1) := by decide +kernel
theorem dL_law_3214 : decode cL_law 3214 = .ok (.iload 7, 2) := by decide +kernel
theorem dL_law_3216 : decode cL_law 3216 = .ok (.i2l, 1) := by decide +kernel
theorem dL_law_3217 : decode cL_law 3217 = .ok (.lcmp, 1) := by decide +kernel
theorem dL_law_3218 : decode cL_law 3218 = .ok (.ifCond .eq 5, 3) := by decide +kernel
theorem dL_law_3221 : decode cL_law 3221 = .ok (.iconst 0, 1) := by decide +kernel
theorem dL_law_3222 : decode cL_law 3222 = .ok (.ireturn, 1) := by decide +kernel
theorem dL_law_3223 : decode cL_law 3223 = .ok (.goto 858, 3) := by decide +kernel
theorem dL_law_3226 : decode cL_law 3226 = .ok (.aload_n 1, 1) := by decide +kernel
theorem dL_law_3227 : decode cL_law 3227 = .ok (.aload_n 0, 1) := by decide +kernel
theorem dL_law_3228 : decode cL_law 3228 = .ok (.iload 5, 2) := by decide +kernel
theorem dL_law_3230 : decode cL_law 3230 = .ok (.iconst 1, 1) := by decide +kernel
theorem dL_law_3231 : decode cL_law 3231 = .ok (.iadd, 1) := by decide +kernel
theorem dL_law_3232 : decode cL_law 3232 = .ok (.iaload, 1) := by decide +kernel
theorem dL_law_3233 : decode cL_law 3233 = .ok (.aload_n 0, 1) := by decide +kernel
theorem dL_law_3234 : decode cL_law 3234 = .ok (.iload 5, 2) := by decide +kernel
theorem dL_law_3236 : decode cL_law 3236 = .ok (.iconst 2, 1) := by decide +kernel
theorem dL_law_3237 : decode cL_law 3237 = .ok (.iadd, 1) := by decide +kernel
theorem dL_law_3238 : decode cL_law 3238 = .ok (.iaload, 1) := by decide +kernel
theorem dL_law_3239 : decode cL_law 3239 = .ok (.aload_n 3, 1) := by decide +kernel
theorem dL_law_3240 : decode cL_law 3240 = .ok (.invokestatic 332, 3) := by decide +kernel
theorem dL_law_3243 : decode cL_law 3243 = .ok (.istore 6, 2) := by decide +kernel
theorem dL_law_3245 : decode cL_law 3245 = .ok (.aload_n 2, 1) := by decide +kernel
theorem dL_law_3246 : decode cL_law 3246 = .ok (.aload_n 0, 1) := by decide +kernel
theorem dL_law_3247 : decode cL_law 3247 = .ok (.iload 5, 2) := by decide +kernel
theorem dL_law_3249 : decode cL_law 3249 = .ok (.iconst 1, 1) := by decide +kernel
theorem dL_law_3250 : decode cL_law 3250 = .ok (.iadd, 1) := by decide +kernel
theorem dL_law_3251 : decode cL_law 3251 = .ok (.iaload, 1) := by decide +kernel
theorem dL_law_3252 : decode cL_law 3252 = .ok (.aload_n 0, 1) := by decide +kernel
theorem dL_law_3253 : decode cL_law 3253 = .ok (.iload 5, 2) := by decide +kernel
theorem dL_law_3255 : decode cL_law 3255 = .ok (.iconst 2, 1) := by decide +kernel
theorem dL_law_3256 : decode cL_law 3256 = .ok (.iadd, 1) := by decide +kernel
theorem dL_law_3257 : decode cL_law 3257 = .ok (.iaload, 1) := by decide +kernel
theorem dL_law_3258 : decode cL_law 3258 = .ok (.invokevirtual 334, 3) := by decide +kernel
theorem dL_law_3261 : decode cL_law 3261 = .ok (.istore 7, 2) := by decide +kernel
theorem dL_law_3263 : decode cL_law 3263 = .ok (.aload_n 2, 1) := by decide +kernel
theorem dL_law_3264 : decode cL_law 3264 = .ok (.invokevirtual 198, 3) := by decide +kernel
theorem dL_law_3267 : decode cL_law 3267 = .ok (.iload 6, 2) := by decide +kernel
theorem dL_law_3269 : decode cL_law 3269 = .ok (.if_icmp .eq 5, 3) := by decide +kernel
theorem dL_law_3272 : decode cL_law 3272 = .ok (.iconst 0, 1) := by decide +kernel
theorem dL_law_3273 : decode cL_law 3273 = .ok (.ireturn, 1) := by decide +kernel
theorem dL_law_3274 : decode cL_law 3274 = .ok (.iload 6, 2) := by decide +kernel
theorem dL_law_3276 : decode cL_law 3276 = .ok (.ifCond .ne 15, 3) := by decide +kernel
theorem dL_law_3279 : decode cL_law 3279 = .ok (.aload_n 3, 1) := by decide +kernel
theorem dL_law_3280 : decode cL_law 3280 = .ok (.iconst 0, 1) := by decide +kernel
theorem dL_law_3281 : decode cL_law 3281 = .ok (.laload, 1) := by decide +kernel
theorem dL_law_3282 : decode cL_law 3282 = .ok (.iload 7, 2) := by decide +kernel
theorem dL_law_3284 : decode cL_law 3284 = .ok (.i2l, 1) := by decide +kernel
theorem dL_law_3285 : decode cL_law 3285 = .ok (.lcmp, 1) := by decide +kernel
theorem dL_law_3286 : decode cL_law 3286 = .ok (.ifCond .eq 5, 3) := by decide +kernel
theorem dL_law_3289 : decode cL_law 3289 = .ok (.iconst 0, 1) := by decide +kernel
theorem dL_law_3290 : decode cL_law 3290 = .ok (.ireturn, 1) := by decide +kernel
theorem dL_law_3291 : decode cL_law 3291 = .ok (.goto 790, 3) := by decide +kernel
theorem dL_law_3294 : decode cL_law 3294 = .ok (.aload_n 1, 1) := by decide +kernel
theorem dL_law_3295 : decode cL_law 3295 = .ok (.aload_n 0, 1) := by decide +kernel
theorem dL_law_3296 : decode cL_law 3296 = .ok (.iload 5, 2) := by decide +kernel
theorem dL_law_3298 : decode cL_law 3298 = .ok (.iconst 1, 1) := by decide +kernel
theorem dL_law_3299 : decode cL_law 3299 = .ok (.iadd, 1) := by decide +kernel
theorem dL_law_3300 : decode cL_law 3300 = .ok (.iaload, 1) := by decide +kernel
theorem dL_law_3301 : decode cL_law 3301 = .ok (.aload_n 0, 1) := by decide +kernel
theorem dL_law_3302 : decode cL_law 3302 = .ok (.iload 5, 2) := by decide +kernel
theorem dL_law_3304 : decode cL_law 3304 = .ok (.iconst 2, 1) := by decide +kernel
theorem dL_law_3305 : decode cL_law 3305 = .ok (.iadd, 1) := by decide +kernel
theorem dL_law_3306 : decode cL_law 3306 = .ok (.iaload, 1) := by decide +kernel
theorem dL_law_3307 : decode cL_law 3307 = .ok (.aload_n 3, 1) := by decide +kernel
theorem dL_law_3308 : decode cL_law 3308 = .ok (.invokestatic 335, 3) := by decide +kernel
theorem dL_law_3311 : decode cL_law 3311 = .ok (.istore 6, 2) := by decide +kernel
theorem dL_law_3313 : decode cL_law 3313 = .ok (.aload_n 2, 1) := by decide +kernel
theorem dL_law_3314 : decode cL_law 3314 = .ok (.aload_n 0, 1) := by decide +kernel
theorem dL_law_3315 : decode cL_law 3315 = .ok (.iload 5, 2) := by decide +kernel
theorem dL_law_3317 : decode cL_law 3317 = .ok (.iconst 1, 1) := by decide +kernel
theorem dL_law_3318 : decode cL_law 3318 = .ok (.iadd, 1) := by decide +kernel
theorem dL_law_3319 : decode cL_law 3319 = .ok (.iaload, 1) := by decide +kernel
theorem dL_law_3320 : decode cL_law 3320 = .ok (.aload_n 0, 1) := by decide +kernel
theorem dL_law_3321 : decode cL_law 3321 = .ok (.iload 5, 2) := by decide +kernel
theorem dL_law_3323 : decode cL_law 3323 = .ok (.iconst 2, 1) := by decide +kernel
theorem dL_law_3324 : decode cL_law 3324 = .ok (.iadd, 1) := by decide +kernel
theorem dL_law_3325 : decode cL_law 3325 = .ok (.iaload, 1) := by decide +kernel
theorem dL_law_3326 : decode cL_law 3326 = .ok (.invokevirtual 337, 3) := by decide +kernel
theorem dL_law_3329 : decode cL_law 3329 = .ok (.istore 7, 2) := by decide +kernel
theorem dL_law_3331 : decode cL_law 3331 = .ok (.aload_n 2, 1) := by decide +kernel
theorem dL_law_3332 : decode cL_law 3332 = .ok (.invokevirtual 198, 3) := by decide +kernel
theorem dL_law_3335 : decode cL_law 3335 = .ok (.iload 6, 2) := by decide +kernel
theorem dL_law_3337 : decode cL_law 3337 = .ok (.if_icmp .eq 5, 3) := by decide +kernel
theorem dL_law_3340 : decode cL_law 3340 = .ok (.iconst 0, 1) := by decide +kernel
theorem dL_law_3341 : decode cL_law 3341 = .ok (.ireturn, 1) := by decide +kernel
theorem dL_law_3342 : decode cL_law 3342 = .ok (.iload 6, 2) := by decide +kernel
theorem dL_law_3344 : decode cL_law 3344 = .ok (.ifCond .ne 15, 3) := by decide +kernel
theorem dL_law_3347 : decode cL_law 3347 = .ok (.aload_n 3, 1) := by decide +kernel
theorem dL_law_3348 : decode cL_law 3348 = .ok (.iconst 0, 1) := by decide +kernel
theorem dL_law_3349 : decode cL_law 3349 = .ok (.laload, 1) := by decide +kernel
theorem dL_law_3350 : decode cL_law 3350 = .ok (.iload 7, 2) := by decide +kernel
theorem dL_law_3352 : decode cL_law 3352 = .ok (.i2l, 1) := by decide +kernel
theorem dL_law_3353 : decode cL_law 3353 = .ok (.lcmp, 1) := by decide +kernel
theorem dL_law_3354 : decode cL_law 3354 = .ok (.ifCond .eq 5, 3) := by decide +kernel
theorem dL_law_3357 : decode cL_law 3357 = .ok (.iconst 0, 1) := by decide +kernel
theorem dL_law_3358 : decode cL_law 3358 = .ok (.ireturn, 1) := by decide +kernel
theorem dL_law_3359 : decode cL_law 3359 = .ok (.goto 722, 3) := by decide +kernel
theorem dL_law_3362 : decode cL_law 3362 = .ok (.aload_n 1, 1) := by decide +kernel
theorem dL_law_3363 : decode cL_law 3363 = .ok (.aload_n 0, 1) := by decide +kernel
theorem dL_law_3364 : decode cL_law 3364 = .ok (.iload 5, 2) := by decide +kernel
theorem dL_law_3366 : decode cL_law 3366 = .ok (.iconst 1, 1) := by decide +kernel
theorem dL_law_3367 : decode cL_law 3367 = .ok (.iadd, 1) := by decide +kernel
theorem dL_law_3368 : decode cL_law 3368 = .ok (.iaload, 1) := by decide +kernel
theorem dL_law_3369 : decode cL_law 3369 = .ok (.aload_n 0, 1) := by decide +kernel
theorem dL_law_3370 : decode cL_law 3370 = .ok (.iload 5, 2) := by decide +kernel
theorem dL_law_3372 : decode cL_law 3372 = .ok (.iconst 2, 1) := by decide +kernel
theorem dL_law_3373 : decode cL_law 3373 = .ok (.iadd, 1) := by decide +kernel
theorem dL_law_3374 : decode cL_law 3374 = .ok (.iaload, 1) := by decide +kernel
theorem dL_law_3375 : decode cL_law 3375 = .ok (.aload_n 0, 1) := by decide +kernel
theorem dL_law_3376 : decode cL_law 3376 = .ok (.iload 5, 2) := by decide +kernel
theorem dL_law_3378 : decode cL_law 3378 = .ok (.iconst 3, 1) := by decide +kernel
theorem dL_law_3379 : decode cL_law 3379 = .ok (.iadd, 1) := by decide +kernel
theorem dL_law_3380 : decode cL_law 3380 = .ok (.iaload, 1) := by decide +kernel
theorem dL_law_3381 : decode cL_law 3381 = .ok (.aload_n 3, 1) := by decide +kernel
theorem dL_law_3382 : decode cL_law 3382 = .ok (.invokestatic 338, 3) := by decide +kernel
theorem dL_law_3385 : decode cL_law 3385 = .ok (.istore 6, 2) := by decide +kernel
theorem dL_law_3387 : decode cL_law 3387 = .ok (.aload_n 2, 1) := by decide +kernel
theorem dL_law_3388 : decode cL_law 3388 = .ok (.aload_n 0, 1) := by decide +kernel
theorem dL_law_3389 : decode cL_law 3389 = .ok (.iload 5, 2) := by decide +kernel
theorem dL_law_3391 : decode cL_law 3391 = .ok (.iconst 1, 1) := by decide +kernel
theorem dL_law_3392 : decode cL_law 3392 = .ok (.iadd, 1) := by decide +kernel
theorem dL_law_3393 : decode cL_law 3393 = .ok (.iaload, 1) := by decide +kernel
theorem dL_law_3394 : decode cL_law 3394 = .ok (.aload_n 0, 1) := by decide +kernel
theorem dL_law_3395 : decode cL_law 3395 = .ok (.iload 5, 2) := by decide +kernel
theorem dL_law_3397 : decode cL_law 3397 = .ok (.iconst 2, 1) := by decide +kernel
theorem dL_law_3398 : decode cL_law 3398 = .ok (.iadd, 1) := by decide +kernel
theorem dL_law_3399 : decode cL_law 3399 = .ok (.iaload, 1) := by decide +kernel
theorem dL_law_3400 : decode cL_law 3400 = .ok (.aload_n 0, 1) := by decide +kernel
theorem dL_law_3401 : decode cL_law 3401 = .ok (.iload 5, 2) := by decide +kernel
theorem dL_law_3403 : decode cL_law 3403 = .ok (.iconst 3, 1) := by decide +kernel
theorem dL_law_3404 : decode cL_law 3404 = .ok (.iadd, 1) := by decide +kernel
theorem dL_law_3405 : decode cL_law 3405 = .ok (.iaload, 1) := by decide +kernel
theorem dL_law_3406 : decode cL_law 3406 = .ok (.invokevirtual 340, 3) := by decide +kernel
theorem dL_law_3409 : decode cL_law 3409 = .ok (.istore 7, 2) := by decide +kernel
theorem dL_law_3411 : decode cL_law 3411 = .ok (.aload_n 2, 1) := by decide +kernel
theorem dL_law_3412 : decode cL_law 3412 = .ok (.invokevirtual 198, 3) := by decide +kernel
theorem dL_law_3415 : decode cL_law 3415 = .ok (.iload 6, 2) := by decide +kernel
theorem dL_law_3417 : decode cL_law 3417 = .ok (.if_icmp .eq 5, 3) := by decide +kernel
theorem dL_law_3420 : decode cL_law 3420 = .ok (.iconst 0, 1) := by decide +kernel
theorem dL_law_3421 : decode cL_law 3421 = .ok (.ireturn, 1) := by decide +kernel
theorem dL_law_3422 : decode cL_law 3422 = .ok (.iload 6, 2) := by decide +kernel
theorem dL_law_3424 : decode cL_law 3424 = .ok (.ifCond .ne 15, 3) := by decide +kernel
theorem dL_law_3427 : decode cL_law 3427 = .ok (.aload_n 3, 1) := by decide +kernel
theorem dL_law_3428 : decode cL_law 3428 = .ok (.iconst 0, 1) := by decide +kernel
theorem dL_law_3429 : decode cL_law 3429 = .ok (.laload, 1) := by decide +kernel
theorem dL_law_3430 : decode cL_law 3430 = .ok (.iload 7, 2) := by decide +kernel
theorem dL_law_3432 : decode cL_law 3432 = .ok (.i2l, 1) := by decide +kernel
theorem dL_law_3433 : decode cL_law 3433 = .ok (.lcmp, 1) := by decide +kernel
theorem dL_law_3434 : decode cL_law 3434 = .ok (.ifCond .eq 5, 3) := by decide +kernel
theorem dL_law_3437 : decode cL_law 3437 = .ok (.iconst 0, 1) := by decide +kernel
theorem dL_law_3438 : decode cL_law 3438 = .ok (.ireturn, 1) := by decide +kernel
theorem dL_law_3439 : decode cL_law 3439 = .ok (.goto 642, 3) := by decide +kernel
theorem dL_law_3442 : decode cL_law 3442 = .ok (.aload_n 1, 1) := by decide +kernel
theorem dL_law_3443 : decode cL_law 3443 = .ok (.aload_n 0, 1) := by decide +kernel
theorem dL_law_3444 : decode cL_law 3444 = .ok (.iload 5, 2) := by decide +kernel
theorem dL_law_3446 : decode cL_law 3446 = .ok (.iconst 1, 1) := by decide +kernel
theorem dL_law_3447 : decode cL_law 3447 = .ok (.iadd, 1) := by decide +kernel
theorem dL_law_3448 : decode cL_law 3448 = .ok (.iaload, 1) := by decide +kernel
theorem dL_law_3449 : decode cL_law 3449 = .ok (.aload_n 0, 1) := by decide +kernel
theorem dL_law_3450 : decode cL_law 3450 = .ok (.iload 5, 2) := by decide +kernel
theorem dL_law_3452 : decode cL_law 3452 = .ok (.iconst 2, 1) := by decide +kernel
theorem dL_law_3453 : decode cL_law 3453 = .ok (.iadd, 1) := by decide +kernel
theorem dL_law_3454 : decode cL_law 3454 = .ok (.iaload, 1) := by decide +kernel
theorem dL_law_3455 : decode cL_law 3455 = .ok (.aload_n 0, 1) := by decide +kernel
theorem dL_law_3456 : decode cL_law 3456 = .ok (.iload 5, 2) := by decide +kernel
theorem dL_law_3458 : decode cL_law 3458 = .ok (.iconst 3, 1) := by decide +kernel
theorem dL_law_3459 : decode cL_law 3459 = .ok (.iadd, 1) := by decide +kernel
theorem dL_law_3460 : decode cL_law 3460 = .ok (.iaload, 1) := by decide +kernel
theorem dL_law_3461 : decode cL_law 3461 = .ok (.aload_n 3, 1) := by decide +kernel
theorem dL_law_3462 : decode cL_law 3462 = .ok (.invokestatic 341, 3) := by decide +kernel
theorem dL_law_3465 : decode cL_law 3465 = .ok (.istore 6, 2) := by decide +kernel
theorem dL_law_3467 : decode cL_law 3467 = .ok (.aload_n 2, 1) := by decide +kernel
theorem dL_law_3468 : decode cL_law 3468 = .ok (.aload_n 0, 1) := by decide +kernel
theorem dL_law_3469 : decode cL_law 3469 = .ok (.iload 5, 2) := by decide +kernel
theorem dL_law_3471 : decode cL_law 3471 = .ok (.iconst 1, 1) := by decide +kernel
theorem dL_law_3472 : decode cL_law 3472 = .ok (.iadd, 1) := by decide +kernel
theorem dL_law_3473 : decode cL_law 3473 = .ok (.iaload, 1) := by decide +kernel
theorem dL_law_3474 : decode cL_law 3474 = .ok (.aload_n 0, 1) := by decide +kernel
theorem dL_law_3475 : decode cL_law 3475 = .ok (.iload 5, 2) := by decide +kernel
theorem dL_law_3477 : decode cL_law 3477 = .ok (.iconst 2, 1) := by decide +kernel
theorem dL_law_3478 : decode cL_law 3478 = .ok (.iadd, 1) := by decide +kernel
theorem dL_law_3479 : decode cL_law 3479 = .ok (.iaload, 1) := by decide +kernel
theorem dL_law_3480 : decode cL_law 3480 = .ok (.aload_n 0, 1) := by decide +kernel
theorem dL_law_3481 : decode cL_law 3481 = .ok (.iload 5, 2) := by decide +kernel
theorem dL_law_3483 : decode cL_law 3483 = .ok (.iconst 3, 1) := by decide +kernel
theorem dL_law_3484 : decode cL_law 3484 = .ok (.iadd, 1) := by decide +kernel
theorem dL_law_3485 : decode cL_law 3485 = .ok (.iaload, 1) := by decide +kernel
theorem dL_law_3486 : decode cL_law 3486 = .ok (.invokevirtual 343, 3) := by decide +kernel
theorem dL_law_3489 : decode cL_law 3489 = .ok (.istore 7, 2) := by decide +kernel
theorem dL_law_3491 : decode cL_law 3491 = .ok (.aload_n 2, 1) := by decide +kernel
theorem dL_law_3492 : decode cL_law 3492 = .ok (.invokevirtual 198, 3) := by decide +kernel
theorem dL_law_3495 : decode cL_law 3495 = .ok (.iload 6, 2) := by decide +kernel
theorem dL_law_3497 : decode cL_law 3497 = .ok (.if_icmp .eq 5, 3) := by decide +kernel
theorem dL_law_3500 : decode cL_law 3500 = .ok (.iconst 0, 1) := by decide +kernel
theorem dL_law_3501 : decode cL_law 3501 = .ok (.ireturn, 1) := by decide +kernel
theorem dL_law_3502 : decode cL_law 3502 = .ok (.iload 6, 2) := by decide +kernel
theorem dL_law_3504 : decode cL_law 3504 = .ok (.ifCond .ne 15, 3) := by decide +kernel
theorem dL_law_3507 : decode cL_law 3507 = .ok (.aload_n 3, 1) := by decide +kernel
theorem dL_law_3508 : decode cL_law 3508 = .ok (.iconst 0, 1) := by decide +kernel
theorem dL_law_3509 : decode cL_law 3509 = .ok (.laload, 1) := by decide +kernel
theorem dL_law_3510 : decode cL_law 3510 = .ok (.iload 7, 2) := by decide +kernel
theorem dL_law_3512 : decode cL_law 3512 = .ok (.i2l, 1) := by decide +kernel
theorem dL_law_3513 : decode cL_law 3513 = .ok (.lcmp, 1) := by decide +kernel
theorem dL_law_3514 : decode cL_law 3514 = .ok (.ifCond .eq 5, 3) := by decide +kernel
theorem dL_law_3517 : decode cL_law 3517 = .ok (.iconst 0, 1) := by decide +kernel
theorem dL_law_3518 : decode cL_law 3518 = .ok (.ireturn, 1) := by decide +kernel
theorem dL_law_3519 : decode cL_law 3519 = .ok (.goto 562, 3) := by decide +kernel
theorem dL_law_3522 : decode cL_law 3522 = .ok (.aload_n 1, 1) := by decide +kernel
theorem dL_law_3523 : decode cL_law 3523 = .ok (.aload_n 0, 1) := by decide +kernel
theorem dL_law_3524 : decode cL_law 3524 = .ok (.iload 5, 2) := by decide +kernel
theorem dL_law_3526 : decode cL_law 3526 = .ok (.iconst 1, 1) := by decide +kernel
theorem dL_law_3527 : decode cL_law 3527 = .ok (.iadd, 1) := by decide +kernel
theorem dL_law_3528 : decode cL_law 3528 = .ok (.iaload, 1) := by decide +kernel
theorem dL_law_3529 : decode cL_law 3529 = .ok (.aload_n 0, 1) := by decide +kernel
theorem dL_law_3530 : decode cL_law 3530 = .ok (.iload 5, 2) := by decide +kernel
theorem dL_law_3532 : decode cL_law 3532 = .ok (.iconst 2, 1) := by decide +kernel
theorem dL_law_3533 : decode cL_law 3533 = .ok (.iadd, 1) := by decide +kernel
theorem dL_law_3534 : decode cL_law 3534 = .ok (.iaload, 1) := by decide +kernel
theorem dL_law_3535 : decode cL_law 3535 = .ok (.aload 4, 2) := by decide +kernel
theorem dL_law_3537 : decode cL_law 3537 = .ok (.invokestatic 344, 3) := by decide +kernel
theorem dL_law_3540 : decode cL_law 3540 = .ok (.istore 6, 2) := by decide +kernel
theorem dL_law_3542 : decode cL_law 3542 = .ok (.aload_n 2, 1) := by decide +kernel
theorem dL_law_3543 : decode cL_law 3543 = .ok (.aload_n 0, 1) := by decide +kernel
theorem dL_law_3544 : decode cL_law 3544 = .ok (.iload 5, 2) := by decide +kernel
theorem dL_law_3546 : decode cL_law 3546 = .ok (.iconst 1, 1) := by decide +kernel
theorem dL_law_3547 : decode cL_law 3547 = .ok (.iadd, 1) := by decide +kernel
theorem dL_law_3548 : decode cL_law 3548 = .ok (.iaload, 1) := by decide +kernel
theorem dL_law_3549 : decode cL_law 3549 = .ok (.aload_n 0, 1) := by decide +kernel
theorem dL_law_3550 : decode cL_law 3550 = .ok (.iload 5, 2) := by decide +kernel
theorem dL_law_3552 : decode cL_law 3552 = .ok (.iconst 2, 1) := by decide +kernel
theorem dL_law_3553 : decode cL_law 3553 = .ok (.iadd, 1) := by decide +kernel
theorem dL_law_3554 : decode cL_law 3554 = .ok (.iaload, 1) := by decide +kernel
theorem dL_law_3555 : decode cL_law 3555 = .ok (.invokevirtual 347, 3) := by decide +kernel
theorem dL_law_3558 : decode cL_law 3558 = .ok (.dstore 7, 2) := by decide +kernel
theorem dL_law_3560 : decode cL_law 3560 = .ok (.aload_n 2, 1) := by decide +kernel
theorem dL_law_3561 : decode cL_law 3561 = .ok (.invokevirtual 198, 3) := by decide +kernel
theorem dL_law_3564 : decode cL_law 3564 = .ok (.iload 6, 2) := by decide +kernel
theorem dL_law_3566 : decode cL_law 3566 = .ok (.if_icmp .eq 5, 3) := by decide +kernel
theorem dL_law_3569 : decode cL_law 3569 = .ok (.iconst 0, 1) := by decide +kernel
theorem dL_law_3570 : decode cL_law 3570 = .ok (.ireturn, 1) := by decide +kernel
theorem dL_law_3571 : decode cL_law 3571 = .ok (.iload 6, 2) := by decide +kernel
theorem dL_law_3573 : decode cL_law 3573 = .ok (.ifCond .ne 35, 3) := by decide +kernel
theorem dL_law_3576 : decode cL_law 3576 = .ok (.aload 4, 2) := by decide +kernel
theorem dL_law_3578 : decode cL_law 3578 = .ok (.iconst 0, 1) := by decide +kernel
theorem dL_law_3579 : decode cL_law 3579 = .ok (.daload, 1) := by decide +kernel
theorem dL_law_3580 : decode cL_law 3580 = .ok (.dload 7, 2) := by decide +kernel
theorem dL_law_3582 : decode cL_law 3582 = .ok (.dcmp .l, 1) := by decide +kernel
theorem dL_law_3583 : decode cL_law 3583 = .ok (.ifCond .eq 25, 3) := by decide +kernel
theorem dL_law_3586 : decode cL_law 3586 = .ok (.aload 4, 2) := by decide +kernel
theorem dL_law_3588 : decode cL_law 3588 = .ok (.iconst 0, 1) := by decide +kernel
theorem dL_law_3589 : decode cL_law 3589 = .ok (.daload, 1) := by decide +kernel
theorem dL_law_3590 : decode cL_law 3590 = .ok (.aload 4, 2) := by decide +kernel
theorem dL_law_3592 : decode cL_law 3592 = .ok (.iconst 0, 1) := by decide +kernel
theorem dL_law_3593 : decode cL_law 3593 = .ok (.daload, 1) := by decide +kernel
theorem dL_law_3594 : decode cL_law 3594 = .ok (.dcmp .l, 1) := by decide +kernel
theorem dL_law_3595 : decode cL_law 3595 = .ok (.ifCond .eq 11, 3) := by decide +kernel
theorem dL_law_3598 : decode cL_law 3598 = .ok (.dload 7, 2) := by decide +kernel
theorem dL_law_3600 : decode cL_law 3600 = .ok (.dload 7, 2) := by decide +kernel
theorem dL_law_3602 : decode cL_law 3602 = .ok (.dcmp .l, 1) := by decide +kernel
theorem dL_law_3603 : decode cL_law 3603 = .ok (.ifCond .ne 5, 3) := by decide +kernel
theorem dL_law_3606 : decode cL_law 3606 = .ok (.iconst 0, 1) := by decide +kernel
theorem dL_law_3607 : decode cL_law 3607 = .ok (.ireturn, 1) := by decide +kernel
theorem dL_law_3608 : decode cL_law 3608 = .ok (.goto 473, 3) := by decide +kernel
theorem dL_law_3611 : decode cL_law 3611 = .ok (.aload_n 1, 1) := by decide +kernel
theorem dL_law_3612 : decode cL_law 3612 = .ok (.aload_n 0, 1) := by decide +kernel
theorem dL_law_3613 : decode cL_law 3613 = .ok (.iload 5, 2) := by decide +kernel
theorem dL_law_3615 : decode cL_law 3615 = .ok (.iconst 1, 1) := by decide +kernel
theorem dL_law_3616 : decode cL_law 3616 = .ok (.iadd, 1) := by decide +kernel
theorem dL_law_3617 : decode cL_law 3617 = .ok (.iaload, 1) := by decide +kernel
theorem dL_law_3618 : decode cL_law 3618 = .ok (.aload_n 0, 1) := by decide +kernel
theorem dL_law_3619 : decode cL_law 3619 = .ok (.iload 5, 2) := by decide +kernel
theorem dL_law_3621 : decode cL_law 3621 = .ok (.iconst 2, 1) := by decide +kernel
theorem dL_law_3622 : decode cL_law 3622 = .ok (.iadd, 1) := by decide +kernel
theorem dL_law_3623 : decode cL_law 3623 = .ok (.iaload, 1) := by decide +kernel
theorem dL_law_3624 : decode cL_law 3624 = .ok (.aload_n 0, 1) := by decide +kernel
theorem dL_law_3625 : decode cL_law 3625 = .ok (.iload 5, 2) := by decide +kernel
theorem dL_law_3627 : decode cL_law 3627 = .ok (.iconst 3, 1) := by decide +kernel
theorem dL_law_3628 : decode cL_law 3628 = .ok (.iadd, 1) := by decide +kernel
theorem dL_law_3629 : decode cL_law 3629 = .ok (.iaload, 1) := by decide +kernel
theorem dL_law_3630 : decode cL_law 3630 = .ok (.aload 4, 2) := by decide +kernel
theorem dL_law_3632 : decode cL_law 3632 = .ok (.invokestatic 348, 3) := by decide +kernel
theorem dL_law_3635 : decode cL_law 3635 = .ok (.istore 6, 2) := by decide +kernel
theorem dL_law_3637 : decode cL_law 3637 = .ok (.aload_n 2, 1) := by decide +kernel
theorem dL_law_3638 : decode cL_law 3638 = .ok (.aload_n 0, 1) := by decide +kernel
theorem dL_law_3639 : decode cL_law 3639 = .ok (.iload 5, 2) := by decide +kernel
theorem dL_law_3641 : decode cL_law 3641 = .ok (.iconst 1, 1) := by decide +kernel
theorem dL_law_3642 : decode cL_law 3642 = .ok (.iadd, 1) := by decide +kernel
theorem dL_law_3643 : decode cL_law 3643 = .ok (.iaload, 1) := by decide +kernel
theorem dL_law_3644 : decode cL_law 3644 = .ok (.aload_n 0, 1) := by decide +kernel
theorem dL_law_3645 : decode cL_law 3645 = .ok (.iload 5, 2) := by decide +kernel
theorem dL_law_3647 : decode cL_law 3647 = .ok (.iconst 2, 1) := by decide +kernel
theorem dL_law_3648 : decode cL_law 3648 = .ok (.iadd, 1) := by decide +kernel
theorem dL_law_3649 : decode cL_law 3649 = .ok (.iaload, 1) := by decide +kernel
theorem dL_law_3650 : decode cL_law 3650 = .ok (.aload_n 0, 1) := by decide +kernel
theorem dL_law_3651 : decode cL_law 3651 = .ok (.iload 5, 2) := by decide +kernel
theorem dL_law_3653 : decode cL_law 3653 = .ok (.iconst 3, 1) := by decide +kernel
theorem dL_law_3654 : decode cL_law 3654 = .ok (.iadd, 1) := by decide +kernel
theorem dL_law_3655 : decode cL_law 3655 = .ok (.iaload, 1) := by decide +kernel
theorem dL_law_3656 : decode cL_law 3656 = .ok (.invokevirtual 351, 3) := by decide +kernel
theorem dL_law_3659 : decode cL_law 3659 = .ok (.fstore 7, 2) := by decide +kernel
theorem dL_law_3661 : decode cL_law 3661 = .ok (.aload_n 2, 1) := by decide +kernel
theorem dL_law_3662 : decode cL_law 3662 = .ok (.invokevirtual 198, 3) := by decide +kernel
theorem dL_law_3665 : decode cL_law 3665 = .ok (.iload 6, 2) := by decide +kernel
theorem dL_law_3667 : decode cL_law 3667 = .ok (.if_icmp .eq 5, 3) := by decide +kernel
theorem dL_law_3670 : decode cL_law 3670 = .ok (.iconst 0, 1) := by decide +kernel
theorem dL_law_3671 : decode cL_law 3671 = .ok (.ireturn, 1) := by decide +kernel
theorem dL_law_3672 : decode cL_law 3672 = .ok (.iload 6, 2) := by decide +kernel
theorem dL_law_3674 : decode cL_law 3674 = .ok (.ifCond .ne 36, 3) := by decide +kernel
theorem dL_law_3677 : decode cL_law 3677 = .ok (.aload 4, 2) := by decide +kernel
theorem dL_law_3679 : decode cL_law 3679 = .ok (.iconst 0, 1) := by decide +kernel
theorem dL_law_3680 : decode cL_law 3680 = .ok (.daload, 1) := by decide +kernel
theorem dL_law_3681 : decode cL_law 3681 = .ok (.fload 7, 2) := by decide +kernel
theorem dL_law_3683 : decode cL_law 3683 = .ok (.f2d, 1) := by decide +kernel
theorem dL_law_3684 : decode cL_law 3684 = .ok (.dcmp .l, 1) := by decide +kernel
theorem dL_law_3685 : decode cL_law 3685 = .ok (.ifCond .eq 25, 3) := by decide +kernel
theorem dL_law_3688 : decode cL_law 3688 = .ok (.aload 4, 2) := by decide +kernel
theorem dL_law_3690 : decode cL_law 3690 = .ok (.iconst 0, 1) := by decide +kernel
theorem dL_law_3691 : decode cL_law 3691 = .ok (.daload, 1) := by decide +kernel
theorem dL_law_3692 : decode cL_law 3692 = .ok (.aload 4, 2) := by decide +kernel
theorem dL_law_3694 : decode cL_law 3694 = .ok (.iconst 0, 1) := by decide +kernel
theorem dL_law_3695 : decode cL_law 3695 = .ok (.daload, 1) := by decide +kernel
theorem dL_law_3696 : decode cL_law 3696 = .ok (.dcmp .l, 1) := by decide +kernel
theorem dL_law_3697 : decode cL_law 3697 = .ok (.ifCond .eq 11, 3) := by decide +kernel
theorem dL_law_3700 : decode cL_law 3700 = .ok (.fload 7, 2) := by decide +kernel
theorem dL_law_3702 : decode cL_law 3702 = .ok (.fload 7, 2) := by decide +kernel
theorem dL_law_3704 : decode cL_law 3704 = .ok (.fcmp .l, 1) := by decide +kernel
theorem dL_law_3705 : decode cL_law 3705 = .ok (.ifCond .ne 5, 3) := by decide +kernel
theorem dL_law_3708 : decode cL_law 3708 = .ok (.iconst 0, 1) := by decide +kernel
theorem dL_law_3709 : decode cL_law 3709 = .ok (.ireturn, 1) := by decide +kernel
theorem dL_law_3710 : decode cL_law 3710 = .ok (.goto 371, 3) := by decide +kernel
theorem dL_law_3713 : decode cL_law 3713 = .ok (.aload_n 1, 1) := by decide +kernel
theorem dL_law_3714 : decode cL_law 3714 = .ok (.aload_n 0, 1) := by decide +kernel
theorem dL_law_3715 : decode cL_law 3715 = .ok (.iload 5, 2) := by decide +kernel
theorem dL_law_3717 : decode cL_law 3717 = .ok (.iconst 1, 1) := by decide +kernel
theorem dL_law_3718 : decode cL_law 3718 = .ok (.iadd, 1) := by decide +kernel
theorem dL_law_3719 : decode cL_law 3719 = .ok (.iaload, 1) := by decide +kernel
theorem dL_law_3720 : decode cL_law 3720 = .ok (.aload_n 0, 1) := by decide +kernel
theorem dL_law_3721 : decode cL_law 3721 = .ok (.iload 5, 2) := by decide +kernel
theorem dL_law_3723 : decode cL_law 3723 = .ok (.iconst 2, 1) := by decide +kernel
theorem dL_law_3724 : decode cL_law 3724 = .ok (.iadd, 1) := by decide +kernel
theorem dL_law_3725 : decode cL_law 3725 = .ok (.iaload, 1) := by decide +kernel
theorem dL_law_3726 : decode cL_law 3726 = .ok (.aload_n 3, 1) := by decide +kernel
theorem dL_law_3727 : decode cL_law 3727 = .ok (.invokestatic 352, 3) := by decide +kernel
theorem dL_law_3730 : decode cL_law 3730 = .ok (.istore 6, 2) := by decide +kernel
theorem dL_law_3732 : decode cL_law 3732 = .ok (.aload_n 2, 1) := by decide +kernel
theorem dL_law_3733 : decode cL_law 3733 = .ok (.aload_n 0, 1) := by decide +kernel
theorem dL_law_3734 : decode cL_law 3734 = .ok (.iload 5, 2) := by decide +kernel
theorem dL_law_3736 : decode cL_law 3736 = .ok (.iconst 1, 1) := by decide +kernel
theorem dL_law_3737 : decode cL_law 3737 = .ok (.iadd, 1) := by decide +kernel
theorem dL_law_3738 : decode cL_law 3738 = .ok (.iaload, 1) := by decide +kernel
theorem dL_law_3739 : decode cL_law 3739 = .ok (.aload_n 0, 1) := by decide +kernel
theorem dL_law_3740 : decode cL_law 3740 = .ok (.iload 5, 2) := by decide +kernel
theorem dL_law_3742 : decode cL_law 3742 = .ok (.iconst 2, 1) := by decide +kernel
theorem dL_law_3743 : decode cL_law 3743 = .ok (.iadd, 1) := by decide +kernel
theorem dL_law_3744 : decode cL_law 3744 = .ok (.iaload, 1) := by decide +kernel
theorem dL_law_3745 : decode cL_law 3745 = .ok (.invokevirtual 354, 3) := by decide +kernel
theorem dL_law_3748 : decode cL_law 3748 = .ok (.istore 7, 2) := by decide +kernel
theorem dL_law_3750 : decode cL_law 3750 = .ok (.aload_n 2, 1) := by decide +kernel
theorem dL_law_3751 : decode cL_law 3751 = .ok (.invokevirtual 198, 3) := by decide +kernel
theorem dL_law_3754 : decode cL_law 3754 = .ok (.iload 6, 2) := by decide +kernel
theorem dL_law_3756 : decode cL_law 3756 = .ok (.if_icmp .eq 5, 3) := by decide +kernel
theorem dL_law_3759 : decode cL_law 3759 = .ok (.iconst 0, 1) := by decide +kernel
theorem dL_law_3760 : decode cL_law 3760 = .ok (.ireturn, 1) := by decide +kernel
theorem dL_law_3761 : decode cL_law 3761 = .ok (.iload 6, 2) := by decide +kernel
theorem dL_law_3763 : decode cL_law 3763 = .ok (.ifCond .ne 15, 3) := by decide +kernel
theorem dL_law_3766 : decode cL_law 3766 = .ok (.aload_n 3, 1) := by decide +kernel
theorem dL_law_3767 : decode cL_law 3767 = .ok (.iconst 0, 1) := by decide +kernel
theorem dL_law_3768 : decode cL_law 3768 = .ok (.laload, 1) := by decide +kernel
theorem dL_law_3769 : decode cL_law 3769 = .ok (.iload 7, 2) := by decide +kernel
theorem dL_law_3771 : decode cL_law 3771 = .ok (.i2l, 1) := by decide +kernel
theorem dL_law_3772 : decode cL_law 3772 = .ok (.lcmp, 1) := by decide +kernel
theorem dL_law_3773 : decode cL_law 3773 = .ok (.ifCond .eq 5, 3) := by decide +kernel
theorem dL_law_3776 : decode cL_law 3776 = .ok (.iconst 0, 1) := by decide +kernel
theorem dL_law_3777 : decode cL_law 3777 = .ok (.ireturn, 1) := by decide +kernel
theorem dL_law_3778 : decode cL_law 3778 = .ok (.goto 303, 3) := by decide +kernel
theorem dL_law_3781 : decode cL_law 3781 = .ok (.aload_n 1, 1) := by decide +kernel
theorem dL_law_3782 : decode cL_law 3782 = .ok (.aload_n 0, 1) := by decide +kernel
theorem dL_law_3783 : decode cL_law 3783 = .ok (.iload 5, 2) := by decide +kernel
theorem dL_law_3785 : decode cL_law 3785 = .ok (.iconst 1, 1) := by decide +kernel
theorem dL_law_3786 : decode cL_law 3786 = .ok (.iadd, 1) := by decide +kernel
theorem dL_law_3787 : decode cL_law 3787 = .ok (.iaload, 1) := by decide +kernel
theorem dL_law_3788 : decode cL_law 3788 = .ok (.aload_n 0, 1) := by decide +kernel
theorem dL_law_3789 : decode cL_law 3789 = .ok (.iload 5, 2) := by decide +kernel
theorem dL_law_3791 : decode cL_law 3791 = .ok (.iconst 2, 1) := by decide +kernel
theorem dL_law_3792 : decode cL_law 3792 = .ok (.iadd, 1) := by decide +kernel
theorem dL_law_3793 : decode cL_law 3793 = .ok (.iaload, 1) := by decide +kernel
theorem dL_law_3794 : decode cL_law 3794 = .ok (.aload_n 0, 1) := by decide +kernel
theorem dL_law_3795 : decode cL_law 3795 = .ok (.iload 5, 2) := by decide +kernel
theorem dL_law_3797 : decode cL_law 3797 = .ok (.iconst 3, 1) := by decide +kernel
theorem dL_law_3798 : decode cL_law 3798 = .ok (.iadd, 1) := by decide +kernel
theorem dL_law_3799 : decode cL_law 3799 = .ok (.iaload, 1) := by decide +kernel
theorem dL_law_3800 : decode cL_law 3800 = .ok (.aload_n 3, 1) := by decide +kernel
theorem dL_law_3801 : decode cL_law 3801 = .ok (.invokestatic 355, 3) := by decide +kernel
theorem dL_law_3804 : decode cL_law 3804 = .ok (.istore 6, 2) := by decide +kernel
theorem dL_law_3806 : decode cL_law 3806 = .ok (.aload_n 2, 1) := by decide +kernel
theorem dL_law_3807 : decode cL_law 3807 = .ok (.aload_n 0, 1) := by decide +kernel
theorem dL_law_3808 : decode cL_law 3808 = .ok (.iload 5, 2) := by decide +kernel
theorem dL_law_3810 : decode cL_law 3810 = .ok (.iconst 1, 1) := by decide +kernel
theorem dL_law_3811 : decode cL_law 3811 = .ok (.iadd, 1) := by decide +kernel
theorem dL_law_3812 : decode cL_law 3812 = .ok (.iaload, 1) := by decide +kernel
theorem dL_law_3813 : decode cL_law 3813 = .ok (.aload_n 0, 1) := by decide +kernel
theorem dL_law_3814 : decode cL_law 3814 = .ok (.iload 5, 2) := by decide +kernel
theorem dL_law_3816 : decode cL_law 3816 = .ok (.iconst 2, 1) := by decide +kernel
theorem dL_law_3817 : decode cL_law 3817 = .ok (.iadd, 1) := by decide +kernel
theorem dL_law_3818 : decode cL_law 3818 = .ok (.iaload, 1) := by decide +kernel
theorem dL_law_3819 : decode cL_law 3819 = .ok (.aload_n 0, 1) := by decide +kernel
theorem dL_law_3820 : decode cL_law 3820 = .ok (.iload 5, 2) := by decide +kernel
theorem dL_law_3822 : decode cL_law 3822 = .ok (.iconst 3, 1) := by decide +kernel
theorem dL_law_3823 : decode cL_law 3823 = .ok (.iadd, 1) := by decide +kernel
theorem dL_law_3824 : decode cL_law 3824 = .ok (.iaload, 1) := by decide +kernel
theorem dL_law_3825 : decode cL_law 3825 = .ok (.invokevirtual 357, 3) := by decide +kernel
theorem dL_law_3828 : decode cL_law 3828 = .ok (.istore 7, 2) := by decide +kernel
theorem dL_law_3830 : decode cL_law 3830 = .ok (.aload_n 2, 1) := by decide +kernel
theorem dL_law_3831 : decode cL_law 3831 = .ok (.invokevirtual 198, 3) := by decide +kernel
theorem dL_law_3834 : decode cL_law 3834 = .ok (.iload 6, 2) := by decide +kernel
theorem dL_law_3836 : decode cL_law 3836 = .ok (.if_icmp .eq 5, 3) := by decide +kernel
theorem dL_law_3839 : decode cL_law 3839 = .ok (.iconst 0, 1) := by decide +kernel
theorem dL_law_3840 : decode cL_law 3840 = .ok (.ireturn, 1) := by decide +kernel
theorem dL_law_3841 : decode cL_law 3841 = .ok (.iload 6, 2) := by decide +kernel
theorem dL_law_3843 : decode cL_law 3843 = .ok (.ifCond .ne 15, 3) := by decide +kernel
theorem dL_law_3846 : decode cL_law 3846 = .ok (.aload_n 3, 1) := by decide +kernel
theorem dL_law_3847 : decode cL_law 3847 = .ok (.iconst 0, 1) := by decide +kernel
theorem dL_law_3848 : decode cL_law 3848 = .ok (.laload, 1) := by decide +kernel
theorem dL_law_3849 : decode cL_law 3849 = .ok (.iload 7, 2) := by decide +kernel
theorem dL_law_3851 : decode cL_law 3851 = .ok (.i2l, 1) := by decide +kernel
theorem dL_law_3852 : decode cL_law 3852 = .ok (.lcmp, 1) := by decide +kernel
theorem dL_law_3853 : decode cL_law 3853 = .ok (.ifCond .eq 5, 3) := by decide +kernel
theorem dL_law_3856 : decode cL_law 3856 = .ok (.iconst 0, 1) := by decide +kernel
theorem dL_law_3857 : decode cL_law 3857 = .ok (.ireturn, 1) := by decide +kernel
theorem dL_law_3858 : decode cL_law 3858 = .ok (.goto 223, 3) := by decide +kernel
theorem dL_law_3861 : decode cL_law 3861 = .ok (.aload_n 1, 1) := by decide +kernel
theorem dL_law_3862 : decode cL_law 3862 = .ok (.aload_n 0, 1) := by decide +kernel
theorem dL_law_3863 : decode cL_law 3863 = .ok (.iload 5, 2) := by decide +kernel
theorem dL_law_3865 : decode cL_law 3865 = .ok (.iconst 1, 1) := by decide +kernel
theorem dL_law_3866 : decode cL_law 3866 = .ok (.iadd, 1) := by decide +kernel
theorem dL_law_3867 : decode cL_law 3867 = .ok (.iaload, 1) := by decide +kernel
theorem dL_law_3868 : decode cL_law 3868 = .ok (.aload_n 0, 1) := by decide +kernel
theorem dL_law_3869 : decode cL_law 3869 = .ok (.iload 5, 2) := by decide +kernel
theorem dL_law_3871 : decode cL_law 3871 = .ok (.iconst 2, 1) := by decide +kernel
theorem dL_law_3872 : decode cL_law 3872 = .ok (.iadd, 1) := by decide +kernel
theorem dL_law_3873 : decode cL_law 3873 = .ok (.iaload, 1) := by decide +kernel
theorem dL_law_3874 : decode cL_law 3874 = .ok (.aload_n 3, 1) := by decide +kernel
theorem dL_law_3875 : decode cL_law 3875 = .ok (.invokestatic 358, 3) := by decide +kernel
theorem dL_law_3878 : decode cL_law 3878 = .ok (.istore 6, 2) := by decide +kernel
theorem dL_law_3880 : decode cL_law 3880 = .ok (.aload_n 2, 1) := by decide +kernel
theorem dL_law_3881 : decode cL_law 3881 = .ok (.aload_n 0, 1) := by decide +kernel
theorem dL_law_3882 : decode cL_law 3882 = .ok (.iload 5, 2) := by decide +kernel
theorem dL_law_3884 : decode cL_law 3884 = .ok (.iconst 1, 1) := by decide +kernel
theorem dL_law_3885 : decode cL_law 3885 = .ok (.iadd, 1) := by decide +kernel
theorem dL_law_3886 : decode cL_law 3886 = .ok (.iaload, 1) := by decide +kernel
theorem dL_law_3887 : decode cL_law 3887 = .ok (.aload_n 0, 1) := by decide +kernel
theorem dL_law_3888 : decode cL_law 3888 = .ok (.iload 5, 2) := by decide +kernel
theorem dL_law_3890 : decode cL_law 3890 = .ok (.iconst 2, 1) := by decide +kernel
theorem dL_law_3891 : decode cL_law 3891 = .ok (.iadd, 1) := by decide +kernel
theorem dL_law_3892 : decode cL_law 3892 = .ok (.iaload, 1) := by decide +kernel
theorem dL_law_3893 : decode cL_law 3893 = .ok (.invokevirtual 360, 3) := by decide +kernel
theorem dL_law_3896 : decode cL_law 3896 = .ok (.istore 7, 2) := by decide +kernel
theorem dL_law_3898 : decode cL_law 3898 = .ok (.aload_n 2, 1) := by decide +kernel
theorem dL_law_3899 : decode cL_law 3899 = .ok (.invokevirtual 198, 3) := by decide +kernel
theorem dL_law_3902 : decode cL_law 3902 = .ok (.iload 6, 2) := by decide +kernel
theorem dL_law_3904 : decode cL_law 3904 = .ok (.if_icmp .eq 5, 3) := by decide +kernel
theorem dL_law_3907 : decode cL_law 3907 = .ok (.iconst 0, 1) := by decide +kernel
theorem dL_law_3908 : decode cL_law 3908 = .ok (.ireturn, 1) := by decide +kernel
theorem dL_law_3909 : decode cL_law 3909 = .ok (.iload 6, 2) := by decide +kernel
theorem dL_law_3911 : decode cL_law 3911 = .ok (.ifCond .ne 15, 3) := by decide +kernel
theorem dL_law_3914 : decode cL_law 3914 = .ok (.aload_n 3, 1) := by decide +kernel
theorem dL_law_3915 : decode cL_law 3915 = .ok (.iconst 0, 1) := by decide +kernel
theorem dL_law_3916 : decode cL_law 3916 = .ok (.laload, 1) := by decide +kernel
theorem dL_law_3917 : decode cL_law 3917 = .ok (.iload 7, 2) := by decide +kernel
theorem dL_law_3919 : decode cL_law 3919 = .ok (.i2l, 1) := by decide +kernel
theorem dL_law_3920 : decode cL_law 3920 = .ok (.lcmp, 1) := by decide +kernel
theorem dL_law_3921 : decode cL_law 3921 = .ok (.ifCond .eq 5, 3) := by decide +kernel
theorem dL_law_3924 : decode cL_law 3924 = .ok (.iconst 0, 1) := by decide +kernel
theorem dL_law_3925 : decode cL_law 3925 = .ok (.ireturn, 1) := by decide +kernel
theorem dL_law_3926 : decode cL_law 3926 = .ok (.goto 155, 3) := by decide +kernel
theorem dL_law_3929 : decode cL_law 3929 = .ok (.aload_n 1, 1) := by decide +kernel
theorem dL_law_3930 : decode cL_law 3930 = .ok (.aload_n 0, 1) := by decide +kernel
theorem dL_law_3931 : decode cL_law 3931 = .ok (.iload 5, 2) := by decide +kernel
theorem dL_law_3933 : decode cL_law 3933 = .ok (.iconst 1, 1) := by decide +kernel
theorem dL_law_3934 : decode cL_law 3934 = .ok (.iadd, 1) := by decide +kernel
theorem dL_law_3935 : decode cL_law 3935 = .ok (.iaload, 1) := by decide +kernel
theorem dL_law_3936 : decode cL_law 3936 = .ok (.aload_n 3, 1) := by decide +kernel
theorem dL_law_3937 : decode cL_law 3937 = .ok (.invokestatic 361, 3) := by decide +kernel
theorem dL_law_3940 : decode cL_law 3940 = .ok (.istore 6, 2) := by decide +kernel
theorem dL_law_3942 : decode cL_law 3942 = .ok (.aload_n 2, 1) := by decide +kernel
theorem dL_law_3943 : decode cL_law 3943 = .ok (.aload_n 0, 1) := by decide +kernel
theorem dL_law_3944 : decode cL_law 3944 = .ok (.iload 5, 2) := by decide +kernel
theorem dL_law_3946 : decode cL_law 3946 = .ok (.iconst 1, 1) := by decide +kernel
theorem dL_law_3947 : decode cL_law 3947 = .ok (.iadd, 1) := by decide +kernel
theorem dL_law_3948 : decode cL_law 3948 = .ok (.iaload, 1) := by decide +kernel
theorem dL_law_3949 : decode cL_law 3949 = .ok (.invokevirtual 363, 3) := by decide +kernel
theorem dL_law_3952 : decode cL_law 3952 = .ok (.istore 7, 2) := by decide +kernel
theorem dL_law_3954 : decode cL_law 3954 = .ok (.aload_n 2, 1) := by decide +kernel
theorem dL_law_3955 : decode cL_law 3955 = .ok (.invokevirtual 198, 3) := by decide +kernel
theorem dL_law_3958 : decode cL_law 3958 = .ok (.iload 6, 2) := by decide +kernel
theorem dL_law_3960 : decode cL_law 3960 = .ok (.if_icmp .eq 5, 3) := by decide +kernel
theorem dL_law_3963 : decode cL_law 3963 = .ok (.iconst 0, 1) := by decide +kernel
theorem dL_law_3964 : decode cL_law 3964 = .ok (.ireturn, 1) := by decide +kernel
theorem dL_law_3965 : decode cL_law 3965 = .ok (.iload 6, 2) := by decide +kernel
theorem dL_law_3967 : decode cL_law 3967 = .ok (.ifCond .ne 22, 3) := by decide +kernel
theorem dL_law_3970 : decode cL_law 3970 = .ok (.aload_n 3, 1) := by decide +kernel
theorem dL_law_3971 : decode cL_law 3971 = .ok (.iconst 0, 1) := by decide +kernel
theorem dL_law_3972 : decode cL_law 3972 = .ok (.laload, 1) := by decide +kernel
theorem dL_law_3973 : decode cL_law 3973 = .ok (.iload 7, 2) := by decide +kernel
theorem dL_law_3975 : decode cL_law 3975 = .ok (.ifCond .eq 7, 3) := by decide +kernel
theorem dL_law_3978 : decode cL_law 3978 = .ok (.lconst 1, 1) := by decide +kernel
theorem dL_law_3979 : decode cL_law 3979 = .ok (.goto 4, 3) := by decide +kernel
theorem dL_law_3982 : decode cL_law 3982 = .ok (.lconst 0, 1) := by decide +kernel
theorem dL_law_3983 : decode cL_law 3983 = .ok (.lcmp, 1) := by decide +kernel
theorem dL_law_3984 : decode cL_law 3984 = .ok (.ifCond .eq 5, 3) := by decide +kernel
theorem dL_law_3987 : decode cL_law 3987 = .ok (.iconst 0, 1) := by decide +kernel
theorem dL_law_3988 : decode cL_law 3988 = .ok (.ireturn, 1) := by decide +kernel
theorem dL_law_3989 : decode cL_law 3989 = .ok (.goto 92, 3) := by decide +kernel
theorem dL_law_3992 : decode cL_law 3992 = .ok (.aload_n 1, 1) := by decide +kernel
theorem dL_law_3993 : decode cL_law 3993 = .ok (.aload_n 0, 1) := by decide +kernel
theorem dL_law_3994 : decode cL_law 3994 = .ok (.iload 5, 2) := by decide +kernel
theorem dL_law_3996 : decode cL_law 3996 = .ok (.iconst 1, 1) := by decide +kernel
theorem dL_law_3997 : decode cL_law 3997 = .ok (.iadd, 1) := by decide +kernel
theorem dL_law_3998 : decode cL_law 3998 = .ok (.iaload, 1) := by decide +kernel
theorem dL_law_3999 : decode cL_law 3999 = .ok (.aload_n 0, 1) := by decide +kernel
theorem dL_law_4000 : decode cL_law 4000 = .ok (.iload 5, 2) := by decide +kernel
theorem dL_law_4002 : decode cL_law 4002 = .ok (.iconst 2, 1) := by decide +kernel
theorem dL_law_4003 : decode cL_law 4003 = .ok (.iadd, 1) := by decide +kernel
theorem dL_law_4004 : decode cL_law 4004 = .ok (.iaload, 1) := by decide +kernel
theorem dL_law_4005 : decode cL_law 4005 = .ok (.aload_n 3, 1) := by decide +kernel
theorem dL_law_4006 : decode cL_law 4006 = .ok (.invokestatic 364, 3) := by decide +kernel
theorem dL_law_4009 : decode cL_law 4009 = .ok (.istore 6, 2) := by decide +kernel
theorem dL_law_4011 : decode cL_law 4011 = .ok (.aload_n 2, 1) := by decide +kernel
theorem dL_law_4012 : decode cL_law 4012 = .ok (.aload_n 0, 1) := by decide +kernel
theorem dL_law_4013 : decode cL_law 4013 = .ok (.iload 5, 2) := by decide +kernel
theorem dL_law_4015 : decode cL_law 4015 = .ok (.iconst 1, 1) := by decide +kernel
theorem dL_law_4016 : decode cL_law 4016 = .ok (.iadd, 1) := by decide +kernel
theorem dL_law_4017 : decode cL_law 4017 = .ok (.iaload, 1) := by decide +kernel
theorem dL_law_4018 : decode cL_law 4018 = .ok (.aload_n 0, 1) := by decide +kernel
theorem dL_law_4019 : decode cL_law 4019 = .ok (.iload 5, 2) := by decide +kernel
theorem dL_law_4021 : decode cL_law 4021 = .ok (.iconst 2, 1) := by decide +kernel
theorem dL_law_4022 : decode cL_law 4022 = .ok (.iadd, 1) := by decide +kernel
theorem dL_law_4023 : decode cL_law 4023 = .ok (.iaload, 1) := by decide +kernel
theorem dL_law_4024 : decode cL_law 4024 = .ok (.invokevirtual 366, 3) := by decide +kernel
theorem dL_law_4027 : decode cL_law 4027 = .ok (.istore 7, 2) := by decide +kernel
theorem dL_law_4029 : decode cL_law 4029 = .ok (.aload_n 2, 1) := by decide +kernel
theorem dL_law_4030 : decode cL_law 4030 = .ok (.invokevirtual 198, 3) := by decide +kernel
theorem dL_law_4033 : decode cL_law 4033 = .ok (.iload 6, 2) := by decide +kernel
theorem dL_law_4035 : decode cL_law 4035 = .ok (.if_icmp .eq 5, 3) := by decide +kernel
theorem dL_law_4038 : decode cL_law 4038 = .ok (.iconst 0, 1) := by decide +kernel
theorem dL_law_4039 : decode cL_law 4039 = .ok (.ireturn, 1) := by decide +kernel
theorem dL_law_4040 : decode cL_law 4040 = .ok (.iload 6, 2) := by decide +kernel
theorem dL_law_4042 : decode cL_law 4042 = .ok (.ifCond .ne 22, 3) := by decide +kernel
theorem dL_law_4045 : decode cL_law 4045 = .ok (.aload_n 3, 1) := by decide +kernel
theorem dL_law_4046 : decode cL_law 4046 = .ok (.iconst 0, 1) := by decide +kernel
theorem dL_law_4047 : decode cL_law 4047 = .ok (.laload, 1) := by decide +kernel
theorem dL_law_4048 : decode cL_law 4048 = .ok (.iload 7, 2) := by decide +kernel
theorem dL_law_4050 : decode cL_law 4050 = .ok (.ifCond .eq 7, 3) := by decide +kernel
theorem dL_law_4053 : decode cL_law 4053 = .ok (.lconst 1, 1) := by decide +kernel
theorem dL_law_4054 : decode cL_law 4054 = .ok (.goto 4, 3) := by decide +kernel
theorem dL_law_4057 : decode cL_law 4057 = .ok (.lconst 0, 1) := by decide +kernel
theorem dL_law_4058 : decode cL_law 4058 = .ok (.lcmp, 1) := by decide +kernel
theorem dL_law_4059 : decode cL_law 4059 = .ok (.ifCond .eq 5, 3) := by decide +kernel
theorem dL_law_4062 : decode cL_law 4062 = .ok (.iconst 0, 1) := by decide +kernel
theorem dL_law_4063 : decode cL_law 4063 = .ok (.ireturn, 1) := by decide +kernel
theorem dL_law_4064 : decode cL_law 4064 = .ok (.goto 17, 3) := by decide +kernel
theorem dL_law_4067 : decode cL_law 4067 = .ok (.aload_n 1, 1) := by decide +kernel
theorem dL_law_4068 : decode cL_law 4068 = .ok (.invokevirtual 367, 3) := by decide +kernel
theorem dL_law_4071 : decode cL_law 4071 = .ok (.aload_n 2, 1) := by decide +kernel
theorem dL_law_4072 : decode cL_law 4072 = .ok (.invokevirtual 371, 3) := by decide +kernel
theorem dL_law_4075 : decode cL_law 4075 = .ok (.lcmp, 1) := by decide +kernel
theorem dL_law_4076 : decode cL_law 4076 = .ok (.ifCond .eq 5, 3) := by decide +kernel
theorem dL_law_4079 : decode cL_law 4079 = .ok (.iconst 0, 1) := by decide +kernel
theorem dL_law_4080 : decode cL_law 4080 = .ok (.ireturn, 1) := by decide +kernel
theorem dL_law_4081 : decode cL_law 4081 = .ok (.iinc 5 4, 3) := by decide +kernel
theorem dL_law_4084 : decode cL_law 4084 = .ok (.goto (-4056), 3) := by decide +kernel
theorem dL_law_4087 : decode cL_law 4087 = .ok (.iconst 1, 1) := by decide +kernel
theorem dL_law_4088 : decode cL_law 4088 = .ok (.ireturn, 1) := by decide +kernel
