theorem dL_law_2205 : decode cL_law 2205 = .ok (.invokestatic 180, 3) := by decide +kernel
theorem dL_law_2208 : decode cL_law 2208 = .ok (.istore 5, 2) := by decide +kernel
theorem dL_law_2210 : decode cL_law 2210 = .ok (.aload_n 2, 1) := by decide +kernel
theorem dL_law_2211 : decode cL_law 2211 = .ok (.aload_n 0, 1) := by decide +kernel
theorem dL_law_2212 : decode cL_law 2212 = .ok (.iload 4, 2) := by decide +kernel
theorem dL_law_2214 : decode cL_law 2214 = .ok (.iconst 1, 1) := by decide +kernel
theorem dL_law_2215 : decode cL_law 2215 = .ok (.iadd, 1) := by decide +kernel
theorem dL_law_2216 : decode cL_law 2216 = .ok (.iaload, 1) := by decide +kernel
theorem dL_law_2217 : decode cL_law 2217 = .ok (.aload_n 0, 1) := by decide +kernel
theorem dL_law_2218 : decode cL_law 2218 = .ok (.iload 4, 2) := by decide +kernel
theorem dL_law_2220 : decode cL_law 2220 = .ok (.iconst 2, 1) := by decide +kernel
theorem dL_law_2221 : decode cL_law 2221 = .ok (.iadd, 1) := by decide +kernel
theorem dL_law_2222 : decode cL_law 2222 = .ok (.iaload, 1) := by decide +kernel
theorem dL_law_2223 : decode cL_law 2223 = .ok (.aload_n 0, 1) := by decide +kernel
theorem dL_law_2224 : decode cL_law 2224 = .ok (.iload 4, 2) := by decide +kernel
theorem dL_law_2226 : decode cL_law 2226 = .ok (.iconst 3, 1) := by decide +kernel
theorem dL_law_2227 : decode cL_law 2227 = .ok (.iadd, 1) := by decide +kernel
theorem dL_law_2228 : decode cL_law 2228 = .ok (.iaload, 1) := by decide +kernel
theorem dL_law_2229 : decode cL_law 2229 = .ok (.aload_n 0, 1) := by decide +kernel
theorem dL_law_2230 : decode cL_law 2230 = .ok (.iload 4, 2) := by decide +kernel
theorem dL_law_2232 : decode cL_law 2232 = .ok (.iconst 4, 1) := by decide +kernel
theorem dL_law_2233 : decode cL_law 2233 = .ok (.iadd, 1) := by decide +kernel
theorem dL_law_2234 : decode cL_law 2234 = .ok (.iaload, 1) := by decide +kernel
theorem dL_law_2235 : decode cL_law 2235 = .ok (.aload_n 0, 1) := by decide +kernel
theorem dL_law_2236 : decode cL_law 2236 = .ok (.iload 4, 2) := by decide +kernel
theorem dL_law_2238 : decode cL_law 2238 = .ok (.iconst 5, 1) := by decide +kernel
theorem dL_law_2239 : decode cL_law 2239 = .ok (.iadd, 1) := by decide +kernel
theorem dL_law_2240 : decode cL_law 2240 = .ok (.iaload, 1) := by decide +kernel
theorem dL_law_2241 : decode cL_law 2241 = .ok (.invokevirtual 183, 3) := by decide +kernel
theorem dL_law_2244 : decode cL_law 2244 = .ok (.istore 6, 2) := by decide +kernel
theorem dL_law_2246 : decode cL_law 2246 = .ok (.aload_n 2, 1) := by decide +kernel
theorem dL_law_2247 : decode cL_law 2247 = .ok (.invokevirtual 98, 3) := by decide +kernel
theorem dL_law_2250 : decode cL_law 2250 = .ok (.iload 5, 2) := by decide +kernel
theorem dL_law_2252 : decode cL_law 2252 = .ok (.if_icmp .eq 5, 3) := by decide +kernel
theorem dL_law_2255 : decode cL_law 2255 = .ok (.iconst 0, 1) := by decide +kernel
theorem dL_law_2256 : decode cL_law 2256 = .ok (.ireturn, 1) := by decide +kernel
theorem dL_law_2257 : decode cL_law 2257 = .ok (.iload 5, 2) := by decide +kernel
theorem dL_law_2259 : decode cL_law 2259 = .ok (.ifCond .ne 15, 3) := by decide +kernel
theorem dL_law_2262 : decode cL_law 2262 = .ok (.aload_n 3, 1) := by decide +kernel
theorem dL_law_2263 : decode cL_law 2263 = .ok (.iconst 0, 1) := by decide +kernel
theorem dL_law_2264 : decode cL_law 2264 = .ok (.laload, 1) := by decide +kernel
theorem dL_law_2265 : decode cL_law 2265 = .ok (.iload 6, 2) := by decide +kernel
theorem dL_law_2267 : decode cL_law 2267 = .ok (.i2l, 1) := by decide +kernel
theorem dL_law_2268 : decode cL_law 2268 = .ok (.lcmp, 1) := by decide +kernel
theorem dL_law_2269 : decode cL_law 2269 = .ok (.ifCond .eq 5, 3) := by decide +kernel
theorem dL_law_2272 : decode cL_law 2272 = .ok (.iconst 0, 1) := by decide +kernel
theorem dL_law_2273 : decode cL_law 2273 = .ok (.ireturn, 1) := by decide +kernel
theorem dL_law_2274 : decode cL_law 2274 = .ok (.goto 1048, 3) := by decide +kernel
theorem dL_law_2277 : decode cL_law 2277 = .ok (.aload_n 1, 1) := by decide +kernel
theorem dL_law_2278 : decode cL_law 2278 = .ok (.aload_n 0, 1) := by decide +kernel
theorem dL_law_2279 : decode cL_law 2279 = .ok (.iload 4, 2) := by decide +kernel
theorem dL_law_2281 : decode cL_law 2281 = .ok (.iconst 1, 1) := by decide +kernel
theorem dL_law_2282 : decode cL_law 2282 = .ok (.iadd, 1) := by decide +kernel
theorem dL_law_2283 : decode cL_law 2283 = .ok (.iaload, 1) := by decide +kernel
theorem dL_law_2284 : decode cL_law 2284 = .ok (.aload_n 0, 1) := by decide +kernel
theorem dL_law_2285 : decode cL_law 2285 = .ok (.iload 4, 2) := by decide +kernel
theorem dL_law_2287 : decode cL_law 2287 = .ok (.iconst 2, 1) := by decide +kernel
theorem dL_law_2288 : decode cL_law 2288 = .ok (.iadd, 1) := by decide +kernel
theorem dL_law_2289 : decode cL_law 2289 = .ok (.iaload, 1) := by decide +kernel
theorem dL_law_2290 : decode cL_law 2290 = .ok (.aload_n 0, 1) := by decide +kernel
theorem dL_law_2291 : decode cL_law 2291 = .ok (.iload 4, 2) := by decide +kernel
theorem dL_law_2293 : decode cL_law 2293 = .ok (.iconst 3, 1) := by decide +kernel
theorem dL_law_2294 : decode cL_law 2294 = .ok (.iadd, 1) := by decide +kernel
theorem dL_law_2295 : decode cL_law 2295 = .ok (.iaload, 1) := by decide +kernel
theorem dL_law_2296 : decode cL_law 2296 = .ok (.aload_n 0, 1) := by decide +kernel
theorem dL_law_2297 : decode cL_law 2297 = .ok (.iload 4, 2) := by decide +kernel
theorem dL_law_2299 : decode cL_law 2299 = .ok (.iconst 4, 1) := by decide +kernel
theorem dL_law_2300 : decode cL_law 2300 = .ok (.iadd, 1) := by decide +kernel
theorem dL_law_2301 : decode cL_law 2301 = .ok (.iaload, 1) := by decide +kernel
theorem dL_law_2302 : decode cL_law 2302 = .ok (.aload_n 0, 1) := by decide +kernel
theorem dL_law_2303 : decode cL_law 2303 = .ok (.iload 4, 2) := by decide +kernel
theorem dL_law_2305 : decode cL_law 2305 = .ok (.iconst 5, 1) := by decide +kernel
theorem dL_law_2306 : decode cL_law 2306 = .ok (.iadd, 1) := by decide +kernel
theorem dL_law_2307 : decode cL_law 2307 = .ok (.iaload, 1) := by decide +kernel
theorem dL_law_2308 : decode cL_law 2308 = .ok (.aload_n 0, 1) := by decide +kernel
theorem dL_law_2309 : decode cL_law 2309 = .ok (.iload 4, 2) := by decide +kernel
theorem dL_law_2311 : decode cL_law 2311 = .ok (.bipush 6, 2) := by decide +kernel
theorem dL_law_2313 : decode cL_law 2313 = .ok (.iadd, 1) := by decide +kernel
theorem dL_law_2314 : decode cL_law 2314 = .ok (.iaload, 1) := by decide +kernel
theorem dL_law_2315 : decode cL_law 2315 = .ok (.aload_n 3, 1) := by decide +kernel
theorem dL_law_2316 : decode cL_law 2316 = .ok (.invokestatic 184, 3) := by decide +kernel
theorem dL_law_2319 : decode cL_law 2319 = .ok (.istore 5, 2) := by decide +kernel
theorem dL_law_2321 : decode cL_law 2321 = .ok (.aload_n 2, 1) := by decide +kernel
theorem dL_law_2322 : decode cL_law 2322 = .ok (.aload_n 0, 1) := by decide +kernel
theorem dL_law_2323 : decode cL_law 2323 = .ok (.iload 4, 2) := by decide +kernel
theorem dL_law_2325 : decode cL_law 2325 = .ok (.iconst 1, 1) := by decide +kernel
theorem dL_law_2326 : decode cL_law 2326 = .ok (.iadd, 1) := by decide +kernel
theorem dL_law_2327 : decode cL_law 2327 = .ok (.iaload, 1) := by decide +kernel
theorem dL_law_2328 : decode cL_law 2328 = .ok (.aload_n 0, 1) := by decide +kernel
theorem dL_law_2329 : decode cL_law 2329 = .ok (.iload 4, 2) := by decide +kernel
theorem dL_law_2331 : decode cL_law 2331 = .ok (.iconst 2, 1) := by decide +kernel
theorem dL_law_2332 : decode cL_law 2332 = .ok (.iadd, 1) := by decide +kernel
theorem dL_law_2333 : decode cL_law 2333 = .ok (.iaload, 1) := by decide +kernel
theorem dL_law_2334 : decode cL_law 2334 = .ok (.aload_n 0, 1) := by decide +kernel
theorem dL_law_2335 : decode cL_law 2335 = .ok (.iload 4, 2) := by decide +kernel
theorem dL_law_2337 : decode cL_law 2337 = .ok (.iconst 3, 1) := by decide +kernel
theorem dL_law_2338 : decode cL_law 2338 = .ok (.iadd, 1) := by decide +kernel
theorem dL_law_2339 : decode cL_law 2339 = .ok (.iaload, 1) := by decide +kernel
theorem dL_law_2340 : decode cL_law 2340 = .ok (.aload_n 0, 1) := by decide +kernel
theorem dL_law_2341 : decode cL_law 2341 = .ok (.iload 4, 2) := by decide +kernel
theorem dL_law_2343 : decode cL_law 2343 = .ok (.iconst 4, 1) := by decide +kernel
theorem dL_law_2344 : decode cL_law 2344 = .ok (.iadd, 1) := by decide +kernel
theorem dL_law_2345 : decode cL_law 2345 = .ok (.iaload, 1) := by decide +kernel
theorem dL_law_2346 : decode cL_law 2346 = .ok (.aload_n 0, 1) := by decide +kernel
theorem dL_law_2347 : decode cL_law 2347 = .ok (.iload 4, 2) := by decide +kernel
theorem dL_law_2349 : decode cL_law 2349 = .ok (.iconst 5, 1) := by decide +kernel
theorem dL_law_2350 : decode cL_law 2350 = .ok (.iadd, 1) := by decide +kernel
theorem dL_law_2351 : decode cL_law 2351 = .ok (.iaload, 1) := by decide +kernel
theorem dL_law_2352 : decode cL_law 2352 = .ok (.aload_n 0, 1) := by decide +kernel
theorem dL_law_2353 : decode cL_law 2353 = .ok (.iload 4, 2) := by decide +kernel
theorem dL_law_2355 : decode cL_law 2355 = .ok (.bipush 6, 2) := by decide +kernel
theorem dL_law_2357 : decode cL_law 2357 = .ok (.iadd, 1) := by decide +kernel
theorem dL_law_2358 : decode cL_law 2358 = .ok (.iaload, 1) := by decide +kernel
theorem dL_law_2359 : decode cL_law 2359 = .ok (.invokevirtual 186, 3) := by decide +kernel
theorem dL_law_2362 : decode cL_law 2362 = .ok (.istore 6, 2) := by decide +kernel
theorem dL_law_2364 : decode cL_law 2364 = .ok (.aload_n 2, 1) := by decide +kernel
theorem dL_law_2365 : decode cL_law 2365 = .ok (.invokevirtual 98, 3) := by decide +kernel
theorem dL_law_2368 : decode cL_law 2368 = .ok (.iload 5, 2) := by decide +kernel
theorem dL_law_2370 : decode cL_law 2370 = .ok (.if_icmp .eq 5, 3) := by decide +kernel
theorem dL_law_2373 : decode cL_law 2373 = .ok (.iconst 0, 1) := by decide +kernel
theorem dL_law_2374 : decode cL_law 2374 = .ok (.ireturn, 1) := by decide +kernel
theorem dL_law_2375 : decode cL_law 2375 = .ok (.iload 5, 2) := by decide +kernel
theorem dL_law_2377 : decode cL_law 2377 = .ok (.ifCond .ne 15, 3) := by decide +kernel
theorem dL_law_2380 : decode cL_law 2380 = .ok (.aload_n 3, 1) := by decide +kernel
theorem dL_law_2381 : decode cL_law 2381 = .ok (.iconst 0, 1) := by decide +kernel
theorem dL_law_2382 : decode cL_law 2382 = .ok (.laload, 1) := by decide +kernel
theorem dL_law_2383 : decode cL_law 2383 = .ok (.iload 6, 2) := by decide +kernel
theorem dL_law_2385 : decode cL_law 2385 = .ok (.i2l, 1) := by decide +kernel
theorem dL_law_2386 : decode cL_law 2386 = .ok (.lcmp, 1) := by decide +kernel
theorem dL_law_2387 : decode cL_law 2387 = .ok (.ifCond .eq 5, 3) := by decide +kernel
theorem dL_law_2390 : decode cL_law 2390 = .ok (.iconst 0, 1) := by decide +kernel
theorem dL_law_2391 : decode cL_law 2391 = .ok (.ireturn, 1) := by decide +kernel
theorem dL_law_2392 : decode cL_law 2392 = .ok (.goto 930, 3) := by decide +kernel
theorem dL_law_2395 : decode cL_law 2395 = .ok (.aload_n 1, 1) := by decide +kernel
theorem dL_law_2396 : decode cL_law 2396 = .ok (.aload_n 0, 1) := by decide +kernel
theorem dL_law_2397 : decode cL_law 2397 = .ok (.iload 4, 2) := by decide +kernel
theorem dL_law_2399 : decode cL_law 2399 = .ok (.iconst 1, 1) := by decide +kernel
theorem dL_law_2400 : decode cL_law 2400 = .ok (.iadd, 1) := by decide +kernel
theorem dL_law_2401 : decode cL_law 2401 = .ok (.iaload, 1) := by decide +kernel
theorem dL_law_2402 : decode cL_law 2402 = .ok (.aload_n 0, 1) := by decide +kernel
theorem dL_law_2403 : decode cL_law 2403 = .ok (.iload 4, 2) := by decide +kernel
theorem dL_law_2405 : decode cL_law 2405 = .ok (.iconst 2, 1) := by decide +kernel
theorem dL_law_2406 : decode cL_law 2406 = .ok (.iadd, 1) := by decide +kernel
theorem dL_law_2407 : decode cL_law 2407 = .ok (.iaload, 1) := by decide +kernel
theorem dL_law_2408 : decode cL_law 2408 = .ok (.aload_n 0, 1) := by decide +kernel
theorem dL_law_2409 : decode cL_law 2409 = .ok (.iload 4, 2) := by decide +kernel
theorem dL_law_2411 : decode cL_law 2411 = .ok (.iconst 3, 1) := by decide +kernel
theorem dL_law_2412 : decode cL_law 2412 = .ok (.iadd, 1) := by decide +kernel
theorem dL_law_2413 : decode cL_law 2413 = .ok (.iaload, 1) := by decide +kernel
theorem dL_law_2414 : decode cL_law 2414 = .ok (.aload_n 0, 1) := by decide +kernel
theorem dL_law_2415 : decode cL_law 2415 = .ok (.iload 4, 2) := by decide +kernel
theorem dL_law_2417 : decode cL_law 2417 = .ok (.iconst 4, 1) := by decide +kernel
theorem dL_law_2418 : decode cL_law 2418 = .ok (.iadd, 1) := by decide +kernel
theorem dL_law_2419 : decode cL_law 2419 = .ok (.iaload, 1) := by decide +kernel
theorem dL_law_2420 : decode cL_law 2420 = .ok (.aload_n 0, 1) := by decide +kernel
theorem dL_law_2421 : decode cL_law 2421 = .ok (.iload 4, 2) := by decide +kernel
theorem dL_law_2423 : decode cL_law 2423 = .ok (.iconst 5, 1) := by decide +kernel
theorem dL_law_2424 : decode cL_law 2424 = .ok (.iadd, 1) := by decide +kernel
theorem dL_law_2425 : decode cL_law 2425 = .ok (.iaload, 1) := by decide +kernel
theorem dL_law_2426 : decode cL_law 2426 = .ok (.aload_n 0, 1) := by decide +kernel
theorem dL_law_2427 : decode cL_law 2427 = .ok (.iload 4, 2) := by decide +kernel
theorem dL_law_2429 : decode cL_law 2429 = .ok (.bipush 6, 2) := by decide +kernel
theorem dL_law_2431 : decode cL_law 2431 = .ok (.iadd, 1) := by decide +kernel
theorem dL_law_2432 : decode cL_law 2432 = .ok (.iaload, 1) := by decide +kernel
theorem dL_law_2433 : decode cL_law 2433 = .ok (.aload_n 0, 1) := by decide +kernel
theorem dL_law_2434 : decode cL_law 2434 = .ok (.iload 4, 2) := by decide +kernel
theorem dL_law_2436 : decode cL_law 2436 = .ok (.bipush 7, 2) := by decide +kernel
theorem dL_law_2438 : decode cL_law 2438 = .ok (.iadd, 1) := by decide +kernel
theorem dL_law_2439 : decode cL_law 2439 = .ok (.iaload, 1) := by decide +kernel
theorem dL_law_2440 : decode cL_law 2440 = .ok (.invokevirtual 187, 3) := by decide +kernel
theorem dL_law_2443 : decode cL_law 2443 = .ok (.aload_n 2, 1) := by decide +kernel
theorem dL_law_2444 : decode cL_law 2444 = .ok (.aload_n 0, 1) := by decide +kernel
theorem dL_law_2445 : decode cL_law 2445 = .ok (.iload 4, 2) := by decide +kernel
theorem dL_law_2447 : decode cL_law 2447 = .ok (.iconst 1, 1) := by decide +kernel
theorem dL_law_2448 : decode cL_law 2448 = .ok (.iadd, 1) := by decide +kernel
theorem dL_law_2449 : decode cL_law 2449 = .ok (.iaload, 1) := by decide +kernel
theorem dL_law_2450 : decode cL_law 2450 = .ok (.aload_n 0, 1) := by decide +kernel
theorem dL_law_2451 : decode cL_law 2451 = .ok (.iload 4, 2) := by decide +kernel
theorem dL_law_2453 : decode cL_law 2453 = .ok (.iconst 2, 1) := by decide +kernel
theorem dL_law_2454 : decode cL_law 2454 = .ok (.iadd, 1) := by decide +kernel
theorem dL_law_2455 : decode cL_law 2455 = .ok (.iaload, 1) := by decide +kernel
theorem dL_law_2456 : decode cL_law 2456 = .ok (.aload_n 0, 1) := by decide +kernel
theorem dL_law_2457 : decode cL_law 2457 = .ok (.iload 4, 2) := by decide +kernel
theorem dL_law_2459 : decode cL_law 2459 = .ok (.iconst 3, 1) := by decide +kernel
theorem dL_law_2460 : decode cL_law 2460 = .ok (.iadd, 1) := by decide +kernel
theorem dL_law_2461 : decode cL_law 2461 = .ok (.iaload, 1) := by decide +kernel
theorem dL_law_2462 : decode cL_law 2462 = .ok (.aload_n 0, 1) := by decide +kernel
theorem dL_law_2463 : decode cL_law 2463 = .ok (.iload 4, 2) := by decide +kernel
theorem dL_law_2465 : decode cL_law 2465 = .ok (.iconst 4, 1) := by decide +kernel
theorem dL_law_2466 : decode cL_law 2466 = .ok (.iadd, 1) := by decide +kernel
theorem dL_law_2467 : decode cL_law 2467 = .ok (.iaload, 1) := by decide +kernel
theorem dL_law_2468 : decode cL_law 2468 = .ok (.aload_n 0, 1) := by decide +kernel
theorem dL_law_2469 : decode cL_law 2469 = .ok (.iload 4, 2) := by decide +kernel
theorem dL_law_2471 : decode cL_law 2471 = .ok (.iconst 5, 1) := by decide +kernel
theorem dL_law_2472 : decode cL_law 2472 = .ok (.iadd, 1) := by decide +kernel
theorem dL_law_2473 : decode cL_law 2473 = .ok (.iaload, 1) := by decide +kernel
theorem dL_law_2474 : decode cL_law 2474 = .ok (.aload_n 0, 1) := by decide +kernel
theorem dL_law_2475 : decode cL_law 2475 = .ok (.iload 4, 2) := by decide +kernel
theorem dL_law_2477 : decode cL_law 2477 = .ok (.bipush 6, 2) := by decide +kernel
theorem dL_law_2479 : decode cL_law 2479 = .ok (.iadd, 1) := by decide +kernel
theorem dL_law_2480 : decode cL_law 2480 = .ok (.iaload, 1) := by decide +kernel
theorem dL_law_2481 : decode cL_law 2481 = .ok (.aload_n 0, 1) := by decide +kernel
theorem dL_law_2482 : decode cL_law 2482 = .ok (.iload 4, 2) := by decide +kernel
theorem dL_law_2484 : decode cL_law 2484 = .ok (.bipush 7, 2) := by decide +kernel
theorem dL_law_2486 : decode cL_law 2486 = .ok (.iadd, 1) := by decide +kernel
theorem dL_law_2487 : decode cL_law 2487 = .ok (.iaload, 1) := by decide +kernel
theorem dL_law_2488 : decode cL_law 2488 = .ok (.invokevirtual 190, 3) := by decide +kernel
theorem dL_law_2491 : decode cL_law 2491 = .ok (.if_icmp .eq 831, 3) := by decide +kernel
theorem dL_law_2494 : decode cL_law 2494 = .ok (.iconst 0, 1) := by decide +kernel
theorem dL_law_2495 : decode cL_law 2495 = .ok (.ireturn, 1) := by decide +kernel
theorem dL_law_2496 : decode cL_law 2496 = .ok (.aload_n 1, 1) := by decide +kernel
theorem dL_law_2497 : decode cL_law 2497 = .ok (.aload_n 0, 1) := by decide +kernel
theorem dL_law_2498 : decode cL_law 2498 = .ok (.iload 4, 2) := by decide +kernel
theorem dL_law_2500 : decode cL_law 2500 = .ok (.iconst 1, 1) := by decide +kernel
theorem dL_law_2501 : decode cL_law 2501 = .ok (.iadd, 1) := by decide +kernel
theorem dL_law_2502 : decode cL_law 2502 = .ok (.iaload, 1) := by decide +kernel
theorem dL_law_2503 : decode cL_law 2503 = .ok (.aload_n 0, 1) := by decide +kernel
theorem dL_law_2504 : decode cL_law 2504 = .ok (.iload 4, 2) := by decide +kernel
theorem dL_law_2506 : decode cL_law 2506 = .ok (.iconst 2, 1) := by decide +kernel
theorem dL_law_2507 : decode cL_law 2507 = .ok (.iadd, 1) := by decide +kernel
theorem dL_law_2508 : decode cL_law 2508 = .ok (.iaload, 1) := by decide +kernel
theorem dL_law_2509 : decode cL_law 2509 = .ok (.aload_n 0, 1) := by decide +kernel
theorem dL_law_2510 : decode cL_law 2510 = .ok (.iload 4, 2) := by decide +kernel
theorem dL_law_2512 : decode cL_law 2512 = .ok (.iconst 3, 1) := by decide +kernel
theorem dL_law_2513 : decode cL_law 2513 = .ok (.iadd, 1) := by decide +kernel
theorem dL_law_2514 : decode cL_law 2514 = .ok (.iaload, 1) := by decide +kernel
theorem dL_law_2515 : decode cL_law 2515 = .ok (.aload_n 0, 1) := by decide +kernel
theorem dL_law_2516 : decode cL_law 2516 = .ok (.iload 4, 2) := by decide +kernel
theorem dL_law_2518 : decode cL_law 2518 = .ok (.iconst 4, 1) := by decide +kernel
theorem dL_law_2519 : decode cL_law 2519 = .ok (.iadd, 1) := by decide +kernel
theorem dL_law_2520 : decode cL_law 2520 = .ok (.iaload, 1) := by decide +kernel
theorem dL_law_2521 : decode cL_law 2521 = .ok (.aload_n 0, 1) := by decide +kernel
theorem dL_law_2522 : decode cL_law 2522 = .ok (.iload 4, 2) := by decide +kernel
theorem dL_law_2524 : decode cL_law 2524 = .ok (.iconst 5, 1) := by decide +kernel
theorem dL_law_2525 : decode cL_law 2525 = .ok (.iadd, 1) := by decide +kernel
theorem dL_law_2526 : decode cL_law 2526 = .ok (.iaload, 1) := by decide +kernel
theorem dL_law_2527 : decode cL_law 2527 = .ok (.aload_n 0, 1) := by decide +kernel
theorem dL_law_2528 : decode cL_law 2528 = .ok (.iload 4, 2) := by decide +kernel
theorem dL_law_2530 : decode cL_law 2530 = .ok (.bipush 6, 2) := by decide +kernel
theorem dL_law_2532 : decode cL_law 2532 = .ok (.iadd, 1) := by decide +kernel
theorem dL_law_2533 : decode cL_law 2533 = .ok (.iaload, 1) := by decide +kernel
theorem dL_law_2534 : decode cL_law 2534 = .ok (.aload_n 0, 1) := by decide +kernel
theorem dL_law_2535 : decode cL_law 2535 = .ok (.iload 4, 2) := by decide +kernel
theorem dL_law_2537 : decode cL_law 2537 = .ok (.bipush 7, 2) := by decide +kernel
theorem dL_law_2539 : decode cL_law 2539 = .ok (.iadd, 1) := by decide +kernel
theorem dL_law_2540 : decode cL_law 2540 = .ok (.iaload, 1) := by decide +kernel
theorem dL_law_2541 : decode cL_law 2541 = .ok (.aload_n 3, 1) := by decide +kernel
theorem dL_law_2542 : decode cL_law 2542 = .ok (.invokestatic 191, 3) := by decide +kernel
theorem dL_law_2545 : decode cL_law 2545 = .ok (.istore 5, 2) := by decide +kernel
theorem dL_law_2547 : decode cL_law 2547 = .ok (.aload_n 2, 1) := by decide +kernel
theorem dL_law_2548 : decode cL_law 2548 = .ok (.aload_n 0, 1) := by decide +kernel
theorem dL_law_2549 : decode cL_law 2549 = .ok (.iload 4, 2) := by decide +kernel
theorem dL_law_2551 : decode cL_law 2551 = .ok (.iconst 1, 1) := by decide +kernel
theorem dL_law_2552 : decode cL_law 2552 = .ok (.iadd, 1) := by decide +kernel
theorem dL_law_2553 : decode cL_law 2553 = .ok (.iaload, 1) := by decide +kernel
theorem dL_law_2554 : decode cL_law 2554 = .ok (.aload_n 0, 1) := by decide +kernel
theorem dL_law_2555 : decode cL_law 2555 = .ok (.iload 4, 2) := by decide +kernel
theorem dL_law_2557 : decode cL_law 2557 = .ok (.iconst 2, 1) := by decide +kernel
theorem dL_law_2558 : decode cL_law 2558 = .ok (.iadd, 1) := by decide +kernel
theorem dL_law_2559 : decode cL_law 2559 = .ok (.iaload, 1) := by decide +kernel
theorem dL_law_2560 : decode cL_law 2560 = .ok (.aload_n 0, 1) := by decide +kernel
theorem dL_law_2561 : decode cL_law 2561 = .ok (.iload 4, 2) := by decide +kernel
theorem dL_law_2563 : decode cL_law 2563 = .ok (.iconst 3, 1) := by decide +kernel
theorem dL_law_2564 : decode cL_law 2564 = .ok (.iadd, 1) := by decide +kernel
theorem dL_law_2565 : decode cL_law 2565 = .ok (.iaload, 1) := by decide +kernel
theorem dL_law_2566 : decode cL_law 2566 = .ok (.aload_n 0, 1) := by decide +kernel
theorem dL_law_2567 : decode cL_law 2567 = .ok (.iload 4, 2) := by decide +kernel
theorem dL_law_2569 : decode cL_law 2569 = .ok (.iconst 4, 1) := by decide +kernel
theorem dL_law_2570 : decode cL_law 2570 = .ok (.iadd, 1) := by decide +kernel
theorem dL_law_2571 : decode cL_law 2571 = .ok (.iaload, 1) := by decide +kernel
theorem dL_law_2572 : decode cL_law 2572 = .ok (.aload_n 0, 1) := by decide +kernel
theorem dL_law_2573 : decode cL_law 2573 = .ok (.iload 4, 2) := by decide +kernel
theorem dL_law_2575 : decode cL_law 2575 = .ok (.iconst 5, 1) := by decide +kernel
theorem dL_law_2576 : decode cL_law 2576 = .ok (.iadd, 1) := by decide +kernel
theorem dL_law_2577 : decode cL_law 2577 = .ok (.iaload, 1) := by decide +kernel
theorem dL_law_2578 : decode cL_law 2578 = .ok (.aload_n 0, 1) := by decide +kernel
theorem dL_law_2579 : decode cL_law 2579 = .ok (.iload 4, 2) := by decide +kernel
theorem dL_law_2581 : decode cL_law 2581 = .ok (.bipush 6, 2) := by decide +kernel
theorem dL_law_2583 : decode cL_law 2583 = .ok (.iadd, 1) := by decide +kernel
theorem dL_law_2584 : decode cL_law 2584 = .ok (.iaload, 1) := by decide +kernel
theorem dL_law_2585 : decode cL_law 2585 = .ok (.aload_n 0, 1) := by decide +kernel
theorem dL_law_2586 : decode cL_law 2586 = .ok (.iload 4, 2) := by decide +kernel
theorem dL_law_2588 : decode cL_law 2588 = .ok (.bipush 7, 2) := by decide +kernel
theorem dL_law_2590 : decode cL_law 2590 = .ok (.iadd, 1) := by decide +kernel
theorem dL_law_2591 : decode cL_law 2591 = .ok (.iaload, 1) := by decide +kernel
theorem dL_law_2592 : decode cL_law 2592 = .ok (.invokevirtual 193, 3) := by decide +kernel
theorem dL_law_2595 : decode cL_law 2595 = .ok (.istore 6, 2) := by decide +kernel
theorem dL_law_2597 : decode cL_law 2597 = .ok (.aload_n 2, 1) := by decide +kernel
theorem dL_law_2598 : decode cL_law 2598 = .ok (.invokevirtual 98, 3) := by decide +kernel
theorem dL_law_2601 : decode cL_law 2601 = .ok (.iload 5, 2) := by decide +kernel
theorem dL_law_2603 : decode cL_law 2603 = .ok (.if_icmp .eq 5, 3) := by decide +kernel
theorem dL_law_2606 : decode cL_law 2606 = .ok (.iconst 0, 1) := by decide +kernel
theorem dL_law_2607 : decode cL_law 2607 = .ok (.ireturn, 1) := by decide +kernel
theorem dL_law_2608 : decode cL_law 2608 = .ok (.iload 5, 2) := by decide +kernel
theorem dL_law_2610 : decode cL_law 2610 = .ok (.ifCond .ne 15, 3) := by decide +kernel
theorem dL_law_2613 : decode cL_law 2613 = .ok (.aload_n 3, 1) := by decide +kernel
theorem dL_law_2614 : decode cL_law 2614 = .ok (.iconst 0, 1) := by decide +kernel
theorem dL_law_2615 : decode cL_law 2615 = .ok (.laload, 1) := by decide +kernel
theorem dL_law_2616 : decode cL_law 2616 = .ok (.iload 6, 2) := by decide +kernel
theorem dL_law_2618 : decode cL_law 2618 = .ok (.i2l, 1) := by decide +kernel
