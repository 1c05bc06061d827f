import java.util.Random;

/**
 * Promises 21, 25, 29 and 31 to 33 in worlds in which very many sets lie ahead of the one that fits,
 * or would have to be gone through to see that none fits.
 */
public final class SearchTest {
    /**
     * What an earlier program, which searched in another way, answered in the worlds of random(): a
     * sum for each hundred seeds. (Up to a million tries, which none of these worlds needed.)
     */
    private static final int[] SUMS = {
        74233454, -1689016618, 582730913, -164190748, 727447013,
        -1322954311, 1620234322, -1392029978, -955323202, 1437332158,
        1452776934, -1964994958, 2003293793, 870726864, 457144969,
        1894742961, -319608679, -1514218135, -650317361, -2146261183
    };

    public static void main(String[] args) {
        long start = System.nanoTime();
        chain(false);
        chain(true);
        chainThatIsWished(false);
        chainThatIsWished(true);
        chainBesideWhatIsInstalled();
        for (int packs = 2; packs <= 8; packs++) {
            everyOneMovesOn(packs);
        }
        places(7, 6);
        places(8, 5);
        places(6, 6);
        for (int seed = 0; seed < 200; seed++) {
            choosyPlaces(seed, 6, 6);
            choosyPlaces(seed, 5, 8);
        }
        parity();
        for (int k = 0; k < SUMS.length; k++) {
            int sum = 0;
            for (int seed = 100 * k; seed < 100 * k + 100; seed++) {
                sum = 31 * sum + random(seed).hashCode();
            }
            Kit.same("seeds from " + 100 * k + " on", sum, SUMS[k]);
        }
        long millis = (System.nanoTime() - start) / 1000000;
        Kit.same("in good time, not " + millis + " ms", millis < 30000, true);
        Kit.end("SearchTest");
    }

    private static String letter(int pack) {
        return "" + (char) ('a' + pack);
    }

    private static int code(int major) {
        return 10000 * major + 99;
    }

    /** 12 packages a to l: a to f with three versions, g to k with four, l with two. */
    private static Kit twelve() {
        Kit kit = Kit.of(12);
        for (int p = 0; p < 12; p++) {
            for (int k = 1; k <= (p < 6 ? 3 : p < 11 ? 4 : 2); k++) {
                kit.v(p, code(k));
            }
        }
        return kit;
    }

    /** Each package needs the next one, or one of all behind it; k needs and bans l 1.0. */
    private static Kit chained(boolean isWide) {
        Kit kit = twelve();
        for (int p = 0; p < 11; p++) {
            StringBuilder text = new StringBuilder(p == 10 ? "l1.0" : letter(p + 1));
            for (int q = p + 2; q < 11 && isWide; q++) {
                text.append('|').append(letter(q));
            }
            for (int k = 0; k < kit.x.versions(p); k++) {
                kit.need(p, kit.x.versionAt(p, k), text.toString());
                if (p == 10) {
                    kit.ban(p, kit.x.versionAt(p, k), "l1.0");
                }
            }
        }
        return kit;
    }

    private static void chain(boolean isWide) {
        Kit kit = chained(isWide);
        kit.wish("a|l2.0");
        for (int round = 0; round < 2; round++) {
            Kit.same("solve(" + (round == 1) + ")", kit.x.solve(round == 1), 1);
            Kit.same("l 2.0 alone", kit.goal(), "- - - - - - - - - - - 20099");
        }
        Kit.same("in all sets that fit", kit.x.must(11, 20099), 1);
        for (int p = 0; p < 11; p++) {
            Kit.same("no version of " + letter(p), kit.x.must(p, 30099), -1);
        }
        Kit.same("l 1.0 stands against l 2.0", kit.x.must(11, 10099), -1);
        Kit.same("no core", kit.x.core(), 0);
        Kit.same("no proof", kit.x.proof(), 0);
        Kit.same("no errors", kit.x.errors(), 0);
    }

    private static void chainThatIsWished(boolean isWide) {
        Kit kit = chained(isWide);
        kit.wish("l2.0");
        kit.wish("a");
        Kit.same("none fits", kit.x.solve(false), -1);
        Kit.same("nor with the fewest changes", kit.x.solve(true), -1);
        Kit.same("must, if none fits", kit.x.must(11, 20099), -2);
        // The wish for a, one need of each of 38 versions, and four bans.
        Kit.same("core", kit.x.core(), 1 + 38 + 4);
        Kit.same("not the other wish", kit.x.coreAt(0, 2), 1);
        Kit.same("no errors", kit.x.errors(), 0);
        kit.x.unwish(1);
        Kit.same("l alone", kit.x.solve(true), 1);
    }

    /** As chain, but what is installed and its options would have to go for most sets. */
    private static void chainBesideWhatIsInstalled() {
        Kit kit = twelve();
        for (int p = 0; p < 11; p++) {
            kit.option(p, 10099, letter((p + 5) % 11) + "1.0");
        }
        for (int half = 0; half < 2; half++) {
            kit.x.root(1 + half);
            for (int p = 6 * half; p < 6 * half + 6 && p < 11; p++) {
                kit.wish(letter(p) + "#");
            }
            kit.x.solve(true);
            kit.x.lock(half);
        }
        kit.x.root(0);
        kit.x.mergeLocks(0, 1);
        Kit.same("all but l", kit.x.install() > 0, true);
        Kit.same("with their options", kit.x.installed(10), 1010099);
        for (int p = 0; p < 10; p++) {
            for (int k = 1; k < kit.x.versions(p); k++) {
                kit.need(p, kit.x.versionAt(p, k), letter(p + 1) + ">2.0");
            }
        }
        for (int k = 1; k < 4; k++) {
            kit.need(10, kit.x.versionAt(10, k), "l1.0");
            kit.ban(10, kit.x.versionAt(10, k), "l1.0");
        }
        kit.wish("l2.0|a>2.0|b>2.0|c>2.0|d>2.0|e>2.0");
        Kit.same("with the fewest changes", kit.x.solve(true), 12);
        Kit.same("one", kit.x.changes(), 1);
        Kit.same("l 2.0 comes", kit.x.versionOf(11), 20099);
        kit.pin(11, "1.0");
        Kit.same("without l 2.0 none fits", kit.x.solve(true), -1);
        Kit.same("nor in another way", kit.x.solve(false), -1);
        Kit.same("no errors", kit.x.errors(), 0);
    }

    /** Each of so many packages stands at its own place or the next one; the first one must move. */
    private static void everyOneMovesOn(int packs) {
        Kit kit = Kit.of(packs + 1);
        for (int p = 0; p < packs; p++) {
            for (int k = 0; k < 2; k++) {
                int at = code(1 + (p + k) % packs);
                kit.v(p, at);
                kit.x.provide(p, at, packs, at);
                kit.ban(p, at, letter(packs) + at / 10000 + ".0");
            }
            kit.option(p, code(1 + p), letter(p));
        }
        for (int p = 0; p < packs; p++) {
            kit.x.root(1);
            kit.wish(letter(p) + (p % 2 == 0 ? "#" : "") + (1 + p) + ".0");
            kit.x.root(0);
            if (p < 7) {
                kit.wish(letter(p));
            }
        }
        kit.x.root(1);
        Kit.same("each at its own place", kit.x.solve(true), packs);
        kit.x.lock(2);
        kit.x.root(0);
        kit.x.takeLock(2);
        kit.x.install();
        Kit.same("nothing has to move", kit.x.solve(true), packs);
        Kit.same("so nothing does", kit.x.changes(), 0);
        kit.pin(0, "2.0");
        kit.x.solve(true);
        // With eight packages the last one is wished by none, and can go.
        Kit.same("all have to move", kit.x.changes(), packs);
        kit.x.hold(packs - 1, true);
        Kit.same("the last one may not", kit.x.solve(true), -1);
        Kit.same("no errors", kit.x.errors(), 0);
    }

    /** So many packages with as many versions as there are places, of which each holds one. */
    private static void places(int packs, int places) {
        Kit kit = Kit.of(packs + 1);
        for (int p = 0; p < packs; p++) {
            for (int k = 1; k <= places && kit.x.count(1) < 40; k++) {
                kit.v(p, code(k));
                kit.x.provide(p, code(k), packs, code(k));
                kit.ban(p, code(k), letter(packs) + k + ".0");
            }
            kit.wish(letter(p));
        }
        int due = packs <= places ? packs : -1;
        Kit.same("newest", kit.x.solve(false), due);
        Kit.same("least", kit.x.solve(true), due);
        if (packs > places) {
            Kit.same("one wish too many is in the core", kit.x.coreAt(places, 2), places);
        }
        Kit.same("no errors", kit.x.errors(), 0);
    }

    /** As places, but each needs some others at some places; held against all ways to place them. */
    private static void choosyPlaces(int seed, int packs, int places) {
        Random random = new Random(seed);
        Kit kit = Kit.of(packs + 1);
        for (int p = 0; p < packs; p++) {
            for (int k = 1; k <= places; k++) {
                kit.v(p, code(k));
                kit.x.provide(p, code(k), packs, code(k));
                kit.ban(p, code(k), letter(packs) + k + ".0");
            }
        }
        // needs[p][k][q]: the places of q of which p at k needs one, as bits; 0 for any.
        int[][][] needs = new int[packs][places][packs];
        for (int n = random.nextInt(2 * packs * places); n > 0; n--) {
            int p = random.nextInt(packs);
            int k = random.nextInt(places);
            int q = (p + 1 + random.nextInt(packs - 1)) % packs;
            int from = random.nextInt(places);
            int to = from + random.nextInt(places - from);
            if (needs[p][k][q] == 0 && to - from > 1) {
                Object got = Kit.answer(() -> kit.need(p, code(k + 1),
                        letter(q) + (from + 1) + ".0.." + (to + 1) + ".0"));
                needs[p][k][q] = got instanceof Integer ? (2 << to) - (1 << from) : 0;
                kit.x.clearTape();
            }
        }
        kit.x.root(1);
        kit.wish("a" + (1 + random.nextInt(places)) + ".0");
        for (int p = 1; p < packs; p++) {
            kit.wish(letter(p) + ">" + (1 + random.nextInt(2)) + ".0");
        }
        kit.x.solve(false);
        kit.x.lock(0);
        kit.x.root(0);
        kit.x.takeLock(0);
        kit.x.install();
        for (int p = 0; p < packs; p++) {
            kit.wish(letter(p));
        }
        int pin = 2 + random.nextInt(places - 1);
        kit.pin(0, "<" + pin + ".0");
        checkPlaced(kit, needs, pin, seed);
    }

    private static void checkPlaced(Kit kit, int[][][] needs, int pin, int seed) {
        int packs = needs.length;
        int places = needs[0].length;
        int[] best = null;
        int[] least = null;
        int fewest = packs + 1;
        int all = 1;
        for (int p = 0; p < packs; p++) {
            all *= places;
        }
        for (int number = all - 1; number >= 0; number--) {
            int[] at = new int[packs];
            int left = number;
            for (int p = packs - 1; p >= 0; p--, left /= places) {
                at[p] = left % places;
            }
            if (at[0] + 1 < pin && isPlaced(at, needs)) {
                best = best == null ? at : best;
                int changes = 0;
                for (int p = 0; p < packs; p++) {
                    changes += kit.x.installed(p) == code(at[p] + 1) ? 0 : 1;
                }
                least = changes < fewest ? at : least;
                fewest = Math.min(changes, fewest);
            }
        }
        for (int round = 0; round < 2; round++) {
            int[] due = round == 0 ? best : least;
            Kit.same("places " + seed, kit.x.solve(round == 1), due == null ? -1 : packs);
            for (int p = 0; p < packs && due != null; p++) {
                Kit.same("place of " + p, kit.x.versionOf(p), code(due[p] + 1));
            }
        }
        Kit.same("core " + seed, kit.x.core() == 0, best != null);
        Kit.same("no errors", kit.x.errors(), 0);
    }

    private static boolean isPlaced(int[] at, int[][][] needs) {
        int taken = 0;
        for (int p = 0; p < at.length; p++) {
            for (int q = 0; q < at.length; q++) {
                int need = needs[p][at[p]][q];
                if (need != 0 && (need >> at[q] & 1) == 0) {
                    return false;
                }
            }
            taken |= 1 << at[p];
        }
        return Integer.bitCount(taken) == at.length;
    }

    /** Packages with two versions each; a need keeps the sum of three of them even or odd. */
    private static void parity() {
        for (int seed = 0; seed < 40; seed++) {
            Random random = new Random(seed);
            Kit kit = Kit.of(8);
            for (int p = 0; p < 8; p++) {
                kit.v(p, code(1), code(2));
                kit.wish(letter(p));
            }
            int[][] sums = new int[8][];
            for (int p = 0; p < 8; p++) {
                int q = (p + 1 + random.nextInt(3)) % 8;
                int r = (p + 4 + random.nextInt(4)) % 8;
                sums[p] = new int[] {p, q, r, random.nextInt(2)};
                for (int v = 0; v < 2; v++) {
                    for (int w = 0; w < 2; w++) {
                        int z = (sums[p][3] + v + w) % 2;
                        kit.need(p, code(1 + v), letter(q) + (2 - w) + ".0|" + letter(r) + (1 + z)
                                + ".0");
                    }
                }
            }
            int best = -1;
            for (int bits = 255; bits >= 0 && best < 0; bits--) {
                best = isRight(sums, bits) ? bits : -1;
            }
            Kit.same("parity " + seed, kit.x.solve(false), best < 0 ? -1 : 8);
            for (int p = 0; p < 8 && best >= 0; p++) {
                Kit.same("the newest one", kit.x.versionOf(p), code(1 + (best >> (7 - p) & 1)));
            }
            Kit.same("no errors", kit.x.errors(), 0);
        }
    }

    private static boolean isRight(int[][] sums, int bits) {
        for (int[] s : sums) {
            int sum = (bits >> (7 - s[0])) + (bits >> (7 - s[1])) + (bits >> (7 - s[2])) + s[3];
            if (sum % 2 != 0) {
                return false;
            }
        }
        return true;
    }

    /** All that is found in a world with up to 12 packages, 40 versions and 200 needs and bans. */
    private static String random(int seed) {
        Random random = new Random(seed);
        int packs = 6 + random.nextInt(7);
        Kit kit = Kit.of(packs);
        for (int k = 20 + random.nextInt(21); k > 0; k--) {
            int p = random.nextInt(packs);
            if (kit.x.versions(p) < 8) {
                kit.v(p, code(1 + kit.x.versions(p)));
            }
        }
        int most = 10 + random.nextInt(10 + random.nextInt(160));
        for (int k = 0; k < most; k++) {
            tellOne(kit, random, packs);
        }
        for (int root = 1; root <= 2; root++) {
            kit.x.root(root);
            for (int k = random.nextInt(7); k > 0; k--) {
                String text = letter(random.nextInt(packs)) + (random.nextBoolean() ? "#" : "");
                kit.wish(random.nextBoolean() ? text : some(random, packs));
            }
            kit.x.solve(false);
            kit.x.lock(root);
        }
        kit.x.root(0);
        kit.x.mergeLocks(1, 2);
        Kit.answer(kit.x::install);
        for (int k = 1 + random.nextInt(6); k > 0; k--) {
            kit.wish(some(random, packs));
        }
        kit.x.hold(random.nextInt(packs), random.nextInt(3) == 0);
        if (random.nextInt(3) == 0) {
            kit.pin(random.nextInt(packs), ">2.0");
        }
        return answers(kit);
    }

    private static void tellOne(Kit kit, Random random, int packs) {
        int p = random.nextInt(packs);
        int code = code(1 + random.nextInt(Math.max(1, kit.x.versions(p))));
        int what = random.nextInt(10);
        if (what == 0) {
            Kit.answer(() -> kit.x.provide(p, code, (p + 1) % packs, code(1 + what)));
        } else {
            kit.tape(what < 4 ? atom(random, packs) : some(random, packs));
            Kit.answer(() -> what < 4 ? kit.x.ban(p, code)
                    : what < 6 ? kit.x.option(p, code) : kit.x.need(p, code, false));
            kit.x.clearTape();
        }
    }

    private static String some(Random random, int packs) {
        if (random.nextInt(6) == 0) {
            return letter(random.nextInt(packs)) + "#" + (random.nextBoolean() ? "" : ">2.0");
        }
        StringBuilder text = new StringBuilder(atom(random, packs));
        for (int more = random.nextInt(1 + random.nextInt(6)); more > 0; more--) {
            text.append('|').append(atom(random, packs));
        }
        return text.toString();
    }

    private static String atom(Random random, int packs) {
        String[] ways = {"", "", "=", ">", "<", "="};
        String way = ways[random.nextInt(6)];
        String version = way.isEmpty() ? "" : way + (1 + random.nextInt(5)) + ".0";
        return letter(random.nextInt(packs)) + version;
    }

    private static String answers(Kit kit) {
        StringBuilder s = new StringBuilder();
        s.append(kit.x.solve(false)).append(' ').append(kit.goal()).append(' ');
        s.append(kit.x.solve(true)).append(' ').append(kit.goal()).append(' ');
        s.append(kit.x.changes()).append(' ');
        for (int what = 0; what < 5; what++) {
            s.append(kit.core(what)).append(' ');
        }
        s.append(kit.x.proof());
        for (int p = 0; p < kit.x.count(0); p++) {
            for (int k = 0; k < kit.x.versions(p); k++) {
                s.append(' ').append(kit.x.must(p, kit.x.versionAt(p, k)));
            }
        }
        Kit.same("no errors in " + s, kit.x.errors(), 0);
        return s.toString();
    }
}
