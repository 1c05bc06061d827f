import com.sun.management.ThreadMXBean;
import java.lang.management.ManagementFactory;
import java.util.Random;

/** What full runs allocate, and that hard worlds are solved in good time. */
public final class RoomTest {
    private static final int MOST_BYTES = 4000000;
    private static final int MOST_MILLIS = 60000;

    public static void main(String[] args) {
        long start = System.nanoTime();
        allocated("the largest world", RoomTest::largest);
        allocated("long texts", RoomTest::longTexts);
        allocated("many questions", RoomTest::manyQuestions);
        for (long seed = 0; seed < 60; seed++) {
            dense(seed);
        }
        places(7, 6, 5);
        places(8, 5, 5);
        places(6, 6, 6);
        long millis = (System.nanoTime() - start) / 1000000;
        Kit.same("in good time, not " + millis + " ms", millis < MOST_MILLIS, true);
        Kit.end("RoomTest");
    }

    private static void allocated(String what, Runnable run) {
        run.run();
        ThreadMXBean threads = (ThreadMXBean) ManagementFactory.getThreadMXBean();
        long thread = Thread.currentThread().getId();
        long before = threads.getThreadAllocatedBytes(thread);
        run.run();
        long bytes = threads.getThreadAllocatedBytes(thread) - before;
        Kit.same(what + " stays small, not " + bytes + " bytes", bytes < MOST_BYTES, true);
    }

    /** 40 versions that all ban each other, in 512 calls. */
    private static void largest() {
        Kitwarden x = new Kitwarden();
        for (int p = 0; p < 12; p++) {
            x.pack();
        }
        int calls = 12;
        for (int k = 0; k < 40; k++) {
            int code = 10099 + 100 * (k / 11);
            x.version(1 + k % 11, code, 0, 0, 0);
            x.provide(1 + k % 11, code, 0, 10099);
            x.append('a', 0, 0, 0, 0);
            x.ban(1 + k % 11, code);
            x.append('a', 0, 0, 0, 0);
            x.ban(1 + k % 11, code);
            x.append('b' + k % 11, 0, 0, 0, 0);
            x.need(1 + k % 11, code, true);
            calls += 8;
        }
        for (int k = 0; k < 2; k++) {
            x.append('b' + k, 0, 0, 0, 0);
            x.wish();
            calls += 2;
        }
        Kit.same("told clauses", x.count(4), 2 + 40 + 80 * 39 + 12 + 7 * 6 + 4 * 3);
        Kit.same("none fits", x.solve(true), -1);
        Kit.same("two wishes, and each pair of what meets them", x.core(), 2 + 4 * 4);
        Kit.same("proof", x.proof() > 0, true);
        for (calls += 4; calls < 510; calls++) {
            x.solve(false);
            x.coreAt(0, 0);
            x.literalAt(0, 0);
            calls += 2;
        }
        Kit.same("no error", x.errors(), 0);
    }

    private static void longTexts() {
        Kitwarden x = new Kitwarden();
        x.pack();
        x.version(0, 10099, 0, 0, 0);
        for (int k = 0; k < 46; k++) {
            for (int a = 0; a < 10; a++) {
                String text = a == 0 ? "a*,*" : "*,*,";
                int word = 0;
                for (int b = 0; b < 4; b++) {
                    word = word << 8 | text.charAt(b);
                }
                x.append(a == 0 ? word : ',' << 24 | '*' << 16 | ',' << 8 | '*', 0x2c2a2c2a,
                        0x2c2a2c2a, 0x2c2a2c2a, 0x2c2a2c2a);
            }
            if (k < 8) {
                Kit.same("wish", x.wish(), k);
            } else {
                Kit.same("a letter is no range", Kit.answer(() -> x.pin(0)),
                        "IllegalArgumentException");
            }
        }
    }

    private static void manyQuestions() {
        Kit kit = Kit.of(3).v(0, 10099, 20099).v(1, 10099, 20099).v(2, 10099);
        kit.need(0, 20099, "b 2.0");
        kit.wish("a|c");
        kit.install();
        for (int k = 0; k < 60; k++) {
            kit.x.errors();
            kit.x.fitting();
            kit.x.must(0, 20099);
            kit.x.orphans();
            kit.x.plan();
            kit.x.scripts();
            kit.x.solve(true);
            kit.x.undo();
        }
    }

    /** A world with as much as can be told, at random. */
    private static void dense(long seed) {
        Random random = new Random(seed);
        Kit kit = Kit.of(12);
        int[] codes = new int[40];
        for (int k = 0; k < 40; k++) {
            codes[k] = 10099 + 100 * (k / 12) + 10000 * random.nextInt(2);
            kit.v(k % 12, codes[k]);
        }
        for (int k = 0; k < 40; k++) {
            for (int n = random.nextInt(4); n > 0; n--) {
                StringBuilder text = new StringBuilder(some(random, codes));
                for (int more = random.nextInt(3); more > 0; more--) {
                    text.append('|').append(some(random, codes));
                }
                kit.need(k % 12, codes[k], text.toString());
            }
            for (int n = random.nextInt(3); n > 0; n--) {
                kit.ban(k % 12, codes[k], some(random, codes));
            }
            if (random.nextInt(3) == 0) {
                kit.option(k % 12, codes[k], some(random, codes));
            }
        }
        for (int w = 0; w < 1 + seed % 8; w++) {
            kit.wish("" + (char) ('a' + random.nextInt(12)));
        }
        for (int round = 0; round < 4; round++) {
            boolean isFound = kit.x.solve(round % 2 == 1) >= 0;
            Kit.same("a core if none fits", kit.x.core() == 0, isFound);
            Kit.same("no error, seed " + seed, kit.x.errors(), 0);
            if (isFound) {
                kit.x.install();
            }
            if (round <= seed % 8) {
                kit.x.unwish(round);
            }
        }
    }

    private static String some(Random random, int[] codes) {
        int k = random.nextInt(40);
        String version = codes[k] / 10000 + "." + codes[k] / 100 % 100;
        String[] ways = {"", version, ">" + version, "<" + version, "^" + version};
        return (char) ('a' + k % 12) + ways[random.nextInt(5)];
    }

    /** So many packages, each of which needs one of so many places, of its own so many. */
    private static void places(int packs, int own, int places) {
        Kit kit = Kit.of(packs + 1);
        for (int p = 0; p < packs && packs * own <= 42; p++) {
            for (int k = 0; k < own && kit.x.count(1) < 40; k++) {
                int code = 10000 * (1 + (k + p) % places) + 99;
                if (kit.x.versions(p) < places) {
                    kit.v(p, code);
                    kit.x.provide(p, code, packs, code);
                    kit.ban(p, code, (char) ('a' + packs) + "" + code / 10000 + ".0");
                }
            }
            if (kit.x.count(3) < 8) {
                kit.wish("" + (char) ('a' + p));
            }
        }
        int found = kit.x.solve(false);
        Kit.same("as many places as packages", found, packs <= places ? packs : -1);
        Kit.same("core", kit.x.core() == 0, packs <= places);
        Kit.same("least", kit.x.solve(true), found);
        kit.x.proof();
        Kit.same("no error", kit.x.errors(), 0);
    }
}
