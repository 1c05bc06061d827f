/** Edges of the sections 1 and 3 and of the promises 5 to 13: packages, versions, what they need. */
final class PackageEdges {
    private static final int MIN = Integer.MIN_VALUE;
    private static final int MAX = Integer.MAX_VALUE;
    private static final Class<IllegalStateException> STATE = IllegalStateException.class;
    private static final Class<IllegalArgumentException> ARGUMENT = IllegalArgumentException.class;
    private static final Class<IndexOutOfBoundsException> INDEX = IndexOutOfBoundsException.class;

    private PackageEdges() {}

    static void all() {
        packages();
        codes();
        versionCounts();
        filesSizeSum();
        pack();
        version();
        versionRefused();
        need();
        ban();
        provide();
        provideRefused();
        option();
        installedSomewhere();
        count();
        versions();
        told();
        options();
        meeting();
        sound();
    }

    /** A call that gives something to a version of a package. */
    private interface Giving {
        Object to(int pack, int code);
    }

    /** Codes of no version of package 0, which has 1.0 alone, are refused; b has 2.0. */
    private static void noVersion(Kit kit, String what, Giving call) {
        for (int code : new int[] {20099, 10098, 10100, 10199, 0, 99, -1, -10099, 1010099, MIN, MAX}) {
            kit.unread(what + " of version " + code, INDEX, () -> call.to(0, code));
        }
        kit.noPackage(what, pack -> call.to(pack, 10099));
    }

    private static Kit oneAndTwo() {
        return Kit.of(2).v(0, 10099).v(1, 20099);
    }

    // ---- Section 1

    private static void packages() {
        Edge.of("1", "Packages are numbered from 0 as they come, at most 12;").holds(() -> {
            Kit kit = new Kit();
            for (int p = 0; p < 12; p++) {
                Kit.same("pack", kit.x.pack(), p);
                Kit.same("packages", kit.x.count(0), p + 1);
            }
            kit.unread("a 13th", STATE, kit.x::pack);
        });
        Edge.of("1", "the package 0 is a, the package 1 is b, and so on up to l.").holds(() -> {
            for (int p = 0; p < 12; p++) {
                Kit kit = Kit.of(12);
                for (int q = 0; q < 12; q++) {
                    kit.v(q, 10099);
                }
                kit.wish("" + "abcdefghijkl".charAt(p));
                Kit.same("one", kit.x.solve(false), 1);
                Kit.same("it is this one", kit.x.versionOf(p), 10099);
                kit.misread("m", 0, kit.x::wish);
            }
        });
    }

    private static void codes() {
        Edge.of("1", "A version of a package has a major part from 0 to 99, a minor part from 0 to "
                + "99, and perhaps a trial number from 1 to 98.").holds(() -> {
            Kit kit = Kit.of(1);
            int[] right = {1, 98, 99, 101, 9999, 990001, 999998, 999999};
            for (int k = 0; k < right.length; k++) {
                Kit.same("code " + right[k], kit.x.version(0, right[k], 0, 0, 0), k + 1);
            }
            kit.x.undo();
            for (int code : new int[] {0, 100, 9900, 10000, 990000, 999900, 1000000, 1000001, 1000099,
                -1, -98, -99, -100, -101, -9901, MIN, MIN + 1, MAX, 2147480099}) {
                kit.argument("code " + code, () -> kit.x.version(0, code, 0, 0, 0));
            }
        });
        Edge.of("1", "Its code is 10000 times the major part, plus 100 times the minor part, plus the "
                + "trial number, or plus 99 without one.").holds(() -> {
            Kit kit = Kit.of(1).v(0, 1, 99, 100001, 120398, 120399, 999998, 999999);
            String[] texts = {"0.0!1", "0.0", "10.0!1", "12.3!98", "12.3", "99.99!98", "99.99"};
            for (int k = 0; k < texts.length; k++) {
                kit.wish("a =" + texts[k]);
                kit.x.solve(false);
                Kit.same(texts[k], kit.x.versionOf(0), kit.x.versionAt(0, k));
                kit.x.unwish(k);
            }
        });
        Edge.of("1", "(so trials are older than the version without a trial number)").holds(() -> {
            Kit kit = Kit.of(1).v(0, 10099, 10001, 10098, 9999, 10101);
            Kit.same("by age", kit.row(5, k -> kit.x.versionAt(0, k)), "9999 10001 10098 10099 10101");
            kit.pin(0, "<1.1,1.0!98");
            kit.wish("a");
            kit.x.solve(false);
            Kit.same("the one without is newer", kit.goal(), "10099");
            kit.x.unwish(0);
            kit.pin(0, "1.0!1,1.0!98,0.99");
            kit.wish("a 1.0!1..1.0!98");
            kit.x.solve(false);
            Kit.same("the greatest trial number", kit.goal(), "10098");
        });
    }

    private static void versionCounts() {
        Edge.of("1", "A package has at most 8 versions,").holds(() -> {
            Kit kit = Kit.of(2);
            for (int k = 1; k <= 8; k++) {
                Kit.same("version", kit.x.version(1, 99 + 100 * k, 0, 0, 0), k);
            }
            kit.unread("a 9th", STATE, () -> kit.x.version(1, 99, 0, 0, 0));
            Kit.same("of another one", kit.x.version(0, 99, 0, 0, 0), 1);
        });
        Edge.of("1", "and there are at most 40 in all.").holds(() -> {
            Kit kit = Kit.of(12);
            for (int k = 0; k < 40; k++) {
                kit.v(k % 11, 99 + 100 * k);
                Kit.same("in all", kit.x.count(1), k + 1);
            }
            kit.unread("a 41st", STATE, () -> kit.x.version(11, 99, 0, 0, 0));
            kit.unread("a 41st", STATE, () -> kit.x.version(10, 9999, 0, 0, 0));
            kit.x.undo();
            Kit.same("in place of the 40th", kit.x.version(11, 99, 0, 0, 0), 1);
            kit.unread("a 41st", STATE, () -> kit.x.version(11, 199, 0, 0, 0));
        });
    }

    private static Kit withFiles(int files) {
        Kit kit = Kit.of(1).full(0, 10099, files, 0, 0);
        kit.wish("a");
        kit.install();
        return kit;
    }

    private static void filesSizeSum() {
        Edge.of("1", "files (a set of numbers from 0 to 30, told as the sum of 2 to the power of each)")
                .holds(() -> {
            String none = "-1" + " -1".repeat(30);
            Kit kit = withFiles(0);
            Kit.same("none", kit.row(31, kit.x::owner), none);
            for (int file = 0; file < 31; file++) {
                Kit one = withFiles(1 << file);
                for (int other = 0; other < 31; other++) {
                    Kit.same("file " + other, one.x.owner(other), other == file ? 0 : -1);
                }
            }
            Kit all = withFiles(MAX);
            Kit.same("all 31", all.row(31, all.x::owner), none.replace("-1", "0"));
        });
        Edge.of("1", "a size from 0 to 1000,").holds(() -> {
            Kit kit = Kit.of(1).full(0, 99, 0, 0, 0).full(0, 199, 0, 1000, 0);
            kit.argument("1001", () -> kit.x.version(0, 299, 0, 1001, 0));
            kit.argument("-1", () -> kit.x.version(0, 299, 0, -1, 0));
            kit.wish("a");
            kit.install();
            Kit.same("the greatest", kit.x.size(), 1000);
            kit.wish("a 0.0");
            kit.install();
            Kit.same("the least", kit.x.size(), 0);
        });
        Edge.of("1", "and a sum, which can be any int.").holds(() -> {
            for (int sum : new int[] {MIN, -1, 0, 1, MAX}) {
                Kit kit = Kit.of(1).full(0, 99, 0, 0, sum);
                kit.wish("a");
                kit.x.mirror();
                kit.x.solve(false);
                kit.x.offer(0, 0, 99, sum + 1);
                Kit.same("another sum", kit.x.fetchAt(0, true), -1);
                kit.x.offer(0, 0, 99, sum);
                Kit.same("this sum", kit.x.fetchAt(0, true), 0);
            }
        });
    }

    // ---- Promises 5 and 6

    private static void pack() {
        Edge.of("P5", "Returns its number.").holds(() -> {
            Kit kit = new Kit();
            Kit.same("the first", kit.x.pack(), 0);
            Kit.same("the second", kit.x.pack(), 1);
            kit.x.undo();
            Kit.same("the second again", kit.x.pack(), 1);
        });
        Edge.of("P5", "Throws `IllegalStateException` if there are 12").holds(() -> {
            Kit kit = Kit.of(11);
            Kit.same("the last", kit.x.pack(), 11);
            kit.unread("13", STATE, kit.x::pack);
            kit.unread("13 again", STATE, kit.x::pack);
            kit.x.undo();
            Kit.same("the last again", kit.x.pack(), 11);
        });
    }

    private static void version() {
        Edge.of("P6", "- `pack`: number of a package",
                "Throws `IndexOutOfBoundsException` if there is no such package").holds(() -> {
            Kit kit = new Kit();
            kit.noPackage("version", pack -> kit.x.version(pack, 99, 0, 0, 0));
            for (int p = 0; p < 12; p++) {
                kit.x.pack();
                Kit.same("version", kit.x.version(p, 99, 0, 0, 0), 1);
                kit.noPackage("version", pack -> kit.x.version(pack, 99, 0, 0, 0));
            }
        });
        Edge.of("P6", "- `code`: the code of the version").holds(() -> {
            Kit kit = Kit.of(1);
            for (int code : new int[] {1, 98, 99, 999901, 999999}) {
                kit.v(0, code);
            }
            Kit.same("as told", kit.row(5, k -> kit.x.versionAt(0, k)), "1 98 99 999901 999999");
        });
        Edge.of("P6", "- `files`: 0 to 2147483647: its files").holds(() -> {
            Kit kit = Kit.of(1);
            Kit.same("the least", kit.x.version(0, 99, 0, 0, 0), 1);
            Kit.same("the greatest", kit.x.version(0, 199, MAX, 0, 0), 2);
            kit.argument("-1", () -> kit.x.version(0, 299, -1, 0, 0));
            kit.argument("the least int", () -> kit.x.version(0, 299, MIN, 0, 0));
        });
        Edge.of("P6", "- `size`: 0 to 1000").holds(() -> {
            Kit kit = Kit.of(1);
            Kit.same("the least", kit.x.version(0, 99, 0, 0, 0), 1);
            Kit.same("the greatest", kit.x.version(0, 199, 0, 1000, 0), 2);
            kit.outside("size", 0, 1000, ARGUMENT, size -> kit.x.version(0, 299, 0, size, 0));
        });
        Edge.of("P6", "- `sum`: any number").holds(() -> {
            Kit kit = Kit.of(1);
            int[] sums = {MIN, MIN + 1, -1, 0, 1, MAX - 1, MAX};
            for (int k = 0; k < sums.length; k++) {
                Kit.same("sum " + sums[k], kit.x.version(0, 99 + 100 * k, 0, 0, sums[k]), k + 1);
            }
        });
        Edge.of("P6", "Returns the number of versions of the package afterwards.").holds(() -> {
            Kit kit = Kit.of(2);
            for (int k = 1; k <= 8; k++) {
                Kit.same("of a", kit.x.version(0, 99 + 100 * k, 0, 0, 0), k);
                Kit.same("of b", kit.x.version(1, 99 + 100 * k, 0, 0, 0), k);
            }
        });
    }

    private static void versionRefused() {
        Edge.of("P6", "Throws `IllegalArgumentException` if code is the code of no version, or files "
                + "or size is out of range").holds(() -> {
            Kit kit = Kit.of(1).v(0, 99);
            for (int code : new int[] {0, -1, 100, 1000000, 1000099, MIN, MAX}) {
                kit.unread("code " + code, ARGUMENT, () -> kit.x.version(0, code, 0, 0, 0));
            }
            kit.unread("files", ARGUMENT, () -> kit.x.version(0, 199, -1, 0, 0));
            kit.unread("size", ARGUMENT, () -> kit.x.version(0, 199, 0, 1001, 0));
            kit.unread("also if it is there", ARGUMENT, () -> kit.x.version(0, 99, 0, -1, 0));
        });
        Edge.of("P6", "Throws `IllegalStateException` if the version is there,").holds(() -> {
            Kit kit = Kit.of(2).v(0, 99);
            kit.unread("it is there", STATE, () -> kit.x.version(0, 99, 7, 7, 7));
            Kit.same("in another package", kit.x.version(1, 99, 0, 0, 0), 1);
            Kit.same("a trial of it", kit.x.version(0, 98, 0, 0, 0), 2);
            kit.x.undo();
            kit.x.undo();
            kit.x.undo();
            Kit.same("it was undone", kit.x.version(0, 99, 0, 0, 0), 1);
        });
        Edge.of("P6", "or there are 8 of the package, or 40 in all").holds(() -> {
            Kit kit = Kit.of(6);
            for (int k = 0; k < 39; k++) {
                kit.v(k / 8, 99 + 100 * k);
            }
            kit.unread("a 9th", STATE, () -> kit.x.version(0, 9999, 0, 0, 0));
            Kit.same("the 8th of e, and the 40th", kit.x.version(4, 9999, 0, 0, 0), 8);
            kit.unread("the 41st", STATE, () -> kit.x.version(5, 9999, 0, 0, 0));
        });
    }

    // ---- Promises 7 to 10

    private static void need() {
        Edge.of("P7", "Returns the number of its needs afterwards.").holds(() -> {
            Kit kit = Kit.of(1).v(0, 10099, 20099);
            for (int k = 1; k <= 3; k++) {
                Kit.same("of 1.0", kit.need(0, 10099, "a"), k);
                Kit.same("of 2.0", kit.ahead(0, 20099, "a"), k);
            }
        });
        Edge.of("P7", "- `pack`: number of a package", "- `code`: code of a version of it",
                "Throws `IndexOutOfBoundsException` if there is no such package or version").holds(() -> {
            Kit kit = oneAndTwo();
            noVersion(kit, "need", (pack, code) -> kit.x.need(pack, code, false));
            Kit.same("need", kit.need(1, 20099, "a"), 1);
        });
        Edge.of("P7", "Throws `IllegalStateException` if it has 3,").holds(() -> {
            Kit kit = oneAndTwo();
            kit.need(0, 10099, "a");
            kit.need(0, 10099, "a");
            Kit.same("third", kit.need(0, 10099, "a"), 3);
            kit.unread("a fourth", STATE, () -> kit.x.need(0, 10099, false));
            kit.x.undo();
            Kit.same("third again", kit.need(0, 10099, "a"), 3);
        });
        Edge.of("P7", "Throws `IllegalArgumentException` if the text has an error").holds(() -> {
            Kit kit = oneAndTwo();
            kit.misread("", 0, () -> kit.x.need(0, 10099, true));
            kit.misread("a|", 2, () -> kit.x.need(0, 10099, true));
            Kit.same("none came", kit.need(0, 10099, "a#"), 1);
        });
    }

    private static void ban() {
        Edge.of("P8", "Returns the number of its bans afterwards.").holds(() -> {
            Kit kit = Kit.of(1).v(0, 10099, 20099);
            for (int k = 1; k <= 2; k++) {
                Kit.same("of 1.0", kit.ban(0, 10099, "a"), k);
                Kit.same("of 2.0", kit.ban(0, 20099, "a"), k);
            }
        });
        Edge.of("P8", "- `pack`: number of a package", "- `code`: code of a version of it",
                "Throws `IndexOutOfBoundsException` if there is no such package or version").holds(() -> {
            Kit kit = oneAndTwo();
            noVersion(kit, "ban", kit.x::ban);
            Kit.same("ban", kit.ban(1, 20099, "a"), 1);
        });
        Edge.of("P8", "Throws `IllegalStateException` if it has 2,").holds(() -> {
            Kit kit = oneAndTwo();
            kit.ban(0, 10099, "b");
            Kit.same("second", kit.ban(0, 10099, "b"), 2);
            kit.unread("a third", STATE, () -> kit.x.ban(0, 10099));
            kit.x.undo();
            Kit.same("second again", kit.ban(0, 10099, "b"), 2);
        });
        Edge.of("P8", "Throws `IllegalArgumentException` if the text has an error, or is no atom (a "
                + "\"#\" or \"|\" is the first token that does not fit)").holds(() -> {
            Kit kit = oneAndTwo();
            kit.misread("", 0, () -> kit.x.ban(0, 10099));
            kit.misread("b#", 1, () -> kit.x.ban(0, 10099));
            kit.misread("b # 1.0", 2, () -> kit.x.ban(0, 10099));
            kit.misread("b|b", 1, () -> kit.x.ban(0, 10099));
            kit.misread("b 1.0,2.0 | b", 10, () -> kit.x.ban(0, 10099));
            kit.misread("b 1.|b", 4, () -> kit.x.ban(0, 10099));
            Kit.same("none came", kit.ban(0, 10099, "b 1.0,2.0"), 1);
        });
    }

    private static void provide() {
        Edge.of("P9", "Returns the number of things that it provides afterwards.").holds(() -> {
            Kit kit = Kit.of(2).v(0, 10099, 20099);
            for (int k = 1; k <= 2; k++) {
                Kit.same("of 1.0", kit.x.provide(0, 10099, 1, 99), k);
                Kit.same("of 2.0", kit.x.provide(0, 20099, 1, 99), k);
            }
        });
        Edge.of("P9", "- `pack`: number of a package", "- `code`: code of a version of it",
                "Throws `IndexOutOfBoundsException` if there is no such package (of both) or version")
                .holds(() -> {
            Kit kit = oneAndTwo();
            noVersion(kit, "provide", (pack, code) -> kit.x.provide(pack, code, 1, 99));
            Kit.same("provide", kit.x.provide(1, 20099, 0, 99), 1);
        });
        Edge.of("P9", "- `other`: number of another package").holds(() -> {
            Kit kit = oneAndTwo();
            kit.noPackage("other", other -> kit.x.provide(0, 10099, other, 99));
            kit.x.pack();
            Kit.same("the greatest", kit.x.provide(0, 10099, 2, 99), 1);
            Kit.same("the least", kit.x.provide(1, 20099, 0, 99), 1);
        });
        Edge.of("P9", "- `otherCode`: the code of a version, perhaps of one that is not there")
                .holds(() -> {
            Kit kit = oneAndTwo();
            Kit.same("the least", kit.x.provide(0, 10099, 1, 1), 1);
            Kit.same("the greatest", kit.x.provide(0, 10099, 1, 999999), 2);
            Kit.same("of one that is there", kit.x.provide(1, 20099, 0, 10099), 1);
        });
    }

    private static void provideRefused() {
        Edge.of("P9", "Throws `IllegalArgumentException` if other is pack,").holds(() -> {
            Kit kit = oneAndTwo();
            kit.unread("a of a", ARGUMENT, () -> kit.x.provide(0, 10099, 0, 20099));
            kit.unread("b of b", ARGUMENT, () -> kit.x.provide(1, 20099, 1, 20099));
        });
        Edge.of("P9", "or otherCode is the code of no version").holds(() -> {
            Kit kit = oneAndTwo();
            for (int code : new int[] {0, -1, 100, 10000, 1000000, 1000099, MIN, MAX}) {
                kit.unread("code " + code, ARGUMENT, () -> kit.x.provide(0, 10099, 1, code));
            }
        });
        Edge.of("P9", "Throws `IllegalStateException` if it provides 2,").holds(() -> {
            Kit kit = oneAndTwo();
            kit.x.provide(0, 10099, 1, 99);
            Kit.same("the same again", kit.x.provide(0, 10099, 1, 99), 2);
            kit.unread("a third", STATE, () -> kit.x.provide(0, 10099, 1, 99));
            kit.x.undo();
            Kit.same("second again", kit.x.provide(0, 10099, 1, 99), 2);
        });
    }

    private static void option() {
        Edge.of("P10", "Returns how many versions of the package have the option afterwards.")
                .holds(() -> {
            Kit kit = Kit.of(2).v(1, 20099);
            kit.option(1, 20099, "a");
            for (int k = 1; k <= 8; k++) {
                kit.v(0, 99 + 100 * k);
                Kit.same("of a", kit.option(0, 99 + 100 * k, "a"), k);
            }
        });
        Edge.of("P10", "- `pack`: number of a package", "- `code`: code of a version of it",
                "Throws `IndexOutOfBoundsException` if there is no such package or version").holds(() -> {
            Kit kit = oneAndTwo();
            noVersion(kit, "option", kit.x::option);
            Kit.same("option", kit.option(1, 20099, "a"), 1);
        });
        Edge.of("P10", "Throws `IllegalStateException` if it has the option,").holds(() -> {
            Kit kit = Kit.of(2).v(0, 10099, 20099);
            kit.option(0, 10099, "a");
            kit.unread("again", STATE, () -> kit.x.option(0, 10099));
            Kit.same("another version", kit.option(0, 20099, "a"), 2);
            kit.unread("again", STATE, () -> kit.x.option(0, 20099));
        });
        Edge.of("P10", "Throws `IllegalArgumentException` if the text has an error").holds(() -> {
            Kit kit = oneAndTwo();
            kit.misread("", 0, () -> kit.x.option(0, 10099));
            kit.misread("b c", 2, () -> kit.x.option(0, 10099));
            Kit.same("none came", kit.option(0, 10099, "b|a"), 1);
        });
    }

    private static void installedSomewhere() {
        inUse(Edge.of("P7", "or is installed in a root"),
                kit -> Kit.answer(() -> kit.need(0, 10099, "b")));
        inUse(Edge.of("P8", "or is installed in a root"),
                kit -> Kit.answer(() -> kit.ban(0, 10099, "b")));
        inUse(Edge.of("P9", "or is installed in a root"),
                kit -> Kit.answer(() -> kit.x.provide(0, 10099, 1, 99)));
        inUse(Edge.of("P10", "or is installed in a root"),
                kit -> Kit.answer(() -> kit.option(0, 10099, "b")));
    }

    /** a 1.0 is installed in any one of the roots, any other one is at hand. */
    private static void inUse(Edge edge, java.util.function.Function<Kit, Object> call) {
        edge.holds(() -> {
            for (int root = 0; root < 3; root++) {
                for (int at = 0; at < 3; at++) {
                    Kit kit = Kit.of(2).v(0, 20099, 10099);
                    kit.x.root(root);
                    kit.wish("a 1.0");
                    kit.x.solve(false);
                    kit.x.root(at);
                    Kit.same("in a goal alone", call.apply(kit), 1);
                    kit.x.undo();
                    kit.x.root(root);
                    kit.x.install();
                    kit.x.root(at);
                    kit.state("installed in " + root, () -> {
                        if (call.apply(kit).equals("IllegalStateException")) {
                            throw new IllegalStateException();
                        }
                        return "no exception";
                    });
                    kit.x.clearTape();
                    kit.x.root(root);
                    kit.x.backTo(-1);
                    kit.x.install();
                    Kit.same("it has gone", call.apply(kit), 1);
                }
            }
        });
    }

    // ---- Promises 11 to 13

    private static void count() {
        Edge.of("P11", "Throws `IllegalArgumentException` if what is out of range").holds(() -> {
            Kit kit = Kit.of(1);
            kit.outside("count", 0, 7, ARGUMENT, kit.x::count);
        });
        Edge.of("P11", "Returns how many there are.").holds(() -> {
            Kit kit = new Kit();
            Kit.same("new", kit.row(8, kit.x::count), "0 0 0 0 0 0 0 0");
            for (int k = 0; k < 12; k++) {
                kit.x.pack();
            }
            for (int k = 0; k < 40; k++) {
                kit.v(k / 8, 99 + 100 * k);
            }
            for (int k = 0; k < 3; k++) {
                kit.x.mirror();
            }
            // Twelve packages have no option, and five have 28 pairs.
            Kit.same("full", kit.row(8, kit.x::count), "12 40 3 0 152 0 0 10");
        });
        Edge.of("P11", "- `what`: 0 packages, 1 versions, 2 mirrors, 3 wishes of the root at hand that "
                + "were not taken back, 4 its told clauses, 5 entries that have come to its history, 6 "
                + "fetches that succeeded, 7 changes that can be undone").holds(() -> {
            Kit kit = Kit.of(1).v(0, 10099);
            kit.x.mirror();
            for (int w = 0; w < 8; w++) {
                kit.wish("a");
                Kit.same("wishes", kit.x.count(3), w + 1);
                Kit.same("told", kit.x.count(4), w + 2);
            }
            for (int w = 0; w < 7; w++) {
                kit.x.unwish(w);
                Kit.same("wishes", kit.x.count(3), 7 - w);
                Kit.same("told", kit.x.count(4), 8 - w);
            }
            kit.x.offer(0, 0, 10099, 0);
            kit.x.solve(false);
            for (int k = 0; k < 25; k++) {
                kit.x.install();
                Kit.same("history", kit.x.count(5), k + 1);
                Kit.same("fetches", kit.x.count(6), 1);
            }
            kit.x.root(1);
            Kit.same("of another root", kit.row(8, kit.x::count), "1 1 1 0 1 0 1 10");
        });
    }

    private static void versions() {
        Edge.of("P12", "- `pack`: number of a package",
                "Throws `IndexOutOfBoundsException` if there is no such package").holds(() -> {
            Kit kit = new Kit();
            kit.noPackage("versions", kit.x::versions);
            for (int p = 0; p < 12; p++) {
                kit.x.pack();
                Kit.same("versions", kit.x.versions(p), 0);
                kit.noPackage("versions", kit.x::versions);
            }
        });
        Edge.of("P12", "Returns how many there are.").holds(() -> {
            Kit kit = Kit.of(2).v(1, 99);
            for (int k = 0; k <= 8; k++) {
                Kit.same("of a", kit.x.versions(0), k);
                Kit.same("of b", kit.x.versions(1), 1);
                if (k < 8) {
                    kit.v(0, 99 + 100 * k);
                }
            }
        });
        Edge.of("P13", "- `pack`: number of a package").holds(() -> {
            Kit kit = new Kit();
            kit.noPackage("versionAt", pack -> kit.x.versionAt(pack, 0));
            for (int p = 0; p < 12; p++) {
                kit.x.pack();
                kit.v(p, 99 + 100 * p);
                Kit.same("versionAt", kit.x.versionAt(p, 0), 99 + 100 * p);
                kit.noPackage("versionAt", pack -> kit.x.versionAt(pack, 0));
            }
        });
        Edge.of("P13", "- `place`: 0 for the oldest one, and so on", "Returns its code.",
                "Throws `IndexOutOfBoundsException` if there is no such package or place").holds(() -> {
            Kit kit = Kit.of(2);
            kit.unread("of none", INDEX, () -> kit.x.versionAt(0, 0));
            for (int k = 1; k <= 8; k++) {
                kit.v(0, 999 - 100 * k);
                Kit.same("the oldest", kit.x.versionAt(0, 0), 999 - 100 * k);
                Kit.same("the newest", kit.x.versionAt(0, k - 1), 899);
                kit.outside("place", 0, k - 1, INDEX, place -> kit.x.versionAt(0, place));
            }
        });
    }

    // ---- Section 3

    private static void told() {
        Edge.of("3", "A version has at most 3 needs, at most 2 bans and at most 2 things that it "
                + "provides.").holds(() -> {
            Kit kit = Kit.of(2).v(0, 10099, 20099);
            for (int code : new int[] {20099, 10099}) {
                for (int k = 1; k <= 3; k++) {
                    Kit.same("need", kit.need(0, code, "a"), k);
                }
                Kit.same("bans", kit.ban(0, code, "b") + kit.ban(0, code, "b"), 3);
                Kit.same("things", kit.x.provide(0, code, 1, 99) + kit.x.provide(0, code, 1, 99), 3);
                kit.unread("need", STATE, () -> kit.x.need(0, code, false));
                kit.unread("ban", STATE, () -> kit.x.ban(0, code));
                kit.unread("thing", STATE, () -> kit.x.provide(0, code, 1, 99));
                Kit.same("an option is no need", kit.option(0, code, "a"), code == 20099 ? 1 : 2);
            }
            fullLastVersion();
        });
        Edge.of("3", "A need has a text, and can be ahead (section 9);").and("P7", "- `isAhead`: whether the "
                + "need is ahead").holds(() -> {
            Kit kit = Kit.of(2).v(0, 10099).v(1, 10099);
            kit.need(0, 10099, "b");
            kit.wish("a");
            kit.x.solve(false);
            Kit.same("not ahead", kit.scripts(), "0 1");
            kit.x.undo();
            kit.x.undo();
            kit.x.undo();
            kit.ahead(0, 10099, "b");
            kit.wish("a");
            kit.x.solve(false);
            Kit.same("ahead", kit.scripts(), "1 0");
        });
        Edge.of("3", "needs of options are not ahead.").holds(() -> {
            Kit kit = Kit.of(2).v(0, 10099).v(1, 10099);
            kit.option(0, 10099, "b");
            kit.wish("a#");
            kit.x.solve(false);
            Kit.same("goal", kit.goal(), "10099+ 10099");
            Kit.same("a is first", kit.scripts(), "0 1");
            kit.ahead(0, 10099, "b");
            Kit.same("but not if a need is ahead", kit.scripts(), "1 0");
        });
        Edge.of("3", "A ban is one atom.").holds(() -> {
            Kit kit = oneAndTwo();
            kit.misread("b|b", 1, () -> kit.x.ban(0, 10099));
            Kit.same("one", kit.ban(0, 10099, "b"), 1);
            kit.wish("a");
            kit.wish("b");
            Kit.same("bans b", kit.x.solve(false), -1);
        });
        Edge.of("3", "A version can provide a version of another package, told by a code, which need "
                + "not be one that is there.").holds(() -> {
            Kit kit = Kit.of(3).v(0, 10099).v(1, 20099);
            kit.x.provide(0, 10099, 1, 50099);
            kit.x.provide(0, 10099, 2, 999999);
            kit.wish("b 5.0");
            kit.wish("c");
            kit.x.solve(false);
            Kit.same("a is b 5.0 and c", kit.goal(), "10099 20099 -");
            Kit.same("it comes to no package", kit.row(3, kit.x::versions), "1 1 0");
        });
    }

    /** The 40th version has all that it can have, and is in a goal and installed. */
    private static void fullLastVersion() {
        Kit kit = Kit.of(12);
        for (int k = 0; k < 40; k++) {
            kit.full(k < 32 ? k / 8 : k - 28, 99 + 100 * k, 0, 1, k);
        }
        for (int k = 0; k < 3; k++) {
            kit.ahead(11, 3999, "k|j");
        }
        for (int k = 0; k < 2; k++) {
            kit.ban(11, 3999, "a");
            kit.x.provide(11, 3999, 10, 999999);
        }
        kit.option(11, 3999, "i");
        kit.wish("l#");
        Kit.same("it meets its needs", kit.install(), 2);
        Kit.same("goal", kit.goal(), "- - - - - - - - 3699 - - 3999+");
        kit.x.mirror();
        Kit.same("offer", kit.x.offer(0, 11, 3999, 39), 1);
        Kit.same("because", kit.x.because(8) * 10 + kit.x.far(8), 112);
        Kit.same("a is banned", kit.x.must(0, 99), -1);
        // 12 options, 4 * 28 pairs, the wish, the needs, the bans, the need of the option.
        Kit.same("told", kit.x.count(4), 12 + 112 + 2 + 3 + 16 + 1);
        Kit.same("without i", kit.x.without(8), 2048);
        Kit.same("no error", kit.x.errors(), 0);
    }

    private static void options() {
        Edge.of("3", "versions of it that have the option have one need for it;").holds(() -> {
            Kit kit = Kit.of(3).v(0, 10099, 20099).v(1, 10099).v(2, 10099);
            kit.option(0, 10099, "b");
            kit.option(0, 20099, "c");
            kit.wish("a#");
            kit.x.solve(false);
            Kit.same("that of 2.0", kit.goal(), "20099+ - 10099");
            kit.pin(0, "1.0");
            kit.x.solve(false);
            Kit.same("that of 1.0", kit.goal(), "10099+ 10099 -");
            kit.state("a second one", () -> kit.option(0, 10099, "c"));
        });
        Edge.of("3", "a package without such a version has no option.").holds(() -> {
            Kit kit = Kit.of(2).v(0, 10099);
            Kit.same("not off or on", kit.x.fitting(), 2);
            kit.wish("a#");
            Kit.same("never on", kit.x.solve(false), -1);
            kit.x.unwish(0);
            kit.option(0, 10099, "a");
            Kit.same("off or on", kit.x.fitting(), 3);
        });
        Edge.of("3", "A set has some versions, of each package at most one, and of each of its packages "
                + "the option can be on.").holds(() -> {
            Kit kit = Kit.of(2).v(0, 10099, 20099).v(1, 10099);
            kit.option(0, 10099, "b|a");
            kit.option(0, 20099, "b|a");
            kit.option(1, 10099, "b");
            Kit.same("none, 1.0, 1.0+, 2.0, 2.0+, and none, 1.0, 1.0+", kit.x.fitting(), 15);
            kit.wish("a 1.0");
            kit.wish("a 2.0");
            Kit.same("not both versions", kit.x.solve(false), -1);
            Kit.same("no set", kit.x.fitting(), 0);
        });
    }

    private static void meeting() {
        Edge.of("3", "or if it provides a version of this package that meets the range (by the same "
                + "rule of trials);").holds(() -> {
            Kit kit = Kit.of(2).v(1, 10099);
            kit.x.provide(1, 10099, 0, 30005);
            String[] ranges = {"", "-1", "3.0!5", "1", ">3.0", "-1", ">3.0!1", "1", ">3.0!6", "-1",
                "<3.0!6", "1", "<3.0!5", "-1", "<3.0", "-1", "^3.0!5", "1", "~3.0", "-1",
                "2.0..3.0!5", "1", "2.0..4.0", "-1", "*", "-1", "*,3.0!5", "1"};
            for (int k = 0; k < ranges.length; k += 2) {
                kit.wish("a " + ranges[k]);
                Kit.same("a " + ranges[k], kit.x.solve(false), Integer.parseInt(ranges[k + 1]));
                kit.x.undo();
                kit.x.undo();
            }
        });
        Edge.of("3", "it can meet a need of its own.").holds(() -> {
            Kit kit = Kit.of(2).v(0, 10099);
            kit.x.provide(0, 10099, 1, 10099);
            kit.need(0, 10099, "a");
            kit.need(0, 10099, "b");
            kit.option(0, 10099, "b 1.0");
            kit.need(0, 10099, "a#");
            kit.wish("a");
            Kit.same("alone", kit.x.solve(false), 1);
            Kit.same("on", kit.goal(), "10099+ -");
        });
        Edge.of("3", "A need with \"#\" is met if the set has a version of the package that meets the "
                + "range (provided ones do not count), and its option is on;").holds(() -> {
            Kit kit = Kit.of(2).v(0, 10099, 20099).v(1, 10099);
            kit.option(0, 10099, "b");
            kit.option(0, 20099, "a");
            kit.x.provide(1, 10099, 0, 30099);
            kit.wish("a# <2.0");
            kit.x.solve(false);
            Kit.same("of the range, on", kit.goal(), "10099+ 10099");
            kit.wish("a 2.0");
            Kit.same("on in another version", kit.x.solve(false), -1);
            kit.x.unwish(0);
            kit.x.unwish(1);
            kit.wish("a# 3.0");
            Kit.same("provided", kit.x.solve(false), -1);
            kit.x.unwish(2);
            kit.wish("a 3.0");
            Kit.same("provided, without #", kit.x.solve(false), 2);
        });
        Edge.of("3", "another need is met if some version of the set meets one of its atoms.")
                .holds(() -> {
            Kit kit = Kit.of(3).v(0, 10099).v(1, 10099).v(2, 10099);
            kit.need(0, 10099, "b 2.0|c 2.0|b 1.0");
            kit.need(1, 10099, "c 1.0|b 7.0");
            kit.wish("a");
            kit.x.solve(false);
            Kit.same("by the last atom, by the first one", kit.goal(), "10099 10099 10099");
            kit.need(2, 10099, "b 2.0|c 2.0");
            Kit.same("by none", kit.x.solve(false), -1);
        });
    }

    private static void sound() {
        Edge.of("3", "A set is sound if for each of its versions all needs are met,").holds(() -> {
            for (int k = 0; k < 3; k++) {
                Kit kit = Kit.of(2).v(0, 10099).v(1, 10099);
                kit.wish("b");
                kit.x.solve(false);
                for (int need = 0; need < 3; need++) {
                    kit.need(1, 10099, need == k ? "a" : "b");
                }
                kit.unread("one of three is not met", STATE, kit.x::install);
                kit.wish("a");
                kit.x.solve(false);
                Kit.same("all are met", kit.x.install(), 2);
            }
        });
        Edge.of("3", "no other version of the set meets one of its bans,").holds(() -> {
            Kit kit = Kit.of(3).v(0, 10099).v(1, 10099).v(2, 10099);
            kit.wish("a");
            kit.wish("b");
            kit.x.solve(false);
            kit.ban(0, 10099, "a");
            Kit.same("itself", kit.x.plan(), 2);
            kit.ban(0, 10099, "c");
            Kit.same("none", kit.x.plan(), 2);
            kit.x.provide(1, 10099, 2, 10099);
            kit.unread("by the second one, provided", STATE, kit.x::plan);
            Kit first = Kit.of(3).v(0, 10099).v(1, 10099).v(2, 10099);
            first.wish("a");
            first.wish("b");
            first.x.solve(false);
            first.ban(1, 10099, "a");
            first.ban(1, 10099, "c");
            first.unread("by the first one", STATE, first.x::plan);
        });
        Edge.of("3", "and, if its option is on, the version has the option,").holds(() -> {
            Kit kit = Kit.of(1).v(0, 10099, 20099);
            kit.option(0, 10099, "a");
            kit.wish("a#");
            kit.x.solve(false);
            Kit.same("1.0 has it", kit.goal(), "10099+");
            kit.pin(0, "2.0");
            Kit.same("2.0 does not have it", kit.x.solve(false), -1);
        });
        Edge.of("3", "and the need of the option is met.").holds(() -> {
            Kit kit = Kit.of(2).v(0, 10099).v(1, 10099);
            kit.option(0, 10099, "b");
            kit.wish("a");
            kit.x.solve(false);
            Kit.same("it is off", kit.goal(), "10099 -");
            kit.wish("a#");
            kit.x.solve(false);
            Kit.same("it is on", kit.goal(), "10099+ 10099");
            kit.pin(1, "2.0");
            Kit.same("it cannot be on", kit.x.solve(false), -1);
        });
    }
}
