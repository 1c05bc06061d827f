/** Promises 1 to 14: a new object, the tape, packages, versions and what they need. */
public final class PackagesTest {
    private static final int MIN = Integer.MIN_VALUE;
    private static final int MAX = Integer.MAX_VALUE;

    public static void main(String[] args) {
        newObject();
        append();
        clearTape();
        errorPosition();
        errorsOfTexts();
        pack();
        version();
        versionLimits();
        need();
        ban();
        provide();
        option();
        count();
        versionsAndVersionAt();
        inRange();
        trials();
        readingCalls();
        Kit.end("PackagesTest");
    }

    private static void newObject() {
        Kit kit = new Kit();
        for (int r = 2; r >= 0; r--) {
            for (int what = 0; what < 7; what++) {
                Kit.same("new: count(" + what + ")", kit.x.count(what), 0);
            }
            Kit.same("new: solve", kit.x.solve(false), 0);
            Kit.same("new: orphans", kit.x.orphans(), 0);
            Kit.same("new: failure", kit.failure(), "-1 -1 -1");
            Kit.same("new: quota", kit.x.quota(40000), 40000);
            kit.x.root(r);
        }
        kit = new Kit();
        Kit.same("new: count(7)", kit.x.count(7), 0);
        Kit.same("new: clearTape", kit.x.clearTape(), 0);
        Kit.same("new: errorPosition", kit.x.errorPosition(), -1);
        Kit.same("new: fitting", kit.x.fitting(), 1);
        Kit.same("new: checksum", kit.x.checksum(), 17);
        Kit.same("new: undo", kit.x.undo(), -1);
        Kit.same("new: root", kit.x.root(0), 0);
    }

    private static void append() {
        Kit kit = Kit.of(2);
        Kit.same("append in order", kit.x.append('a' << 24 | 'b', '1' << 16, 0, '.' << 8, '0'), 5);
        // Read as "ab1.0": the b does not fit behind the a.
        kit.argument("need of that", () -> kit.x.inRange(0));
        kit.x.append('a' << 24 | ' ', '1' << 16, 0, '.' << 8, '0');
        kit.x.wish();
        kit.x.append('a' << 24 | '1' << 16 | '.' << 8 | '0', '.' << 24 | '.', '1', '.', '0');
        kit.x.wish();
        Kit.same("nothing but 0", kit.x.append(0, 0, 0, 0, 0), 0);
        Kit.same("bytes above 127", kit.x.append(-1, 0x80000000, 0, 0, 0x80), 6);
        Kit.same("none of them 0", kit.x.append(0x01020304, 5, 6 << 8, 7 << 16, 8 << 24), 14);
        Kit.same("cleared", kit.x.clearTape(), 14);
        for (int k = 1; k <= 9; k++) {
            kit.x.append(-1, -1, -1, -1, -1);
        }
        kit.x.append(-1, -1, -1, -1, 0);
        Kit.same("199", kit.x.append(-1 >>> 8, 0, 0, 0, 0), 199);
        kit.state("201", () -> kit.x.append(0, 0, 1 << 16 | 1, 0, 0));
        Kit.same("200", kit.x.append(0, 0, 1 << 16, 0, 0), 200);
        Kit.same("200 and nothing", kit.x.append(0, 0, 0, 0, 0), 200);
        kit.state("201 again", () -> kit.x.append(0, 0, 0, 0, 1));
        Kit.same("still 200", kit.x.clearTape(), 200);
        for (int k = 0; k < 5; k++) {
            full(k);
        }
    }

    /** With two bytes of room, each of the five words can be the one that has too many. */
    private static void full(int place) {
        Kit kit = new Kit();
        for (int k = 0; k < 9; k++) {
            kit.x.append(-1, -1, -1, -1, -1);
        }
        kit.x.append(-1, -1, -1, -1, -1 >>> 16);
        int[] w = new int[5];
        w[place] = 0x01000203;
        kit.state("three more", () -> kit.x.append(w[0], w[1], w[2], w[3], w[4]));
        w[place] = 0x01000200;
        Kit.same("two more", kit.x.append(w[0], w[1], w[2], w[3], w[4]), 200);
    }

    private static void clearTape() {
        Kit kit = Kit.of(1).v(0, 10099);
        kit.tape("a 1.0");
        int undoable = kit.x.count(7);
        Kit.same("clearTape", kit.x.clearTape(), 5);
        Kit.same("clearTape twice", kit.x.clearTape(), 0);
        Kit.same("is no change", kit.x.count(7), undoable);
        Kit.same("an error", Kit.answer(() -> kit.inRange(0, "1.")), "IllegalArgumentException");
        kit.tape("a").x.clearTape();
        Kit.same("leaves the error position", kit.x.errorPosition(), 2);
    }

    private static void errorPosition() {
        Kit kit = Kit.of(2).v(0, 10099);
        Kit.same("no call yet", kit.x.errorPosition(), -1);
        kit.argument("wish", () -> kit.wish("a|c"));
        Kit.same("at the c", kit.x.errorPosition(), 2);
        kit.index("ahead of the reading", () -> kit.tape("?").x.need(0, 1, true));
        Kit.same("stays", kit.x.errorPosition(), 2);
        Kit.same("and so does the tape", kit.x.clearTape(), 1);
        kit.wish("a");
        Kit.same("no error", kit.x.errorPosition(), -1);
        kit.argument("pin", () -> kit.pin(0, "1.0.."));
        Kit.same("ends too early", kit.x.errorPosition(), 5);
        kit.x.undo();
        Kit.same("undo leaves it", kit.x.errorPosition(), 5);
        kit.x.pin(0);
        Kit.same("an empty pin is no error", kit.x.errorPosition(), -1);
    }

    private static void error(Kit kit, String text, int due) {
        Kit.same("wish " + text, Kit.answer(() -> kit.wish(text)), "IllegalArgumentException");
        Kit.same("error position of " + text, kit.x.errorPosition(), due);
        Kit.same("tape behind it", kit.x.clearTape(), 0);
    }

    private static void right(Kit kit, String text) {
        Kit.same("wish " + text, Kit.answer(() -> kit.wish(text)), 0);
        Kit.same("error position of " + text, kit.x.errorPosition(), -1);
        Kit.same("tape behind it", kit.x.clearTape(), 0);
        kit.x.undo();
    }

    private static void errorsOfTexts() {
        Kit kit = Kit.of(3);
        String[] texts = {"", "0", " \n", "2", "d", "0", "A", "0", "a b", "2", "a|", "2", "a | ", "4",
            "|a", "0", "a#b", "2", "a#|b", "2", "a|b#", "3", "a 1.0#", "5", "a##", "2", "#", "0",
            "a 1", "3", "a 1.", "4", "a 1.0!", "6", "a 1.0!0", "6", "a 1.0!99", "6", "a 1.0!00", "6",
            "a 1.0!100", "6", "a 100.0", "2", "a 1.100", "4", "a 1 . 2 !", "9", "a 1..2", "3",
            "a 1...2", "3", "a 1.0...2.0", "7", "a 1.0.2", "5", "a >", "3", "a >>1.0", "3",
            "a >*", "3", "a *1.0", "3", "a **", "3", "a *,", "4", "a ,*", "2", "a *,,", "4",
            "a >1.0..2.0", "6", "a =1.0..2.0", "6", "a 1.0..>2.0", "7", "a 1.0..*", "7",
            "a 2.0..1.0", "5", "a 2.0 .. 1.0 ?", "6", "a 2.0..1.99!5", "5", "a 2.0..1.0!", "11",
            "a 2.0..1.0!99", "11", "a 2.0..1.0!x", "11", "a 2.0..1.0|d", "5", "a 2.0..2.0!98", "5",
            "a 2.0..1", "8", "a 2.0..1.", "9", "a 1.0 2.0", "6", "a 1.0 b", "6", "a|b,c", "3",
            "a!1", "1", "a 1.0!5!5", "7", "a\t", "1", "a \u0001", "2", "a\u00ff", "1", "a~", "2",
            "a~1", "3", "aa", "1", "a 1.0..2.0..3.0", "10", "a 1.0..2.0!", "11", "a-", "1",
            "a 1,0", "3", "a 1 1.0", "4", "a 11 1.0", "5", "a <1.0,", "7", "a ^1.0,b", "7",
            "a@1.0", "1", "m", "0", "l", "0", "`", "0", "{", "0"};
        for (int k = 0; k < texts.length; k += 2) {
            error(kit, texts[k], Integer.parseInt(texts[k + 1]));
        }
        String[] good = {"a", " a ", "\na\n", "a#", "a # >1.0 , 2.0", "a|b|c|a", "a*", "a *,*",
            "a 00.00", "a 99.99!98", "a01.1!1,=1.0|b<1.0|c~ 2 . 3 ! 4", "a 1.0..1.0", "a 1.0!5..1.0",
            "a 1 .0 .. 2. 0", "a#1.0..2.0!3,*", "a^1.0,>2.0|b"};
        for (String text : good) {
            right(kit, text);
        }
        Kit all = Kit.of(12);
        right(all, "a|b|c|d|e|f|g|h|i|j|k|l");
        error(all, "a|m", 2);
        error(all, "?" + " ".repeat(199), 0);
        error(all, " ".repeat(199) + "?", 199);
        error(all, " ".repeat(200), 200);
        right(all, "a" + "|l".repeat(99));
        right(all, "a*" + ",*".repeat(99));
    }

    private static void pack() {
        Kit kit = new Kit();
        for (int p = 0; p < 12; p++) {
            Kit.same("pack", kit.x.pack(), p);
        }
        kit.state("pack 13", kit.x::pack);
        kit.x.undo();
        Kit.same("pack again", kit.x.pack(), 11);
    }

    private static void version() {
        Kit kit = Kit.of(2);
        Kit.same("oldest code", kit.x.version(0, 1, 0, 0, 0), 1);
        Kit.same("newest code", kit.x.version(0, 999999, MAX, 1000, MIN), 2);
        Kit.same("0.0", kit.x.version(0, 99, 1, 1, MAX), 3);
        Kit.same("another package", kit.x.version(1, 99, 1, 1, -1), 1);
        for (int code : new int[] {0, -1, 100, 10000, 1000000, MIN, MAX, 1000099}) {
            kit.argument("code " + code, () -> kit.x.version(0, code, 0, 0, 0));
        }
        kit.argument("files", () -> kit.x.version(0, 299, -1, 0, 0));
        kit.argument("files", () -> kit.x.version(0, 299, MIN, 0, 0));
        kit.argument("size", () -> kit.x.version(0, 299, 0, -1, 0));
        kit.argument("size", () -> kit.x.version(0, 299, 0, 1001, 0));
        for (int pack : new int[] {-1, 2, MIN, MAX}) {
            kit.index("pack, then code", () -> kit.x.version(pack, 0, -1, -1, 0));
        }
        kit.argument("files, then the state", () -> kit.x.version(0, 99, -1, 0, 0));
        kit.state("it is there", () -> kit.x.version(0, 99, 0, 0, 0));
    }

    private static void versionLimits() {
        Kit kit = Kit.of(6);
        for (int k = 0; k < 40; k++) {
            Kit.same("version", kit.x.version(k / 8, 199 + 100 * (k % 8), 0, 0, 0), k % 8 + 1);
            if (k == 7) {
                kit.state("9 of a package", () -> kit.x.version(0, 1099, 0, 0, 0));
            }
        }
        kit.state("41 in all", () -> kit.x.version(5, 1099, 0, 0, 0));
        kit.state("9 of a package and 41", () -> kit.x.version(4, 1099, 0, 0, 0));
        Kit.same("count", kit.x.count(1), 40);
    }

    private static void need() {
        Kit kit = Kit.of(2).v(0, 10099).v(1, 10099, 20099);
        Kit.same("first", kit.need(0, 10099, "b >2.0"), 1);
        Kit.same("second", kit.ahead(0, 10099, "b"), 2);
        kit.index("no package", () -> kit.tape("?").x.need(2, 10099, true));
        kit.index("no package", () -> kit.x.need(-1, 10099, true));
        kit.index("no version", () -> kit.x.need(0, 20099, true));
        kit.argument("a text with an error", () -> kit.x.need(0, 10099, true));
        Kit.same("its place", kit.x.errorPosition(), 0);
        Kit.same("the tape is empty", kit.x.clearTape(), 0);
        kit.wish("a");
        kit.x.solve(false);
        Kit.same("both are met", kit.goal(), "10099 20099");
        Kit.same("third", kit.need(0, 10099, "b 1.0"), 3);
        Kit.same("not all can be met", kit.x.solve(false), -1);
        kit.tape("?");
        kit.state("a fourth", () -> kit.x.need(0, 10099, true));
        Kit.same("the tape is left", kit.x.clearTape(), 1);
        needOfInstalled();
    }

    private static void needOfInstalled() {
        Kit kit = Kit.of(2).v(0, 10099).v(1, 10099);
        kit.wish("a");
        kit.install();
        kit.x.root(2);
        kit.tape("?");
        kit.state("need, installed in a root", () -> kit.x.need(0, 10099, true));
        kit.state("ban, installed in a root", () -> kit.x.ban(0, 10099));
        kit.state("provide, installed in a root", () -> kit.x.provide(0, 10099, 1, 99));
        kit.state("option, installed in a root", () -> kit.x.option(0, 10099));
        Kit.same("the tape is left", kit.x.clearTape(), 1);
        Kit.same("another version", kit.need(1, 10099, "a"), 1);
        kit.x.root(0);
        kit.x.unwish(0);
        kit.install();
        Kit.same("gone again", kit.need(0, 10099, "b"), 1);
        for (int root = 0; root < 3; root++) {
            installedInOne(root);
        }
    }

    private static void installedInOne(int root) {
        for (int at = 0; at < 3; at++) {
            Kit kit = Kit.of(2).v(0, 10099).v(1, 10099);
            kit.x.root(root);
            kit.wish("a");
            kit.install();
            kit.x.root(at);
            kit.state("need, installed in root " + root, () -> kit.tape("b").x.need(0, 10099, true));
            kit.state("ban, installed in root " + root, () -> kit.x.ban(0, 10099));
            kit.state("provide, installed in root " + root, () -> kit.x.provide(0, 10099, 1, 99));
            kit.state("option, installed in root " + root, () -> kit.x.option(0, 10099));
            Kit.same("not installed", kit.x.ban(1, 10099), 1);
        }
    }

    private static void ban() {
        Kit kit = Kit.of(3).v(0, 10099).v(1, 10099, 20099).v(2, 10099);
        Kit.same("first", kit.ban(0, 10099, "b >2.0"), 1);
        kit.argument("with #", () -> kit.ban(0, 10099, "b#"));
        Kit.same("the # does not fit", kit.x.errorPosition(), 1);
        kit.argument("with |", () -> kit.ban(0, 10099, "b 1.0 | c"));
        Kit.same("the | does not fit", kit.x.errorPosition(), 6);
        kit.argument("an error ahead of it", () -> kit.ban(0, 10099, "b 1. | c"));
        Kit.same("that is told", kit.x.errorPosition(), 5);
        kit.argument("empty", () -> kit.ban(0, 10099, ""));
        kit.index("no version", () -> kit.tape("?").x.ban(0, 1));
        kit.index("no package", () -> kit.x.ban(3, 10099));
        kit.x.clearTape();
        kit.x.provide(2, 10099, 0, 30099);
        Kit.same("second, of itself too", kit.ban(0, 10099, "a"), 2);
        kit.state("third", () -> kit.tape("?").x.ban(0, 10099));
        Kit.same("the tape is left", kit.x.clearTape(), 1);
        kit.wish("a 1.0");
        kit.wish("b");
        kit.x.solve(false);
        Kit.same("not b 2.0", kit.goal(), "10099 10099 -");
        kit.wish("c");
        Kit.same("what c provides is banned", kit.x.solve(false), -1);
    }

    private static void provide() {
        Kit kit = Kit.of(3).v(0, 10099).v(1, 10099);
        for (int other : new int[] {-1, 3, MAX}) {
            kit.index("no other", () -> kit.x.provide(0, 10099, other, 0));
        }
        kit.index("no version", () -> kit.x.provide(0, 20099, 0, 0));
        kit.index("no package", () -> kit.x.provide(3, 10099, 0, 0));
        kit.argument("itself", () -> kit.x.provide(0, 10099, 0, 99));
        for (int code : new int[] {0, -1, 300, 1000000, MIN}) {
            kit.argument("code " + code, () -> kit.x.provide(0, 10099, 1, code));
        }
        Kit.same("first", kit.x.provide(0, 10099, 1, 999999), 1);
        Kit.same("second", kit.x.provide(0, 10099, 2, 1), 2);
        kit.argument("a third of itself", () -> kit.x.provide(0, 10099, 0, 99));
        kit.state("third", () -> kit.x.provide(0, 10099, 1, 99));
        kit.wish("c 0.0!1");
        kit.wish("b 99.99");
        kit.x.solve(false);
        Kit.same("a is both, b is as new as can be", kit.goal(), "10099 10099 -");
        Kit.same("a must be there", kit.x.must(0, 10099), 1);
        kit.wish("c");
        Kit.same("a trial does not meet no range", kit.x.solve(false), -1);
    }

    private static void option() {
        Kit kit = Kit.of(2).v(0, 10099, 20099, 30099).v(1, 10099);
        Kit.same("first", kit.option(0, 20099, "b"), 1);
        kit.index("no version", () -> kit.tape("?").x.option(0, 99));
        kit.index("no package", () -> kit.x.option(-1, 99));
        kit.state("it has it", () -> kit.x.option(0, 20099));
        kit.argument("an error", () -> kit.x.option(0, 10099));
        Kit.same("second", kit.option(0, 10099, "a#"), 2);
        kit.wish("a#");
        kit.x.solve(false);
        Kit.same("the newest with the option, and its need", kit.goal(), "20099+ 10099");
        Kit.same("because of the option", kit.x.because(1), 0);
        kit.wish("a 1.0");
        kit.x.solve(false);
        Kit.same("the other need", kit.goal(), "10099+ -");
    }

    private static void count() {
        Kit kit = Kit.of(3).v(0, 10099, 20099).v(1, 10099);
        kit.need(0, 10099, "b#");
        kit.wish("a");
        kit.wish("b");
        kit.x.unwish(0);
        kit.x.mirror();
        kit.x.mirror();
        kit.x.offer(0, 0, 20099, 0);
        kit.x.offer(0, 1, 10099, 0);
        Kit.same("install", kit.install(), 1);
        Kit.same("install", kit.install(), 0);
        // Wish, two of the need, no option of three packages, one pair.
        Kit.same("counts", kit.row(8, kit.x::count), "3 3 2 1 7 2 1 10");
        for (int what : new int[] {-1, 8, MIN, MAX}) {
            kit.argument("what", () -> kit.x.count(what));
        }
        kit.x.root(1);
        Kit.same("another root", kit.row(8, kit.x::count), "3 3 2 0 6 0 1 10");
        kit.x.undo();
        Kit.same("one less", kit.x.count(7), 9);
        toldClauses();
    }

    private static void toldClauses() {
        Kit kit = Kit.of(2).v(0, 10099, 20099, 30099).v(1, 10099, 20099);
        Kit.same("pairs and options", kit.x.count(4), 3 + 2 + 1);
        kit.x.hold(0, true);
        Kit.same("none of three", kit.x.count(4), 9);
        kit.x.hold(0, false);
        kit.wish("b#");
        kit.pin(0, "2.0");
        kit.pin(1, "3.0");
        Kit.same("a wish with #, pins", kit.x.count(4), 6 + 2 + 2 + 2);
        kit.option(1, 10099, "a#");
        Kit.same("an option with #", kit.x.count(4), 14);
        kit.ban(0, 10099, "b");
        kit.ban(0, 10099, "b");
        kit.ban(0, 20099, "a");
        Kit.same("bans", kit.x.count(4), 14 + 4 + 2);
    }

    private static void versionsAndVersionAt() {
        Kit kit = Kit.of(2).v(0, 20099, 10099, 10098, 30001, 10101);
        Kit.same("versions", kit.x.versions(0), 5);
        Kit.same("none", kit.x.versions(1), 0);
        Kit.same("by age", kit.row(5, k -> kit.x.versionAt(0, k)), "10098 10099 10101 20099 30001");
        for (int pack : new int[] {-1, 2, MIN, MAX}) {
            kit.index("versions", () -> kit.x.versions(pack));
            kit.index("versionAt", () -> kit.x.versionAt(pack, 0));
        }
        for (int place : new int[] {-1, 5, MIN, MAX}) {
            kit.index("versionAt", () -> kit.x.versionAt(0, place));
        }
        kit.index("versionAt of none", () -> kit.x.versionAt(1, 0));
        kit.x.undo();
        Kit.same("one less", kit.x.versions(0), 4);
    }

    private static void inRange() {
        Kit kit = Kit.of(2).v(0, 10099, 10199, 10299, 20099, 20199, 30099);
        kit.v(1, 10099).x.provide(1, 10099, 0, 50099);
        String[] ranges = {"*", "6", "1.0", "1", "=1.1", "1", "4.0", "0", ">1.2", "4", "<1.2", "2",
            "^1.1", "2", "^1.3", "0", "^0.9", "0", "~1.1", "1", "~1.3", "0", "1.1..2.0", "3",
            "1.1..1.1", "1", "0.0..99.99", "6", "<1.1,>2.1", "3", "1.0,1.0,=1.0", "1", ">3.1", "0",
            ">50.0", "0", "<0.0", "0", "<1.0,*", "6", ">0.0", "6", "^3.0, ~2.0", "2",
            "1.0,1.1,2.0", "3", "1.0,9.0,2.0,3.0", "3"};
        for (int k = 0; k < ranges.length; k += 2) {
            Kit.same("in " + ranges[k], kit.inRange(0, ranges[k]), Integer.parseInt(ranges[k + 1]));
        }
        kit.index("no package", () -> kit.tape("1.0").x.inRange(2));
        Kit.same("the tape is left", kit.x.clearTape(), 3);
        kit.argument("an empty tape", () -> kit.x.inRange(0));
        Kit.same("is an error", kit.x.errorPosition(), 0);
        kit.argument("no range", () -> kit.inRange(0, "a"));
        kit.argument("no range", () -> kit.inRange(0, "1.0|1.1"));
        Kit.same("at the sign", kit.x.errorPosition(), 3);
        kit.argument("no range", () -> kit.inRange(0, "#"));
    }

    private static void trials() {
        Kit kit = Kit.of(1).v(0, 10005, 10007, 10099, 10105, 20005, 20099);
        String[] ranges = {"*", "2", "1.0", "1", "1.0!5", "1", "=1.0!7", "1", "1.0!6", "0",
            ">1.0!6", "3", ">1.0!5", "4", ">1.0", "2", "<1.0!7", "1", "<2.0", "1", "<1.0", "0",
            "^1.0!5", "3", "^1.0", "1", "^1.0!8", "1", "~1.0!7", "2", "~1.1!1", "1", "~1.0", "1",
            "1.0!6..2.0", "3", "1.0..2.0!9", "2", "1.0!1..2.0!9", "4", "1.0..1.1!9", "2",
            "0.0..2.0", "2", ">2.0!1", "2", "1.1!5..2.0!5", "2", "*,1.1!5", "3", "<1.1!6", "2"};
        for (int k = 0; k < ranges.length; k += 2) {
            Kit.same("in " + ranges[k], kit.inRange(0, ranges[k]), Integer.parseInt(ranges[k + 1]));
        }
    }

    private static void readingCalls() {
        Kit kit = Kit.of(1).v(0, 10099);
        int undoable = kit.x.count(7);
        kit.inRange(0, "*");
        Kit.same("inRange is a question", kit.x.count(7), undoable);
        Kit.same("but empties the tape", kit.x.clearTape(), 0);
        for (int k = 0; k < 6; k++) {
            kit.tape(k % 2 == 0 ? "a>" : "a");
            int call = k / 2;
            Object got = Kit.answer(() -> call == 0 ? kit.x.need(0, 10099, false)
                    : call == 1 ? kit.x.option(0, 10099) : kit.x.wish());
            Kit.same("reads", got, k % 2 == 0 ? "IllegalArgumentException" : call == 2 ? 0 : 1);
            Kit.same("empties the tape", kit.x.clearTape(), 0);
            Kit.same("tells", kit.x.errorPosition(), k % 2 == 0 ? 2 : -1);
        }
    }
}
