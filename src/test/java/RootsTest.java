/** Promises 15 to 20: roots, wishes, holds, pins, the quota. */
public final class RootsTest {
    private static final int MIN = Integer.MIN_VALUE;
    private static final int MAX = Integer.MAX_VALUE;

    public static void main(String[] args) {
        root();
        wish();
        unwish();
        hold();
        holdOfOption();
        pin();
        quota();
        Kit.end("RootsTest");
    }

    private static void root() {
        Kit kit = Kit.of(1).v(0, 10099);
        kit.wish("a");
        kit.x.quota(7);
        kit.install();
        Kit.same("root 2", kit.x.root(2), 0);
        Kit.same("has no wish", kit.x.count(3), 0);
        Kit.same("nothing installed", kit.x.installed(0), -1);
        Kit.same("no history", kit.x.count(5), 0);
        Kit.same("no goal", kit.x.versionOf(0), -1);
        Kit.same("its own quota", kit.x.quota(9), 40000);
        Kit.same("the packages", kit.x.versions(0), 1);
        Kit.same("its own wish", kit.wish("a"), 0);
        Kit.same("root 1", kit.x.root(1), 2);
        Kit.same("root 1 again", kit.x.root(1), 1);
        Kit.same("is a change", kit.x.count(7), 10);
        for (int which : new int[] {-1, 3, MIN, MAX}) {
            kit.argument("root", () -> kit.x.root(which));
        }
        Kit.same("root 0", kit.x.root(0), 1);
        Kit.same("has its wish", kit.x.count(3), 1);
        Kit.same("and what is installed", kit.x.installed(0), 10099);
        Kit.same("and its quota", kit.x.quota(1), 7);
    }

    private static void wish() {
        Kit kit = Kit.of(2).v(0, 10099, 20099).v(1, 10099, 20099);
        Kit.same("wish", kit.wish("a <2.0"), 0);
        kit.argument("an error", () -> kit.wish("a <"));
        Kit.same("its place", kit.x.errorPosition(), 3);
        Kit.same("wish", kit.wish("b|a"), 1);
        kit.x.unwish(0);
        for (int w = 2; w < 8; w++) {
            Kit.same("numbers go on", kit.wish("b"), w);
        }
        kit.tape("?");
        kit.state("8 have come", kit.x::wish);
        Kit.same("the tape is left", kit.x.clearTape(), 1);
        kit.x.solve(false);
        Kit.same("the newest of both", kit.goal(), "20099 20099");
        kit.x.root(1);
        Kit.same("another root", kit.wish("a"), 0);
    }

    private static void unwish() {
        Kit kit = Kit.of(2).v(0, 10099).v(1, 10099);
        kit.wish("a");
        kit.wish("b");
        kit.wish("a");
        Kit.same("unwish", kit.x.unwish(1), 2);
        kit.index("taken back", () -> kit.x.unwish(1));
        for (int wish : new int[] {-1, 3, MIN, MAX}) {
            kit.index("no such wish", () -> kit.x.unwish(wish));
        }
        kit.x.solve(false);
        Kit.same("without b", kit.goal(), "10099 -");
        Kit.same("unwish", kit.x.unwish(0), 1);
        Kit.same("the wish 2 is left", kit.x.because(0), 102);
        Kit.same("unwish", kit.x.unwish(2), 0);
        kit.x.solve(false);
        Kit.same("nothing", kit.goal(), "- -");
        Kit.same("number 3", kit.wish("a"), 3);
    }

    private static void hold() {
        Kit kit = Kit.of(3).v(0, 10099).v(1, 10099).v(2, 10099);
        kit.wish("a");
        kit.install();
        kit.v(0, 20099);
        Kit.same("hold a", kit.x.hold(0, true), 1);
        Kit.same("hold a again", kit.x.hold(0, true), 1);
        Kit.same("hold c", kit.x.hold(2, true), 2);
        for (int pack : new int[] {-1, 3, MIN, MAX}) {
            kit.index("no package", () -> kit.x.hold(pack, true));
            kit.index("no package", () -> kit.x.hold(pack, false));
        }
        kit.wish("c|b");
        kit.x.solve(false);
        Kit.same("a stays, c does not come", kit.goal(), "10099 10099 -");
        Kit.same("c is in none", kit.x.must(2, 10099), -1);
        Kit.same("end the hold of b", kit.x.hold(1, false), 2);
        Kit.same("end the hold of c", kit.x.hold(2, false), 1);
        kit.x.solve(false);
        Kit.same("both may come", kit.goal(), "10099 10099 10099");
        Kit.same("with a 1.0, and b or c or both", kit.x.fitting(), 3);
        kit.x.lock(0);
        Kit.same("fits the hold", kit.x.takeLock(0), 1);
        kit.x.hold(1, true);
        Kit.same("b is none", kit.x.takeLock(0), 0);
        Kit.same("as it must be", kit.x.mergeLocks(0, 0), 0);
        Kit.same("c alone", kit.x.fitting(), 1);
        kit.x.undo();
        kit.x.undo();
        kit.x.undo();
        kit.x.unwish(0);
        kit.x.root(1);
        Kit.same("no hold in another root", kit.x.hold(1, true), 1);
        kit.x.root(0);
        Kit.same("end the last one", kit.x.hold(0, false), 0);
    }

    private static void holdOfOption() {
        Kit kit = Kit.of(1).v(0, 10099);
        kit.option(0, 10099, "a");
        kit.wish("a");
        kit.install();
        kit.x.hold(0, true);
        kit.wish("a#");
        Kit.same("the option must stay off", kit.x.solve(false), -1);
        kit.x.hold(0, false);
        kit.install();
        Kit.same("it is on", kit.installed(), "1010099");
        kit.x.unwish(1);
        kit.x.solve(false);
        Kit.same("off is ahead", kit.goal(), "10099");
        kit.x.hold(0, true);
        kit.x.solve(false);
        Kit.same("but on is held", kit.goal(), "10099+");
        Kit.same("it alone fits", kit.x.fitting(), 1);
    }

    private static void pin() {
        Kit kit = Kit.of(2).v(0, 10099, 10199, 20099).v(1, 10099);
        kit.wish("a");
        Kit.same("pin a", kit.pin(0, "^1.0"), 1);
        kit.x.solve(false);
        Kit.same("the newest 1", kit.goal(), "10199 -");
        Kit.same("in place of it", kit.pin(0, "1.0,3.0"), 1);
        kit.x.solve(false);
        Kit.same("1.0 alone", kit.goal(), "10099 -");
        Kit.same("pin b", kit.pin(1, "5.0"), 2);
        kit.x.solve(false);
        Kit.same("no b is right", kit.goal(), "10099 -");
        Kit.same("but b is not", kit.x.must(1, 10099), -1);
        kit.argument("no range", () -> kit.pin(1, "b"));
        Kit.same("at the b", kit.x.errorPosition(), 0);
        kit.argument("blanks are no empty tape", () -> kit.pin(1, " "));
        Kit.same("end of the text", kit.x.errorPosition(), 1);
        kit.argument("a need", () -> kit.pin(1, "1.0|b"));
        for (int pack : new int[] {-1, 2, MIN, MAX}) {
            kit.index("no package", () -> kit.tape("?").x.pin(pack));
            Kit.same("the tape is left", kit.x.clearTape(), 1);
        }
        Kit.same("end of the pin of a", kit.pin(0, ""), 1);
        Kit.same("again", kit.pin(0, ""), 1);
        kit.x.solve(false);
        Kit.same("the newest", kit.goal(), "20099 -");
        Kit.same("end of the pin of b", kit.pin(1, ""), 0);
        Kit.same("b may be", kit.x.must(1, 10099), 0);
        pinAndProvided();
    }

    private static void pinAndProvided() {
        Kit kit = Kit.of(2).v(0, 10099).v(1, 10099);
        kit.x.provide(1, 10099, 0, 30099);
        kit.wish("a 3.0");
        kit.pin(0, "1.0");
        Kit.same("what is provided is not pinned", kit.x.solve(false), 2);
    }

    private static void quota() {
        Kit kit = Kit.of(1).full(0, 10099, 0, 5, 0);
        Kit.same("at first", kit.x.quota(0), 40000);
        Kit.same("least", kit.x.quota(40000), 0);
        Kit.same("most", kit.x.quota(4), 40000);
        for (int size : new int[] {-1, 40001, MIN, MAX}) {
            kit.argument("quota", () -> kit.x.quota(size));
        }
        kit.wish("a");
        Kit.same("does not matter for fitting", kit.x.solve(false), 1);
        Kit.same("too large", kit.x.install(), -1);
        Kit.same("by space", kit.failure(), "3 0 0");
        kit.x.quota(5);
        Kit.same("just fits", kit.x.install(), 1);
    }
}
