/** A Kitwarden to test, with short ways to tell it things, and the checks of the tests. */
final class Kit {
    interface Call {
        Object on();
    }

    static int wrong = 0;
    // Told ahead of each answer that is wrong.
    static String context = "";

    final Kitwarden x = new Kitwarden();

    /** A keeper with so many packages, a, b and so on. */
    static Kit of(int packs) {
        Kit kit = new Kit();
        for (int p = 0; p < packs; p++) {
            kit.x.pack();
        }
        return kit;
    }

    /** Ends the test. */
    static void end(String name) {
        System.out.println(wrong == 0 ? name + ": all is as promised" : name + ": " + wrong + " wrong");
        System.exit(wrong == 0 ? 0 : 1);
    }

    static void same(String what, Object got, Object due) {
        if (!due.equals(got)) {
            wrong++;
            System.out.println(context + what + " answered " + got + ", due is " + due);
        }
    }

    /** The answer, or the plain name of the exception. */
    static Object answer(Call call) {
        try {
            return call.on();
        } catch (RuntimeException e) {
            return e.getClass().getSimpleName();
        }
    }

    /** Checks that a call throws just this exception, and changes nothing but what reading does. */
    void refuses(String what, Class<? extends RuntimeException> due, Call call) {
        String before = all();
        int undoable = x.count(7);
        same(what, answer(call), due.getSimpleName());
        same(what + " has thrown, then count(7)", x.count(7), undoable);
        same(what + " has thrown, then everything", all(), before);
    }

    void index(String what, Call call) {
        refuses(what, IndexOutOfBoundsException.class, call);
    }

    void argument(String what, Call call) {
        refuses(what, IllegalArgumentException.class, call);
    }

    void state(String what, Call call) {
        refuses(what, IllegalStateException.class, call);
    }

    void element(String what, Call call) {
        refuses(what, java.util.NoSuchElementException.class, call);
    }

    /** As refuses; the call does not read, or not that far: the tape and the error position stay. */
    void unread(String what, Class<? extends RuntimeException> due, Call call) {
        x.clearTape();
        int position = x.errorPosition();
        tape("a ?");
        refuses(what, due, call);
        same(what + " has thrown, then errorPosition", x.errorPosition(), position);
        same(what + " has thrown, then clearTape", x.clearTape(), 3);
    }

    /** The call reads a text with an error at a position: the tape is empty behind it. */
    void misread(String text, int position, Call call) {
        x.clearTape();
        tape(text);
        refuses("\"" + text + "\"", IllegalArgumentException.class, call);
        same("\"" + text + "\" was read, then errorPosition", x.errorPosition(), position);
        same("\"" + text + "\" was read, then clearTape", x.clearTape(), 0);
    }

    /** Numbers of no package are refused ahead of everything else. */
    void noPackage(String what, java.util.function.IntFunction<Object> call) {
        for (int pack : new int[] {-1, x.count(0), Integer.MIN_VALUE, Integer.MAX_VALUE}) {
            unread(what + " of package " + pack, IndexOutOfBoundsException.class,
                    () -> call.apply(pack));
        }
    }

    /** Numbers outside of a range are refused. */
    void outside(String what, int least, int most, Class<? extends RuntimeException> due,
            java.util.function.IntFunction<Object> call) {
        for (int number : new int[] {least - 1, most + 1, Integer.MIN_VALUE, Integer.MAX_VALUE}) {
            unread(what + " with " + number, due, () -> call.apply(number));
        }
    }

    // ---- Telling

    Kit tape(String text) {
        int[] words = new int[5];
        for (int at = 0; at < text.length(); at += 20) {
            for (int k = 0; k < 20; k++) {
                int one = at + k < text.length() ? text.charAt(at + k) : 0;
                words[k / 4] = words[k / 4] << 8 | one;
            }
            x.append(words[0], words[1], words[2], words[3], words[4]);
        }
        return this;
    }

    Kit v(int pack, int... codes) {
        for (int code : codes) {
            x.version(pack, code, 0, 0, 0);
        }
        return this;
    }

    Kit full(int pack, int code, int files, int size, int sum) {
        x.version(pack, code, files, size, sum);
        return this;
    }

    int need(int pack, int code, String text) {
        return tape(text).x.need(pack, code, false);
    }

    int ahead(int pack, int code, String text) {
        return tape(text).x.need(pack, code, true);
    }

    int ban(int pack, int code, String text) {
        return tape(text).x.ban(pack, code);
    }

    int option(int pack, int code, String text) {
        return tape(text).x.option(pack, code);
    }

    int wish(String text) {
        return tape(text).x.wish();
    }

    int pin(int pack, String text) {
        return tape(text).x.pin(pack);
    }

    int inRange(int pack, String text) {
        return tape(text).x.inRange(pack);
    }

    /** Solves and installs. */
    int install() {
        x.solve(false);
        return x.install();
    }

    // ---- Asking

    /** The goal as "code code+ -" and so on, by packages; + where the option is on. */
    String goal() {
        StringBuilder s = new StringBuilder();
        for (int p = 0; p < x.count(0); p++) {
            int code = x.versionOf(p);
            s.append(s.length() > 0 ? " " : "").append(code < 0 ? "-" : "" + code);
            s.append(x.isOn(p) ? "+" : "");
        }
        return s.toString();
    }

    String row(int length, java.util.function.IntFunction<Object> at) {
        StringBuilder s = new StringBuilder();
        for (int k = 0; k < length; k++) {
            s.append(k > 0 ? " " : "").append(at.apply(k));
        }
        return s.toString();
    }

    String scripts() {
        return row(Math.abs(x.scripts()), x::scriptAt);
    }

    String steps() {
        return row(x.plan(), x::planAt);
    }

    String fetched() {
        return row(x.fetches(), k -> x.fetchAt(k, false) + ":" + x.fetchAt(k, true));
    }

    String failure() {
        return row(3, x::failure);
    }

    String installed() {
        return row(x.count(0), x::installed);
    }

    /** What coreAt tells of one what, by places. */
    String core(int what) {
        return row(x.core(), k -> x.coreAt(k, what));
    }

    /** A row of the proof: its rows, then its literals. */
    String proofRow(int row) {
        return x.proofAt(row, 0) + " " + x.proofAt(row, 1) + ": "
                + row(x.proofAt(row, 2), k -> x.literalAt(row, k));
    }

    /** All answers to all questions, but the tape and count(7), of the root at hand. */
    String all() {
        StringBuilder s = new StringBuilder();
        for (int what = 0; what < 7; what++) {
            s.append(x.count(what)).append(' ');
        }
        for (int p = 0; p < x.count(0); p++) {
            s.append("\npack ").append(p);
            for (int k = 0; k < x.versions(p); k++) {
                int code = x.versionAt(p, k);
                s.append(' ').append(code).append(" must ").append(x.must(p, code));
            }
            s.append(' ').append(x.because(p)).append(' ').append(x.far(p));
            s.append(' ').append(x.without(p)).append(' ').append(x.installed(p));
        }
        s.append("\ngoal ").append(goal()).append(' ').append(x.changes()).append(' ');
        s.append(x.fitting()).append(' ').append(x.clashes());
        for (int what = 0; what < 5; what++) {
            s.append("\ncore ").append(core(what));
        }
        for (int row = 0; row < x.proof(); row++) {
            s.append("\nrow ").append(proofRow(row));
        }
        s.append("\nlocks ").append(x.lockDiffers(0, 1)).append(' ').append(x.lockDiffers(0, 2));
        s.append(' ').append(x.lockDiffers(1, 2)).append("\nwrong ");
        s.append(row(x.count(2), x::sumWrong)).append("\nfetches ").append(x.fetches());
        s.append(' ').append(x.fetches() < 0 ? "" : fetched());
        s.append("\nplan ").append(answer(this::steps)).append("\nfailure ").append(failure());
        s.append("\nowners ").append(row(31, x::owner)).append("\nscripts ").append(x.scripts());
        s.append(' ').append(scripts()).append("\norphans ").append(x.orphans()).append("\nthen ");
        for (int e = Math.max(0, x.count(5) - 20); e < x.count(5); e++) {
            int entry = e;
            s.append(row(x.count(0), p -> x.then(entry, p))).append("; ");
        }
        s.append("\n").append(x.size()).append(' ').append(x.checksum()).append(' ');
        s.append(x.isSound()).append(' ').append(x.errors()).append(' ').append(x.meanSize());
        return s.append(' ').append(x.share()).toString();
    }
}
