import java.util.ArrayList;
import java.util.List;

/** A question answers the same as the first one behind a change as behind all the others. */
public final class FirstQuestionTest {
    interface Question {
        Object of(Kitwarden x);
    }

    private static final List<String> names = new ArrayList<>();
    private static final List<Question> questions = new ArrayList<>();

    public static void main(String[] args) {
        gather();
        check("a set fits", false, false);
        check("none fits", true, false);
        check("undone", false, true);
        check("undone to none", true, true);
        Kit.end("FirstQuestionTest");
    }

    private static void add(String name, Question question) {
        names.add(name);
        questions.add(question);
    }

    private static void gather() {
        for (int k = 0; k < 8; k++) {
            int n = k;
            add("count " + n, x -> x.count(n));
            add("coreAt " + n, x -> x.coreAt(n, n % 5));
            add("proofAt " + n, x -> x.proofAt(n, n % 3));
            add("literalAt " + n, x -> x.literalAt(n, 0));
        }
        for (int k = 0; k < 5; k++) {
            int n = k;
            add("versionOf " + n, x -> x.versionOf(n));
            add("isOn " + n, x -> x.isOn(n));
            add("must " + n, x -> x.must(n, 10099));
            add("because " + n, x -> x.because(n));
            add("far " + n, x -> x.far(n));
            add("without " + n, x -> x.without(n));
            add("fetched " + n, x -> x.fetchAt(n, false));
            add("fetched of " + n, x -> x.fetchAt(n, true));
            add("planAt " + n, x -> x.planAt(n));
            add("scriptAt " + n, x -> x.scriptAt(n));
        }
        add("changes", Kitwarden::changes);
        add("fitting", Kitwarden::fitting);
        add("core", Kitwarden::core);
        add("proof", Kitwarden::proof);
        add("fetches", Kitwarden::fetches);
        add("plan", Kitwarden::plan);
        add("scripts", Kitwarden::scripts);
        add("orphans", Kitwarden::orphans);
        add("isSound", Kitwarden::isSound);
        add("errors", Kitwarden::errors);
        add("solve", x -> x.solve(false));
        add("solve least", x -> x.solve(true));
        add("takeLock", x -> x.takeLock(0));
        add("mergeLocks", x -> x.mergeLocks(0, 1));
        add("install", Kitwarden::install);
    }

    /** Each question on a new keeper, and on one that was asked everything ahead of each change. */
    private static void check(String what, boolean isNone, boolean isUndone) {
        for (int q = 0; q < questions.size(); q++) {
            Question question = questions.get(q);
            Kit asked = world(isNone, isUndone, true);
            Kit fresh = world(isNone, isUndone, false);
            Kit.same(what + ": " + names.get(q), Kit.answer(() -> question.of(fresh.x)),
                    Kit.answer(() -> question.of(asked.x)));
        }
    }

    private static void ask(Kit kit, boolean isAsked) {
        if (isAsked) {
            kit.all();
        }
    }

    private static Kit world(boolean isNone, boolean isUndone, boolean isAsked) {
        Kit kit = Kit.of(4);
        for (int p = 0; p < 4; p++) {
            kit.full(p, 10099, 1 << p, 5, p).full(p, 20099, 2 << p, 6, p);
        }
        kit.ahead(0, 10099, "b");
        kit.ahead(0, 20099, "b 1.0");
        kit.need(1, 10099, "c|d 2.0");
        kit.option(2, 10099, "d");
        kit.x.mirror();
        for (int p = 0; p < 4; p++) {
            kit.x.offer(0, p, 10099, p);
            kit.x.offer(0, p, 20099, p);
        }
        kit.wish("a 1.0");
        ask(kit, isAsked);
        kit.install();
        kit.wish("a");
        kit.wish("c#");
        kit.x.solve(false);
        kit.x.lock(0);
        ask(kit, isAsked);
        kit.need(2, 20099, "a 2.0");
        ask(kit, isAsked);
        kit.x.unwish(0);
        kit.x.solve(false);
        ask(kit, isAsked);
        if (isNone) {
            kit.pin(3, "9.0");
            ask(kit, isAsked);
            kit.need(3, 10099, "a");
            kit.ban(0, 20099, "c");
            ask(kit, isAsked);
        }
        if (isUndone) {
            kit.wish("d 1.0");
            kit.x.root(1);
            ask(kit, isAsked);
            kit.wish("d");
            ask(kit, isAsked);
            kit.x.undo();
            ask(kit, isAsked);
            kit.x.undo();
            kit.x.undo();
        }
        return kit;
    }
}
