import java.util.ArrayList;
import java.util.Arrays;
import java.util.NoSuchElementException;

/**
 * A keeper of packages: what versions need, ban, provide and offer as options; the newest and the
 * least changed set that fits, or why none does; locks, mirrors, installs, history and undo.
 *
 * <p>A set is one long: bit v is the version with the number v, bit 40 + p the option of package p.
 */
public final class Kitwarden {
    public static final int NONE = -1;
    public static final int RING = 0, FETCH = 1, FILE = 2, SPACE = 3, SCRIPT = 4;

    private static final int MOST_PACKS = 12;
    private static final int MOST_VERSIONS = 40;
    private static final int MOST_OF_PACK = 8;
    private static final int MOST_NEEDS = 3;
    private static final int MOST_BANS = 2;
    private static final int MOST_GIVEN = 2;
    private static final int ROOTS = 3;
    private static final int MOST_WISHES = 8;
    private static final int LOCKS = 3;
    private static final int MOST_MIRRORS = 3;
    private static final int KEPT_ENTRIES = 20;
    private static final int KEPT_CHANGES = 10;
    private static final int FILES = 31;
    private static final int MOST_SIZE = 1000;
    private static final int MOST_QUOTA = 40000;
    private static final int MOST_SETS = 5000;
    private static final int ON = 1000000;
    private static final long ALL_VERSIONS = (1L << MOST_VERSIONS) - 1;

    // How far what is worked out from the state is up to date; each level needs those below it.
    private static final int NOTHING = 0, MET = 1, TOLD = 2, CORED = 3, PROVED = 4;

    private final Reader reader = new Reader();
    private final State now = new State();
    private final ArrayList<State> before = new ArrayList<State>();
    private final Meets meets = new Meets(now);
    private final Clauses clauses = new Clauses(now, meets);
    private final Search search = new Search(clauses);
    private final Solver solver = new Solver(now, search);
    private final Prover prover = new Prover(clauses, search);
    private final Installer installer = new Installer(now, meets);
    private int oldest = 0;
    private int undoable = 0;
    private int known = NOTHING;

    public Kitwarden() {
        for (int k = 0; k < KEPT_CHANGES; k++) {
            before.add(new State());
        }
    }

    // ---- The tape

    public int append(int a, int b, int c, int d, int e) throws IllegalStateException {
        int more = Reader.bytesIn(a) + Reader.bytesIn(b) + Reader.bytesIn(c) + Reader.bytesIn(d)
                + Reader.bytesIn(e);
        if (!reader.hasRoomFor(more)) {
            throw new IllegalStateException("the tape is full");
        }
        reader.put(a);
        reader.put(b);
        reader.put(c);
        reader.put(d);
        reader.put(e);
        return reader.length();
    }

    public int clearTape() {
        return reader.empty();
    }

    public int errorPosition() {
        return reader.errorAt();
    }

    // ---- Packages, versions, what they need

    public int pack() throws IllegalStateException {
        if (now.shelf.packs >= MOST_PACKS) {
            throw new IllegalStateException("there are 12 packages");
        }
        remember();
        return now.shelf.addPack();
    }

    public int version(int pack, int code, int files, int size, int sum)
            throws IndexOutOfBoundsException, IllegalArgumentException, IllegalStateException {
        checkPack(pack);
        if (!isCode(code) || files < 0 || size < 0 || size > MOST_SIZE) {
            throw new IllegalArgumentException("no code, files or size");
        }
        if (now.shelf.idOf(pack, code) != NONE || !now.shelf.hasRoomIn(pack)) {
            throw new IllegalStateException("it is there, or there are too many");
        }
        remember();
        return now.shelf.addVersion(pack, code, files, size, sum);
    }

    public int need(int pack, int code, boolean isAhead)
            throws IndexOutOfBoundsException, IllegalStateException, IllegalArgumentException {
        int id = checkedId(pack, code);
        if (now.shelf.needCount[id] >= MOST_NEEDS || now.isInUse(id)) {
            throw new IllegalStateException("it has 3 needs, or is installed");
        }
        Atom text = checkedNeed(false);
        remember();
        return now.shelf.addNeed(id, text, isAhead);
    }

    public int ban(int pack, int code)
            throws IndexOutOfBoundsException, IllegalStateException, IllegalArgumentException {
        int id = checkedId(pack, code);
        if (now.shelf.banCount[id] >= MOST_BANS || now.isInUse(id)) {
            throw new IllegalStateException("it has 2 bans, or is installed");
        }
        Atom text = checkedNeed(true);
        remember();
        return now.shelf.addBan(id, text);
    }

    public int provide(int pack, int code, int other, int otherCode)
            throws IndexOutOfBoundsException, IllegalArgumentException, IllegalStateException {
        int id = checkedId(pack, code);
        checkPack(other);
        if (other == pack || !isCode(otherCode)) {
            throw new IllegalArgumentException("the same package, or no code");
        }
        if (now.shelf.givenCount[id] >= MOST_GIVEN || now.isInUse(id)) {
            throw new IllegalStateException("it provides 2, or is installed");
        }
        remember();
        return now.shelf.addGiven(id, other, otherCode);
    }

    public int option(int pack, int code)
            throws IndexOutOfBoundsException, IllegalStateException, IllegalArgumentException {
        int id = checkedId(pack, code);
        if (now.shelf.options[id] != null || now.isInUse(id)) {
            throw new IllegalStateException("it has the option, or is installed");
        }
        Atom text = checkedNeed(false);
        remember();
        now.shelf.options[id] = text;
        return Long.bitCount(now.shelf.withOption(pack));
    }

    public int count(int what) throws IllegalArgumentException {
        switch (what) {
            case 0:
                return now.shelf.packs;
            case 1:
                return now.shelf.total;
            case 2:
                return now.mirrors;
            case 3:
                return now.atHand().wishesLeft();
            case 4:
                know(TOLD);
                return clauses.number;
            case 5:
                return now.atHand().entries;
            case 6:
                return now.fetched;
            case 7:
                return undoable;
            default:
                throw new IllegalArgumentException("what is out of range");
        }
    }

    public int versions(int pack) throws IndexOutOfBoundsException {
        checkPack(pack);
        return now.shelf.perPack[pack];
    }

    public int versionAt(int pack, int place) throws IndexOutOfBoundsException {
        checkPack(pack);
        if (place < 0 || place >= now.shelf.perPack[pack]) {
            throw new IndexOutOfBoundsException("no such place");
        }
        return now.shelf.codeOf[now.shelf.idAt(pack, place)];
    }

    public int inRange(int pack) throws IndexOutOfBoundsException, IllegalArgumentException {
        checkPack(pack);
        Span range = checkedRange();
        return Long.bitCount(now.shelf.inRangeOf(pack, range));
    }

    // ---- The root at hand

    public int root(int which) throws IllegalArgumentException {
        if (which < 0 || which >= ROOTS) {
            throw new IllegalArgumentException("no such root");
        }
        remember();
        int left = now.at;
        now.at = which;
        return left;
    }

    public int wish() throws IllegalStateException, IllegalArgumentException {
        if (now.atHand().wished >= MOST_WISHES) {
            throw new IllegalStateException("8 wishes have come");
        }
        Atom text = checkedNeed(false);
        remember();
        return now.atHand().addWish(text);
    }

    public int unwish(int wish) throws IndexOutOfBoundsException {
        Root root = now.atHand();
        if (wish < 0 || wish >= root.wished || root.wishes[wish] == null) {
            throw new IndexOutOfBoundsException("no such wish");
        }
        remember();
        root.wishes[wish] = null;
        return root.wishesLeft();
    }

    public int hold(int pack, boolean isHeld) throws IndexOutOfBoundsException {
        checkPack(pack);
        remember();
        Root root = now.atHand();
        root.held = isHeld ? root.held | 1 << pack : root.held & ~(1 << pack);
        return Integer.bitCount(root.held);
    }

    public int pin(int pack) throws IndexOutOfBoundsException, IllegalArgumentException {
        checkPack(pack);
        Span range = reader.isEmptyText() ? null : checkedRange();
        remember();
        now.atHand().pins[pack] = range;
        return now.atHand().pinCount();
    }

    public int quota(int size) throws IllegalArgumentException {
        if (size < 0 || size > MOST_QUOTA) {
            throw new IllegalArgumentException("size is out of range");
        }
        remember();
        int left = now.atHand().most;
        now.atHand().most = size;
        return left;
    }

    // ---- Sets that fit

    public int solve(boolean isLeast) {
        remember();
        know(TOLD);
        if (!solver.find(isLeast)) {
            return NONE;
        }
        solver.settle();
        now.atHand().goal = solver.found;
        return packsIn(solver.found);
    }

    public int versionOf(int pack) throws IndexOutOfBoundsException {
        checkPack(pack);
        return now.shelf.codeIn(now.atHand().goal, pack);
    }

    public boolean isOn(int pack) throws IndexOutOfBoundsException {
        checkPack(pack);
        return (now.atHand().goal & switchOf(pack)) != 0;
    }

    public int changes() {
        return changesBetween(now.atHand().inPlace, now.atHand().goal);
    }

    public int must(int pack, int code) throws IndexOutOfBoundsException {
        int id = checkedId(pack, code);
        know(TOLD);
        return solver.mustHave(1L << id);
    }

    public int fitting() {
        knowMet();
        int sets = meets.setsToGoThrough();
        if (sets > MOST_SETS) {
            return NONE;
        }
        int fits = 0;
        for (int k = 0; k < sets; k++) {
            fits += meets.isFitting(meets.setNumber(k)) ? 1 : 0;
        }
        return fits;
    }

    public int because(int pack) throws IndexOutOfBoundsException {
        checkPack(pack);
        knowMet();
        installer.reach(now.atHand().goal);
        return installer.reasons[pack];
    }

    public int far(int pack) throws IndexOutOfBoundsException {
        checkPack(pack);
        knowMet();
        installer.reach(now.atHand().goal);
        return installer.distances[pack];
    }

    // ---- Why none fits

    public int core() {
        know(CORED);
        return prover.coreCount;
    }

    public int coreAt(int place, int what)
            throws IndexOutOfBoundsException, IllegalArgumentException {
        know(CORED);
        if (place < 0 || place >= prover.coreCount) {
            throw new IndexOutOfBoundsException("no such place");
        }
        int told = prover.core[place];
        switch (what) {
            case 0:
                return told;
            case 1:
                return clauses.kinds[told];
            case 2:
                return clauses.abouts[told];
            case 3:
                return clauses.codes[told];
            case 4:
                return clauses.literalsOf(told);
            default:
                throw new IllegalArgumentException("what is out of range");
        }
    }

    public int proof() {
        know(PROVED);
        return prover.rows;
    }

    public int proofAt(int row, int what)
            throws IndexOutOfBoundsException, IllegalArgumentException {
        know(PROVED);
        if (row < 0 || row >= prover.rows) {
            throw new IndexOutOfBoundsException("no such row");
        }
        switch (what) {
            case 0:
                return prover.earlier[row];
            case 1:
                return prover.later[row];
            case 2:
                return prover.literalsOf(row);
            default:
                throw new IllegalArgumentException("what is out of range");
        }
    }

    public int literalAt(int row, int place) throws IndexOutOfBoundsException {
        know(PROVED);
        if (row < 0 || row >= prover.rows || place < 0 || place >= prover.literalsOf(row)) {
            throw new IndexOutOfBoundsException("no such row or literal");
        }
        return literalIn(prover.with[row], prover.without[row], place);
    }

    // ---- Locks

    public int lock(int lock) throws IllegalArgumentException {
        checkLock(lock);
        remember();
        now.locks[lock] = now.atHand().goal;
        return packsIn(now.locks[lock]);
    }

    public int lockDiffers(int lock, int other) throws IllegalArgumentException {
        checkLock(lock);
        checkLock(other);
        return changesBetween(now.locks[lock], now.locks[other]);
    }

    public int mergeLocks(int lock, int other) throws IllegalArgumentException {
        checkLock(lock);
        checkLock(other);
        remember();
        return takeGoal(merged(now.locks[lock], now.locks[other]));
    }

    public int takeLock(int lock) throws IllegalArgumentException {
        checkLock(lock);
        remember();
        return takeGoal(now.locks[lock]);
    }

    // ---- Mirrors

    public int mirror() throws IllegalStateException {
        if (now.mirrors >= MOST_MIRRORS) {
            throw new IllegalStateException("there are 3 mirrors");
        }
        remember();
        int mirror = now.mirrors;
        now.mirrors++;
        return mirror;
    }

    public int offer(int mirror, int pack, int code, int sum) throws IndexOutOfBoundsException {
        checkMirror(mirror);
        int id = checkedId(pack, code);
        remember();
        return now.setOffer(mirror, id, sum);
    }

    public int sumWrong(int mirror) throws IndexOutOfBoundsException {
        checkMirror(mirror);
        return now.wrong[mirror];
    }

    public int fetches() {
        knowMet();
        installer.arrange(now.atHand().goal);
        return installer.isRing ? NONE : installer.comingCount();
    }

    public int fetchAt(int place, boolean isMirror)
            throws NoSuchElementException, IndexOutOfBoundsException {
        knowMet();
        installer.arrange(now.atHand().goal);
        if (installer.isRing) {
            throw new NoSuchElementException("the scripts have no order");
        }
        if (place < 0 || place >= installer.comingCount()) {
            throw new IndexOutOfBoundsException("no such place");
        }
        return installer.comingAt(place, isMirror);
    }

    // ---- Steps, installs, scripts

    public int plan() throws IllegalStateException {
        checkGoalSound();
        installer.findSteps();
        return installer.stepCount;
    }

    public int planAt(int step) throws IllegalStateException, IndexOutOfBoundsException {
        checkGoalSound();
        installer.findSteps();
        if (step < 0 || step >= installer.stepCount) {
            throw new IndexOutOfBoundsException("no such step");
        }
        return installer.steps[step];
    }

    public int install() throws IllegalStateException {
        checkGoalSound();
        remember();
        knowMet();
        return installer.run();
    }

    public int failure(int what) throws IllegalArgumentException {
        switch (what) {
            case 0:
                return now.atHand().reason;
            case 1:
                return now.atHand().culprit;
            case 2:
                return now.atHand().failedStep;
            default:
                throw new IllegalArgumentException("what is out of range");
        }
    }

    public int installed(int pack) throws IndexOutOfBoundsException {
        checkPack(pack);
        return valueIn(now.atHand().inPlace, pack);
    }

    public int owner(int file) throws IllegalArgumentException {
        if (file < 0 || file >= FILES) {
            throw new IllegalArgumentException("no such file");
        }
        for (int id = 0; id < now.shelf.total; id++) {
            if (has(now.atHand().inPlace, id) && (now.shelf.files[id] >> file & 1) != 0) {
                return now.shelf.packOf[id];
            }
        }
        return NONE;
    }

    public int clashes() {
        int once = 0;
        int twice = 0;
        for (int id = 0; id < now.shelf.total; id++) {
            if (has(now.atHand().goal, id)) {
                twice |= once & now.shelf.files[id];
                once |= now.shelf.files[id];
            }
        }
        return Integer.bitCount(twice);
    }

    public boolean fails(int pack, int code, boolean fails) throws IndexOutOfBoundsException {
        int id = checkedId(pack, code);
        remember();
        boolean failed = has(now.shelf.failing, id);
        long others = now.shelf.failing & ~(1L << id);
        now.shelf.failing = fails ? others | 1L << id : others;
        return failed;
    }

    public int scripts() {
        knowMet();
        installer.arrange(now.atHand().goal);
        return installer.isRing ? -installer.length : installer.length;
    }

    public int scriptAt(int place) throws IndexOutOfBoundsException {
        knowMet();
        installer.arrange(now.atHand().goal);
        if (place < 0 || place >= installer.length) {
            throw new IndexOutOfBoundsException("no such place");
        }
        return installer.row[place];
    }

    // ---- What is installed

    public int orphans() {
        knowMet();
        installer.reach(now.atHand().inPlace);
        int lost = 0;
        for (int p = 0; p < now.shelf.packs; p++) {
            if (now.shelf.idIn(now.atHand().inPlace, p) != NONE && installer.distances[p] == NONE) {
                lost |= 1 << p;
            }
        }
        return lost;
    }

    public int without(int pack) throws IndexOutOfBoundsException {
        checkPack(pack);
        knowMet();
        long inPlace = now.atHand().inPlace;
        if (now.shelf.idIn(inPlace, pack) == NONE) {
            return 0;
        }
        return meets.brokenIn(inPlace & ~now.shelf.whole[pack]);
    }

    public int backTo(int entry) throws NoSuchElementException {
        Root root = now.atHand();
        if (entry != NONE && !root.isKept(entry)) {
            throw new NoSuchElementException("no such entry");
        }
        remember();
        root.goal = entry == NONE ? 0L : root.entryAt(entry);
        return changesBetween(root.inPlace, root.goal);
    }

    public int then(int entry, int pack) throws NoSuchElementException, IndexOutOfBoundsException {
        if (!now.atHand().isKept(entry)) {
            throw new NoSuchElementException("no such entry");
        }
        checkPack(pack);
        return now.shelf.codeIn(now.atHand().entryAt(entry), pack);
    }

    public int size() {
        return now.shelf.sizeOf(now.atHand().inPlace);
    }

    // ---- Undo, figures, second ways

    public int undo() {
        if (undoable == 0) {
            return NONE;
        }
        undoable--;
        known = NOTHING;
        int slot = (oldest + undoable) % KEPT_CHANGES;
        if (slot >= 0 && slot < before.size()) {
            now.copyFrom(before.get(slot));
        }
        return undoable;
    }

    public int checksum() {
        int sum = 17;
        for (int p = 0; p < now.shelf.packs; p++) {
            sum = 31 * sum + valueIn(now.atHand().goal, p);
            sum = 31 * sum + valueIn(now.atHand().inPlace, p);
        }
        return sum;
    }

    public boolean isSound() {
        knowMet();
        for (int r = 0; r < ROOTS; r++) {
            if (!meets.isSoundSet(now.rootOf(r).inPlace)) {
                return false;
            }
        }
        return true;
    }

    public int errors() {
        know(PROVED);
        int fits = fitting();
        boolean isFound = solver.find(false);
        int wrong = fits != NONE && isFound != fits > 0 ? 1 : 0;
        if (isFound) {
            solver.settle();
            wrong += isBeaten(solver.found, false) ? 1 : 0;
            solver.find(true);
            solver.settle();
            wrong += isBeaten(solver.found, true) ? 1 : 0;
        }
        wrong += prover.isCoreWrong() ? 1 : 0;
        wrong += prover.isProofWrong() ? 1 : 0;
        return wrong;
    }

    public double meanSize() {
        int packs = packsIn(now.atHand().inPlace);
        if (packs == 0) {
            return 0.0;
        }
        return (double) size() / (double) packs;
    }

    public float share() {
        int most = now.atHand().most;
        if (most == 0) {
            return 0.0f;
        }
        return (float) size() / (float) most;
    }

    // ---- What the calls have in common

    private static boolean isCode(int code) {
        return code >= 0 && code < 1000000 && code % 100 != 0;
    }

    private static long switchOf(int pack) {
        return 1L << (MOST_VERSIONS + pack);
    }

    private static boolean has(long set, int id) {
        return (set >> id & 1) != 0;
    }

    private static int packsIn(long set) {
        return Long.bitCount(set & ALL_VERSIONS);
    }

    private void checkPack(int pack) {
        if (pack < 0 || pack >= now.shelf.packs) {
            throw new IndexOutOfBoundsException("no such package");
        }
    }

    private void checkMirror(int mirror) {
        if (mirror < 0 || mirror >= now.mirrors) {
            throw new IndexOutOfBoundsException("no such mirror");
        }
    }

    private static void checkLock(int lock) {
        if (lock < 0 || lock >= LOCKS) {
            throw new IllegalArgumentException("no such lock");
        }
    }

    private void checkGoalSound() {
        knowMet();
        if (!meets.isSoundSet(now.atHand().goal)) {
            throw new IllegalStateException("the goal is not sound");
        }
    }

    private int checkedId(int pack, int code) {
        checkPack(pack);
        int id = now.shelf.idOf(pack, code);
        if (id == NONE) {
            throw new IndexOutOfBoundsException("no such version");
        }
        return id;
    }

    private Atom checkedNeed(boolean isOneAtom) {
        Atom text = reader.readNeed(now.shelf.packs, isOneAtom);
        if (text == null) {
            throw new IllegalArgumentException("the text has an error");
        }
        return text;
    }

    private Span checkedRange() {
        Span range = reader.readWholeRange(now.shelf.packs);
        if (range == null) {
            throw new IllegalArgumentException("the text has an error, or is no range");
        }
        return range;
    }

    /** Called by each change, once it is sure not to throw and before it alters anything. */
    private void remember() {
        known = NOTHING;
        int slot = (oldest + undoable) % KEPT_CHANGES;
        if (undoable < KEPT_CHANGES) {
            undoable++;
        } else {
            oldest = (oldest + 1) % KEPT_CHANGES;
        }
        if (slot >= 0 && slot < before.size()) {
            before.get(slot).copyFrom(now);
        }
    }

    private void knowMet() {
        if (known < MET) {
            meets.renew();
            known = MET;
        }
    }

    private void know(int level) {
        knowMet();
        if (known < TOLD && level >= TOLD) {
            clauses.tell();
            known = TOLD;
        }
        if (known < CORED && level >= CORED) {
            prover.findCore();
            known = CORED;
        }
        if (known < PROVED && level >= PROVED) {
            prover.join();
            known = PROVED;
        }
    }

    private int takeGoal(long set) {
        now.atHand().goal = set;
        knowMet();
        return meets.isFitting(set) ? 1 : 0;
    }

    private int changesBetween(long set, long other) {
        return Integer.bitCount(now.shelf.unlikePacks(set, other));
    }

    private int valueIn(long set, int pack) {
        return now.shelf.codeIn(set, pack) + ((set & switchOf(pack)) != 0 ? ON : 0);
    }

    private long merged(long set, long other) {
        long both = 0L;
        for (int p = 0; p < now.shelf.packs; p++) {
            int mine = now.shelf.idIn(set, p);
            int yours = now.shelf.idIn(other, p);
            int id = now.shelf.newerOf(mine, yours);
            if (id != NONE) {
                both |= 1L << id;
                both |= mine == id ? set & switchOf(p) : 0L;
                both |= yours == id ? other & switchOf(p) : 0L;
            }
        }
        return both;
    }

    private int literalIn(long with, long without, int place) {
        Shelf shelf = now.shelf;
        int left = place;
        for (int p = 0; p < shelf.packs; p++) {
            for (int k = 0; k <= shelf.perPack[p]; k++) {
                boolean isOption = k == shelf.perPack[p];
                int id = isOption ? NONE : shelf.idAt(p, k);
                long bit = isOption ? switchOf(p) : 1L << id;
                if (((with | without) & bit) != 0) {
                    int value = 1000000 * p + (isOption ? 0 : shelf.codeOf[id]);
                    if (left == 0) {
                        return (with & bit) != 0 ? value : -value - 1;
                    }
                    left--;
                }
            }
        }
        return NONE;
    }

    /** Whether a set does not fit, or one of all sets (if they are few enough) is better. */
    private boolean isBeaten(long set, boolean isLeast) {
        int fewest = changesBetween(now.atHand().inPlace, set);
        int sets = meets.setsToGoThrough();
        for (int k = 0; k < sets && sets <= MOST_SETS; k++) {
            long other = meets.setNumber(k);
            boolean isBetter = isLeast ? changesBetween(now.atHand().inPlace, other) < fewest
                    : solver.isAhead(other, set);
            if (isBetter && meets.isFitting(other)) {
                return true;
            }
        }
        return !meets.isFitting(set);
    }

    /** One span of a range; the spans of a range are chained. */
    private static final class Span {
        static final int FROM_TO = '.';

        final int sign;
        final int from;
        final int to;
        // Major and minor part of an edge with a trial number; NONE without one.
        private final int trialsOfFrom;
        private final int trialsOfTo;
        Span next;

        Span(int sign, int from, int to) {
            this.sign = sign;
            this.from = from;
            this.to = to;
            this.trialsOfFrom = from % 100 == 99 ? NONE : from / 100;
            this.trialsOfTo = to % 100 == 99 ? NONE : to / 100;
        }

        boolean isMetBy(int code) {
            int parts = code / 100;
            boolean isTrial = code % 100 != 99;
            if (isTrial && sign != '=' && parts != trialsOfFrom && parts != trialsOfTo) {
                return false;
            }
            switch (sign) {
                case '*':
                    return true;
                case '=':
                    return code == from;
                case '>':
                    return code >= from;
                case '<':
                    return code < from;
                case '^':
                    return code >= from && parts / 100 == from / 10000;
                case '~':
                    return code >= from && parts == from / 100;
                default:
                    return code >= from && code <= to;
            }
        }

        /** The span of no range: no trial meets it, as its edge has no trial number. */
        static Span any() {
            return new Span('*', 99, 99);
        }

        static boolean isAnyMet(Span first, int code) {
            for (Span span = first; span != null; span = span.next) {
                if (span.isMetBy(code)) {
                    return true;
                }
            }
            return false;
        }
    }

    /** One atom of a need; the atoms of a need are chained, and one with "#" stands alone. */
    private static final class Atom {
        final int pack;
        final boolean isSwitched;
        final Span range;
        Atom next;

        Atom(int pack, boolean isSwitched, Span range) {
            this.pack = pack;
            this.isSwitched = isSwitched;
            this.range = range;
        }
    }

    /** The tape, and what reads it: its tokens are found first, then what they say. */
    private static final class Reader {
        private static final int MOST_BYTES = 200;
        private static final int END = 0, BAD = 1, LETTER = 2, NUMBER = 3, POINTS = 4;

        private final int[] tape = new int[MOST_BYTES];
        private int length = 0;
        private int wrongAt = NONE;
        // The tokens, and END behind them: signs are kinds of their own.
        private final int[] kinds = new int[MOST_BYTES + 1];
        private final int[] starts = new int[MOST_BYTES + 1];
        private final int[] values = new int[MOST_BYTES + 1];
        private int tokens = 0;
        private int place = 0;

        static int bytesIn(int word) {
            int bytes = 0;
            for (int shift = 24; shift >= 0; shift -= 8) {
                bytes += (word >>> shift & 255) != 0 ? 1 : 0;
            }
            return bytes;
        }

        boolean hasRoomFor(int more) {
            return length + more <= MOST_BYTES;
        }

        void put(int word) {
            for (int shift = 24; shift >= 0; shift -= 8) {
                int one = word >>> shift & 255;
                if (one != 0 && length < MOST_BYTES) {
                    tape[length] = one;
                    length++;
                }
            }
        }

        int length() {
            return length;
        }

        int errorAt() {
            return wrongAt;
        }

        int empty() {
            int bytes = length;
            length = 0;
            return bytes;
        }

        /** Whether nothing stands on the tape; reading that is no error. */
        boolean isEmptyText() {
            if (length == 0) {
                wrongAt = NONE;
            }
            return length == 0;
        }

        /** The need on the tape, or null if it has an error; empties the tape. */
        Atom readNeed(int packs, boolean isOneAtom) {
            findTokens(packs);
            Atom first = readAtom(!isOneAtom);
            boolean isList = !isOneAtom && first != null && !first.isSwitched;
            Atom last = first;
            for (int k = 0; k < MOST_BYTES && isList && last != null && isNext('|'); k++) {
                place++;
                last.next = readAtom(false);
                last = last.next;
            }
            pass(END);
            length = 0;
            return wrongAt == NONE ? first : null;
        }

        /** The range on the tape, or null if it has an error; empties the tape. */
        Span readWholeRange(int packs) {
            findTokens(packs);
            Span first = readRange();
            pass(END);
            length = 0;
            return wrongAt == NONE ? first : null;
        }

        private Atom readAtom(boolean maySwitch) {
            int pack = pass(LETTER);
            if (pack == NONE) {
                return null;
            }
            boolean isSwitched = maySwitch && isNext('#');
            place += isSwitched ? 1 : 0;
            boolean isRanged = isNext('*') || isNext(NUMBER) || isSpanSign(kinds[place]);
            Span range = isRanged ? readRange() : Span.any();
            return range == null ? null : new Atom(pack, isSwitched, range);
        }

        private Span readRange() {
            Span first = readSpan();
            Span last = first;
            for (int k = 0; k < MOST_BYTES && last != null && isNext(','); k++) {
                place++;
                last.next = readSpan();
                last = last.next;
            }
            return last == null ? null : first;
        }

        private Span readSpan() {
            if (isNext('*')) {
                place++;
                return Span.any();
            }
            boolean isSigned = isSpanSign(kinds[place]);
            int sign = isSigned ? kinds[place] : '=';
            place += isSigned ? 1 : 0;
            int from = readVersion();
            if (from == NONE || isSigned || !isNext(POINTS)) {
                return from == NONE ? null : new Span(sign, from, from);
            }
            int points = starts[place];
            place++;
            int to = readVersion();
            if (to != NONE && to < from) {
                wrongAt = points;
            }
            return to < from ? null : new Span(Span.FROM_TO, from, to);
        }

        /** The code of the VERSION that comes; NONE if there is none. */
        private int readVersion() {
            int major = pass(NUMBER);
            if (major == NONE || pass('.') == NONE) {
                return NONE;
            }
            int minor = pass(NUMBER);
            if (minor == NONE || !isNext('!')) {
                return minor == NONE ? NONE : 10000 * major + 100 * minor + 99;
            }
            place++;
            if (isNext(NUMBER) && (values[place] < 1 || values[place] > 98)) {
                kinds[place] = BAD;
            }
            int trial = pass(NUMBER);
            return trial == NONE ? NONE : 10000 * major + 100 * minor + trial;
        }

        /** No token is passed but the one that is there, and END never, so place stays below it. */
        private boolean isNext(int kind) {
            return kinds[place] == kind;
        }

        /** The value of the token that is due; NONE, and an error there, if another one comes. */
        private int pass(int due) {
            if (kinds[place] != due) {
                wrongAt = wrongAt == NONE ? starts[place] : wrongAt;
                return NONE;
            }
            int value = values[place];
            place += due == END ? 0 : 1;
            return value;
        }

        private void findTokens(int packs) {
            wrongAt = NONE;
            place = 0;
            tokens = 0;
            int at = 0;
            for (int k = 0; k < MOST_BYTES && at < length; k++) {
                at = addNextToken(at, packs);
            }
            addToken(END, length, 0);
        }

        /** Adds the token at an index, if it is no blank; returns the index behind it. */
        private int addNextToken(int at, int packs) {
            int one = byteAt(at);
            if (one == 32 || one == 10) {
                return at + 1;
            }
            if (isDigit(one)) {
                int digits = digitsFrom(at);
                int number = digits == 2 ? 10 * (one - '0') + byteAt(at + 1) - '0' : one - '0';
                addToken(digits <= 2 ? NUMBER : BAD, at, number);
                return at + digits;
            }
            if (one == '.' && byteAt(at + 1) == '.') {
                addToken(POINTS, at, 0);
                return at + 2;
            }
            if (one >= 'a' && one <= 'l') {
                addToken(one - 'a' < packs ? LETTER : BAD, at, one - 'a');
                return at + 1;
            }
            addToken(isSign(one) ? one : BAD, at, 0);
            return at + 1;
        }

        private void addToken(int kind, int start, int value) {
            if (tokens <= MOST_BYTES) {
                kinds[tokens] = kind;
                starts[tokens] = start;
                values[tokens] = value;
                tokens++;
            }
        }

        private int digitsFrom(int at) {
            int digits = 0;
            for (int k = at; k < length && isDigit(byteAt(k)); k++) {
                digits++;
            }
            return digits;
        }

        /** The byte at an index, END behind the text (no byte on the tape is 0). */
        private int byteAt(int index) {
            return index >= 0 && index < length && index < MOST_BYTES ? tape[index] : END;
        }

        private static boolean isDigit(int one) {
            return one >= '0' && one <= '9';
        }

        private static boolean isSpanSign(int one) {
            return one == '=' || one == '>' || one == '<' || one == '^' || one == '~';
        }

        private static boolean isSign(int one) {
            return one == '#' || one == '|' || one == ',' || one == '*' || one == '.'
                    || one == '!' || isSpanSign(one);
        }
    }

    /** The packages and their versions, which are numbered as they come. */
    private static final class Shelf {
        int packs = 0;
        int total = 0;
        final int[] perPack = new int[MOST_PACKS];
        // All that can be in a set of a package: its versions and its option.
        final long[] whole = new long[MOST_PACKS];
        private final int[] byAge = new int[MOST_PACKS * MOST_OF_PACK];
        final int[] packOf = new int[MOST_VERSIONS];
        final int[] codeOf = new int[MOST_VERSIONS];
        final int[] files = new int[MOST_VERSIONS];
        final int[] sizes = new int[MOST_VERSIONS];
        final int[] sums = new int[MOST_VERSIONS];
        // The versions whose scripts fail.
        long failing = 0L;
        final int[] needCount = new int[MOST_VERSIONS];
        final Atom[] needs = new Atom[MOST_VERSIONS * MOST_NEEDS];
        final boolean[] aheads = new boolean[MOST_VERSIONS * MOST_NEEDS];
        final int[] banCount = new int[MOST_VERSIONS];
        final Atom[] bans = new Atom[MOST_VERSIONS * MOST_BANS];
        final int[] givenCount = new int[MOST_VERSIONS];
        final int[] givenPacks = new int[MOST_VERSIONS * MOST_GIVEN];
        final int[] givenCodes = new int[MOST_VERSIONS * MOST_GIVEN];
        final Atom[] options = new Atom[MOST_VERSIONS];

        void copyFrom(Shelf other) {
            packs = other.packs;
            total = other.total;
            System.arraycopy(other.perPack, 0, perPack, 0, MOST_PACKS);
            System.arraycopy(other.whole, 0, whole, 0, MOST_PACKS);
            System.arraycopy(other.byAge, 0, byAge, 0, MOST_PACKS * MOST_OF_PACK);
            System.arraycopy(other.packOf, 0, packOf, 0, MOST_VERSIONS);
            System.arraycopy(other.codeOf, 0, codeOf, 0, MOST_VERSIONS);
            System.arraycopy(other.files, 0, files, 0, MOST_VERSIONS);
            System.arraycopy(other.sizes, 0, sizes, 0, MOST_VERSIONS);
            System.arraycopy(other.sums, 0, sums, 0, MOST_VERSIONS);
            System.arraycopy(other.needCount, 0, needCount, 0, MOST_VERSIONS);
            System.arraycopy(other.banCount, 0, banCount, 0, MOST_VERSIONS);
            System.arraycopy(other.givenCount, 0, givenCount, 0, MOST_VERSIONS);
            System.arraycopy(other.givenPacks, 0, givenPacks, 0, MOST_VERSIONS * MOST_GIVEN);
            System.arraycopy(other.givenCodes, 0, givenCodes, 0, MOST_VERSIONS * MOST_GIVEN);
            failing = other.failing;
            for (int k = 0; k < MOST_VERSIONS * MOST_NEEDS; k++) {
                needs[k] = other.needs[k];
                aheads[k] = other.aheads[k];
            }
            for (int k = 0; k < MOST_VERSIONS * MOST_BANS; k++) {
                bans[k] = other.bans[k];
            }
            for (int k = 0; k < MOST_VERSIONS; k++) {
                options[k] = other.options[k];
            }
        }

        int addPack() {
            int pack = packs;
            perPack[pack] = 0;
            whole[pack] = switchOf(pack);
            packs++;
            return pack;
        }

        boolean hasRoomIn(int pack) {
            return total < MOST_VERSIONS && perPack[pack] < MOST_OF_PACK;
        }

        int addVersion(int pack, int code, int itsFiles, int itsSize, int itsSum) {
            int id = total;
            total++;
            packOf[id] = pack;
            codeOf[id] = code;
            files[id] = itsFiles;
            sizes[id] = itsSize;
            sums[id] = itsSum;
            failing &= ~(1L << id);
            needCount[id] = 0;
            banCount[id] = 0;
            givenCount[id] = 0;
            options[id] = null;
            whole[pack] |= 1L << id;
            putByAge(pack, id);
            return perPack[pack];
        }

        private void putByAge(int pack, int id) {
            int base = pack * MOST_OF_PACK;
            int place = perPack[pack];
            for (; place > 0 && codeOf[byAge[base + place - 1]] > codeOf[id]; place--) {
                byAge[base + place] = byAge[base + place - 1];
            }
            byAge[base + place] = id;
            perPack[pack]++;
        }

        int addNeed(int id, Atom text, boolean isAhead) {
            int slot = id * MOST_NEEDS + needCount[id];
            needs[slot] = text;
            aheads[slot] = isAhead;
            needCount[id]++;
            return needCount[id];
        }

        int addBan(int id, Atom text) {
            bans[id * MOST_BANS + banCount[id]] = text;
            banCount[id]++;
            return banCount[id];
        }

        int addGiven(int id, int other, int otherCode) {
            int slot = id * MOST_GIVEN + givenCount[id];
            givenPacks[slot] = other;
            givenCodes[slot] = otherCode;
            givenCount[id]++;
            return givenCount[id];
        }

        int idAt(int pack, int place) {
            return byAge[pack * MOST_OF_PACK + place];
        }

        int idOf(int pack, int code) {
            for (int id = 0; id < total; id++) {
                if (packOf[id] == pack && codeOf[id] == code) {
                    return id;
                }
            }
            return NONE;
        }

        int idIn(long set, int pack) {
            for (int id = 0; id < total; id++) {
                if (packOf[id] == pack && has(set, id)) {
                    return id;
                }
            }
            return NONE;
        }

        int codeIn(long set, int pack) {
            int id = idIn(set, pack);
            return id == NONE ? NONE : codeOf[id];
        }

        int newerOf(int id, int other) {
            if (id == NONE || other == NONE) {
                return id == NONE ? other : id;
            }
            return codeOf[id] >= codeOf[other] ? id : other;
        }

        long versionsOf(int pack) {
            return whole[pack] & ALL_VERSIONS;
        }

        long withOption(int pack) {
            long having = 0L;
            for (int id = 0; id < total; id++) {
                if (packOf[id] == pack && options[id] != null) {
                    having |= 1L << id;
                }
            }
            return having;
        }

        long inRangeOf(int pack, Span range) {
            long met = 0L;
            for (int id = 0; id < total; id++) {
                if (packOf[id] == pack && Span.isAnyMet(range, codeOf[id])) {
                    met |= 1L << id;
                }
            }
            return met;
        }

        int unlikePacks(long set, long other) {
            int unlike = 0;
            for (int p = 0; p < packs; p++) {
                unlike |= ((set ^ other) & whole[p]) != 0 ? 1 << p : 0;
            }
            return unlike;
        }

        int sizeOf(long set) {
            int size = 0;
            for (int id = 0; id < total; id++) {
                size += has(set, id) ? sizes[id] : 0;
            }
            return size;
        }
    }

    /** What belongs to one root. */
    private static final class Root {
        int wished = 0;
        final Atom[] wishes = new Atom[MOST_WISHES];
        int held = 0;
        final Span[] pins = new Span[MOST_PACKS];
        int most = MOST_QUOTA;
        long goal = 0L;
        long inPlace = 0L;
        int entries = 0;
        private final long[] past = new long[KEPT_ENTRIES];
        int reason = NONE;
        int culprit = NONE;
        int failedStep = NONE;

        void copyFrom(Root other) {
            wished = other.wished;
            for (int w = 0; w < MOST_WISHES; w++) {
                wishes[w] = other.wishes[w];
            }
            held = other.held;
            for (int p = 0; p < MOST_PACKS; p++) {
                pins[p] = other.pins[p];
            }
            most = other.most;
            goal = other.goal;
            inPlace = other.inPlace;
            entries = other.entries;
            System.arraycopy(other.past, 0, past, 0, KEPT_ENTRIES);
            tellFailure(other.reason, other.culprit, other.failedStep);
        }

        int addWish(Atom text) {
            int wish = wished;
            wishes[wish] = text;
            wished++;
            return wish;
        }

        int wishesLeft() {
            int left = 0;
            for (int w = 0; w < wished; w++) {
                left += wishes[w] != null ? 1 : 0;
            }
            return left;
        }

        int pinCount() {
            int pinned = 0;
            for (int p = 0; p < MOST_PACKS; p++) {
                pinned += pins[p] != null ? 1 : 0;
            }
            return pinned;
        }

        void keepEntry() {
            past[Math.floorMod(entries, KEPT_ENTRIES)] = inPlace;
            entries++;
        }

        boolean isKept(int entry) {
            return entry >= 0 && entry < entries && entry >= entries - KEPT_ENTRIES;
        }

        long entryAt(int entry) {
            return past[Math.floorMod(entry, KEPT_ENTRIES)];
        }

        void tellFailure(int why, int pack, int step) {
            reason = why;
            culprit = pack;
            failedStep = step;
        }
    }

    /** All that a change can alter, and an undo brings back. */
    private static final class State {
        final Shelf shelf = new Shelf();
        private final Root first = new Root();
        private final Root second = new Root();
        private final Root third = new Root();
        int at = 0;
        final long[] locks = new long[LOCKS];
        int mirrors = 0;
        int fetched = 0;
        final int[] wrong = new int[MOST_MIRRORS];
        private final long[] offered = new long[MOST_MIRRORS];
        private final int[] offeredSums = new int[MOST_MIRRORS * MOST_VERSIONS];

        void copyFrom(State other) {
            shelf.copyFrom(other.shelf);
            first.copyFrom(other.first);
            second.copyFrom(other.second);
            third.copyFrom(other.third);
            at = other.at;
            System.arraycopy(other.locks, 0, locks, 0, LOCKS);
            mirrors = other.mirrors;
            fetched = other.fetched;
            System.arraycopy(other.wrong, 0, wrong, 0, MOST_MIRRORS);
            System.arraycopy(other.offered, 0, offered, 0, MOST_MIRRORS);
            System.arraycopy(other.offeredSums, 0, offeredSums, 0, MOST_MIRRORS * MOST_VERSIONS);
        }

        Root rootOf(int which) {
            return which == 1 ? second : which == 2 ? third : first;
        }

        Root atHand() {
            return rootOf(at);
        }

        /** Whether a version is installed in any root. */
        boolean isInUse(int id) {
            return has(first.inPlace | second.inPlace | third.inPlace, id);
        }

        int setOffer(int mirror, int id, int sum) {
            offered[mirror] |= 1L << id;
            offeredSums[mirror * MOST_VERSIONS + id] = sum;
            return Long.bitCount(offered[mirror]);
        }

        /**
         * The mirror that offers a version rightly after so many fetches, or NONE; the ones that
         * were asked ahead of it and offer it wrongly are counted, if that is asked for.
         */
        int mirrorFor(int id, int fetchesSoFar, boolean isCounted) {
            for (int k = 0; k < mirrors; k++) {
                int mirror = (fetchesSoFar % mirrors + k) % mirrors;
                if (mirror >= 0 && has(offered[mirror], id)) {
                    if (offeredSums[mirror * MOST_VERSIONS + id] == shelf.sums[id]) {
                        return mirror;
                    }
                    wrong[mirror] += isCounted ? 1 : 0;
                }
            }
            return NONE;
        }
    }

    /** Which versions meet which need, ban, wish or pin; whether a set is sound or fits. */
    private static final class Meets {
        private final State state;
        private final Shelf shelf;
        final long[] needs = new long[MOST_VERSIONS * MOST_NEEDS];
        final long[] bans = new long[MOST_VERSIONS * MOST_BANS];
        final long[] options = new long[MOST_VERSIONS];
        final long[] having = new long[MOST_PACKS];
        final long[] wishes = new long[MOST_WISHES];
        final long[] barred = new long[MOST_PACKS];

        Meets(State state) {
            this.state = state;
            this.shelf = state.shelf;
        }

        void renew() {
            for (int id = 0; id < shelf.total; id++) {
                for (int k = 0; k < shelf.needCount[id]; k++) {
                    needs[id * MOST_NEEDS + k] = meeting(shelf.needs[id * MOST_NEEDS + k]);
                }
                for (int k = 0; k < shelf.banCount[id]; k++) {
                    bans[id * MOST_BANS + k] = meeting(shelf.bans[id * MOST_BANS + k]);
                }
                options[id] = meeting(shelf.options[id]);
            }
            Root root = state.atHand();
            for (int w = 0; w < root.wished; w++) {
                wishes[w] = meeting(root.wishes[w]);
            }
            for (int p = 0; p < shelf.packs; p++) {
                having[p] = shelf.withOption(p);
                Span pin = root.pins[p];
                barred[p] = pin == null ? 0L : shelf.versionsOf(p) & ~shelf.inRangeOf(p, pin);
            }
        }

        /** The versions that meet one of the atoms. */
        private long meeting(Atom first) {
            long met = 0L;
            for (Atom atom = first; atom != null; atom = atom.next) {
                for (int id = 0; id < shelf.total; id++) {
                    met |= isMeeting(id, atom) ? 1L << id : 0L;
                }
            }
            return met;
        }

        private boolean isMeeting(int id, Atom atom) {
            if (shelf.packOf[id] == atom.pack) {
                return Span.isAnyMet(atom.range, shelf.codeOf[id]);
            }
            int base = id * MOST_GIVEN;
            for (int k = 0; k < shelf.givenCount[id] && !atom.isSwitched; k++) {
                if (shelf.givenPacks[base + k] == atom.pack
                        && Span.isAnyMet(atom.range, shelf.givenCodes[base + k])) {
                    return true;
                }
            }
            return false;
        }

        private static boolean isMet(Atom need, long meeting, long set) {
            boolean isSwitchRight = need == null || !need.isSwitched
                    || (set & switchOf(need.pack)) != 0;
            return (set & meeting) != 0 && isSwitchRight;
        }

        boolean isSoundSet(long set) {
            for (int id = 0; id < shelf.total; id++) {
                if (has(set, id) && (!areNeedsMet(id, set) || isBanMet(id, set))) {
                    return false;
                }
            }
            for (int p = 0; p < shelf.packs; p++) {
                if ((set & switchOf(p)) != 0 && (set & having[p]) == 0) {
                    return false;
                }
            }
            return true;
        }

        /** Whether all needs of a version are met, and that of its option if this is on. */
        private boolean areNeedsMet(int id, long set) {
            for (int k = 0; k < shelf.needCount[id]; k++) {
                int slot = id * MOST_NEEDS + k;
                if (!isMet(shelf.needs[slot], needs[slot], set)) {
                    return false;
                }
            }
            return !isOptionOn(id, set) || isMet(shelf.options[id], options[id], set);
        }

        boolean isOptionOn(int id, long set) {
            return shelf.options[id] != null && (set & switchOf(shelf.packOf[id])) != 0;
        }

        private boolean isBanMet(int id, long set) {
            for (int k = 0; k < shelf.banCount[id]; k++) {
                if ((set & bans[id * MOST_BANS + k] & ~(1L << id)) != 0) {
                    return true;
                }
            }
            return false;
        }

        boolean isFitting(long set) {
            Root root = state.atHand();
            for (int w = 0; w < root.wished; w++) {
                if (root.wishes[w] != null && !isMet(root.wishes[w], wishes[w], set)) {
                    return false;
                }
            }
            for (int p = 0; p < shelf.packs; p++) {
                boolean isHeld = (root.held >> p & 1) != 0;
                if ((set & barred[p]) != 0
                        || isHeld && ((set ^ root.inPlace) & shelf.whole[p]) != 0) {
                    return false;
                }
            }
            return isSoundSet(set);
        }

        /** How many sets there are to go through; MOST_SETS + 1 if there are more than MOST_SETS. */
        int setsToGoThrough() {
            int sets = 1;
            for (int p = 0; p < shelf.packs && sets <= MOST_SETS; p++) {
                sets *= (shelf.perPack[p] + 1) * (having[p] != 0 ? 2 : 1);
            }
            return sets > MOST_SETS ? MOST_SETS + 1 : sets;
        }

        /** One of these sets, by the digits of its number. */
        long setNumber(int number) {
            int left = number;
            long set = 0L;
            for (int p = 0; p < shelf.packs; p++) {
                int ways = shelf.perPack[p] + 1;
                int way = left % ways;
                left /= ways;
                set |= way == 0 ? 0L : 1L << shelf.idAt(p, way - 1);
                if (having[p] != 0) {
                    set |= left % 2 == 0 ? 0L : switchOf(p);
                    left /= 2;
                }
            }
            return set;
        }

        /** The packages that lose what they need, one after the other. */
        int brokenIn(long set) {
            long left = set;
            int broken = 0;
            for (int round = 0; round <= MOST_PACKS; round++) {
                for (int id = 0; id < shelf.total; id++) {
                    if (has(left, id) && !areNeedsMet(id, left)) {
                        broken |= 1 << shelf.packOf[id];
                        left &= ~shelf.whole[shelf.packOf[id]];
                    }
                }
            }
            return broken;
        }
    }

    /** The told clauses of the root at hand: literals that hold, and literals with not. */
    private static final class Clauses {
        // Wishes 16, holds 64, pins 40, needs 240, bans 80 * 39, options 80 + 12, pairs 5 * 28.
        static final int MOST = 3712;

        private final State state;
        final Shelf shelf;
        private final Meets meets;
        int number = 0;
        final long[] with = new long[MOST];
        final long[] without = new long[MOST];
        final int[] kinds = new int[MOST];
        final int[] abouts = new int[MOST];
        final int[] codes = new int[MOST];

        Clauses(State state, Meets meets) {
            this.state = state;
            this.shelf = state.shelf;
            this.meets = meets;
        }

        int literalsOf(int told) {
            return Long.bitCount(with[told]) + Long.bitCount(without[told]);
        }

        void tell() {
            number = 0;
            Root root = state.atHand();
            for (int w = 0; w < root.wished; w++) {
                tellNeed(0, w, NONE, root.wishes[w], meets.wishes[w], 0L);
            }
            for (int p = 0; p < shelf.packs; p++) {
                if ((root.held >> p & 1) != 0) {
                    tellHold(p, root.inPlace);
                }
            }
            for (int p = 0; p < shelf.packs; p++) {
                tellNone(2, p, meets.barred[p]);
            }
            for (int p = 0; p < shelf.packs; p++) {
                for (int k = 0; k < shelf.perPack[p]; k++) {
                    tellVersion(p, shelf.idAt(p, k));
                }
                add(6, p, NONE, meets.having[p], switchOf(p));
                tellPairs(p);
            }
        }

        private void add(int kind, int about, int code, long some, long none) {
            if (number < MOST) {
                kinds[number] = kind;
                abouts[number] = about;
                codes[number] = code;
                with[number] = some;
                without[number] = none;
                number++;
            }
        }

        private void tellNeed(int kind, int about, int code, Atom need, long meeting, long none) {
            if (need == null) {
                return;
            }
            add(kind, about, code, meeting, none);
            if (need.isSwitched) {
                add(kind, about, code, switchOf(need.pack), none);
            }
        }

        private void tellHold(int pack, long inPlace) {
            long version = inPlace & shelf.versionsOf(pack);
            if (version == 0) {
                tellNone(1, pack, shelf.versionsOf(pack));
                return;
            }
            boolean isOn = (inPlace & switchOf(pack)) != 0;
            add(1, pack, NONE, version, 0L);
            add(1, pack, NONE, isOn ? switchOf(pack) : 0L, isOn ? 0L : switchOf(pack));
        }

        /** One clause for each of these versions of a package, that it is not there. */
        private void tellNone(int kind, int pack, long versions) {
            for (int k = 0; k < shelf.perPack[pack]; k++) {
                int id = shelf.idAt(pack, k);
                if (has(versions, id)) {
                    add(kind, pack, NONE, 0L, 1L << id);
                }
            }
        }

        private void tellVersion(int pack, int id) {
            int code = shelf.codeOf[id];
            long itself = 1L << id;
            for (int k = 0; k < shelf.needCount[id]; k++) {
                int slot = id * MOST_NEEDS + k;
                tellNeed(3, pack, code, shelf.needs[slot], meets.needs[slot], itself);
            }
            for (int k = 0; k < shelf.banCount[id]; k++) {
                tellBan(pack, code, itself, meets.bans[id * MOST_BANS + k] & ~itself);
            }
            tellNeed(5, pack, code, shelf.options[id], meets.options[id], itself | switchOf(pack));
        }

        private void tellBan(int pack, int code, long itself, long banned) {
            for (int p = 0; p < shelf.packs; p++) {
                for (int k = 0; k < shelf.perPack[p]; k++) {
                    int id = shelf.idAt(p, k);
                    if (has(banned, id)) {
                        add(4, pack, code, 0L, itself | 1L << id);
                    }
                }
            }
        }

        private void tellPairs(int pack) {
            for (int k = 0; k < shelf.perPack[pack]; k++) {
                int id = shelf.idAt(pack, k);
                for (int m = k + 1; m < shelf.perPack[pack]; m++) {
                    long both = 1L << id | 1L << shelf.idAt(pack, m);
                    add(7, pack, shelf.codeOf[id], 0L, both);
                }
            }
        }
    }

    /**
     * Looks for a set in which the told clauses hold, but those that are left out: it tries literals
     * and draws what follows. Of each clash it keeps a clause that tells what came of it, so that it
     * does not run into the same one again.
     *
     * <p>Beside the bits of a set there is one for the change of each package, which counts if only
     * so many packages may be changed. A literal is told by its bit, and with not by BITS + its bit.
     */
    private static final class Search {
        private static final int BITS = 64;
        private static final int FIRST_CHANGE = MOST_VERSIONS + MOST_PACKS;
        private static final long CHANGES = -1L << FIRST_CHANGE;
        // More than twice BITS: so there is room once the older half, but reasons, is forgotten.
        private static final int MOST_KEPT = 160;
        // Behind all clauses: that too many packages are changed, and what is made of a clash.
        private static final int BOUND = Clauses.MOST + FIRST_CHANGE + MOST_KEPT;
        private static final int DRAFT = BOUND + 1;
        // Behind the two watches of each clause: where the chain of each literal starts.
        private static final int CHAINS = 2 * BOUND;
        // No search comes near: the turns end by themselves, as each clash rules out a part of all.
        private static final long MOST_TURNS = 1L << 60;
        private static final int MOST_GAIN = 1 << 24;

        private final Clauses clauses;
        final boolean[] isLeftOut = new boolean[Clauses.MOST];
        // The told clauses that a search without success came by.
        final boolean[] isUsed = new boolean[Clauses.MOST];
        private long like = 0L;
        private int bound = MOST_PACKS;
        // The told clauses, those of changes, and up to the end those that are kept.
        private final long[] with = new long[DRAFT + 1];
        private final long[] without = new long[DRAFT + 1];
        private int told = 0;
        private int end = 0;
        private long yes = 0L;
        private long no = 0L;
        // Level 0 is what follows anyway, 1 what is asked for, each other one a literal that is tried.
        private int level = 0;
        private final long[] atLevel = new long[BITS + 2];
        private final int[] trail = new int[BITS];
        private int drawn = 0;
        private final int[] reasons = new int[BITS];
        private final int[] watched = new int[CHAINS];
        private final int[] nexts = new int[CHAINS + 2 * BITS];
        // How much a bit has had to do with clashes, the latest ones most.
        private final int[] weights = new int[BITS];
        private int gain = 1;

        Search(Clauses clauses) {
            this.clauses = clauses;
        }

        /** Takes the told clauses; at most so many packages may be unlike those of a set. */
        void load(long likeThis, int mostChanges) {
            like = likeThis;
            bound = mostChanges;
            yes = 0L;
            no = 0L;
            level = 0;
            atLevel[0] = 0L;
            drawn = 0;
            gain = 1;
            Arrays.fill(weights, 0);
            System.arraycopy(clauses.with, 0, with, 0, clauses.number);
            System.arraycopy(clauses.without, 0, without, 0, clauses.number);
            told = clauses.number;
            int packs = clauses.shelf.packs;
            for (int p = 0; p < packs && bound < packs; p++) {
                tellChange(p);
            }
            end = told;
            watchAll();
        }

        /** Each version and the option of a package is as in like, or the package is changed. */
        private void tellChange(int pack) {
            for (int bit = 0; bit < FIRST_CHANGE; bit++) {
                long itself = 1L << bit;
                if ((clauses.shelf.whole[pack] & itself) != 0 && told < BOUND - MOST_KEPT) {
                    with[told] = 1L << (FIRST_CHANGE + pack) | itself & like;
                    without[told] = itself & ~like;
                    told++;
                }
            }
        }

        private boolean isTaken(int c) {
            return c >= clauses.number || !isLeftOut[c];
        }

        /** Watches all clauses but those that hold anyway, as they have a literal and its opposite. */
        private void watchAll() {
            for (int literal = 0; literal < 2 * BITS; literal++) {
                nexts[CHAINS + literal] = NONE;
            }
            for (int c = 0; c < end; c++) {
                if (isTaken(c) && (with[c] & without[c]) == 0) {
                    watch(c);
                }
            }
        }

        /**
         * Watches a clause at two literals that do not fail, or at those that failed on the highest
         * levels. One literal alone is watched twice, and put.
         */
        private void watch(int c) {
            long some = with[c] & ~no;
            long none = without[c] & ~yes;
            int first = pick(some, none, NONE);
            int second = pick(some, none, first);
            for (int at = level; at >= 0 && second == NONE; at--) {
                some = with[c] & atLevel[at];
                none = without[c] & atLevel[at];
                first = first == NONE ? pick(some, none, NONE) : first;
                second = pick(some, none, first);
            }
            if (first == NONE) {
                return;
            }
            link(2 * c, first);
            link(2 * c + 1, second == NONE ? first : second);
            if (second == NONE && ((yes | no) >> (first % BITS) & 1) == 0) {
                put(first, c);
            }
        }

        private void link(int watch, int literal) {
            watched[watch] = literal;
            nexts[watch] = nexts[CHAINS + literal];
            nexts[CHAINS + literal] = watch;
        }

        /** The first one of these literals, but one; NONE without any. */
        private static int pick(long some, long none, int but) {
            long left = but >= 0 && but < BITS ? some & ~(1L << but) : some;
            if (left != 0) {
                return Long.bitCount((left & -left) - 1);
            }
            left = but >= BITS ? none & ~(1L << (but - BITS)) : none;
            return left != 0 ? BITS + Long.bitCount((left & -left) - 1) : NONE;
        }

        private void put(int literal, int reason) {
            long bit = 1L << (literal % BITS);
            int place = Long.bitCount(yes | no);
            if (literal >= 0 && place < BITS) {
                trail[place] = literal;
                reasons[literal % BITS] = reason;
                atLevel[level] |= bit;
                yes |= literal < BITS ? bit : 0L;
                no |= literal < BITS ? 0L : bit;
            }
        }

        private void deepen() {
            level += level <= BITS ? 1 : 0;
            atLevel[level] = 0L;
        }

        private void back(int to) {
            for (; level > to && level > 0; level--) {
                yes &= ~atLevel[level];
                no &= ~atLevel[level];
            }
            drawn = Math.min(drawn, Long.bitCount(yes | no));
        }

        /** Whether a set that has these, and lacks those, can hold; if so, found tells one. */
        boolean canHold(long some, long none) {
            back(0);
            drawn = 0;
            if ((some & none) != 0 || hasEmpty()) {
                return false;
            }
            for (long turn = 0; turn < MOST_TURNS; turn++) {
                int clash = draw();
                if (clash != NONE) {
                    trace(clash);
                    if (level < 2) {
                        return false;
                    }
                    back(levelBelow());
                    if (end >= told + MOST_KEPT) {
                        forget();
                        watchAll();
                    }
                    keep();
                } else if (level == 0) {
                    if ((some & no | none & yes) != 0) {
                        return false;
                    }
                    deepen();
                    putAll(some & ~yes, none & ~no);
                } else {
                    int literal = choose();
                    if (literal == NONE) {
                        return true;
                    }
                    deepen();
                    put(literal, NONE);
                }
            }
            return false;
        }

        /** The set that was found; what is open in it is as in like. */
        long found() {
            return (yes | like & ~no) & ~CHANGES;
        }

        private boolean hasEmpty() {
            for (int c = 0; c < clauses.number; c++) {
                if (!isLeftOut[c] && (with[c] | without[c]) == 0) {
                    isUsed[c] = true;
                    return true;
                }
            }
            return false;
        }

        private void putAll(long some, long none) {
            for (int bit = 0; bit < FIRST_CHANGE; bit++) {
                if (((some | none) >> bit & 1) != 0) {
                    put((some >> bit & 1) != 0 ? bit : BITS + bit, NONE);
                }
            }
        }

        /** Draws what follows from what was put; a clause that cannot hold any more, or NONE. */
        private int draw() {
            int clash = NONE;
            for (int k = 0; k < BITS && clash == NONE && drawn < Long.bitCount(yes | no); k++) {
                int literal = trail[drawn];
                drawn++;
                clash = visit(literal < BITS ? literal + BITS : literal - BITS);
                if (clash == NONE && literal >= FIRST_CHANGE && literal < BITS) {
                    clash = spread();
                }
            }
            return clash;
        }

        /** Goes through the clauses that are watched at a literal which fails now. */
        private int visit(int failed) {
            int clash = NONE;
            int watch = nexts[CHAINS + failed];
            nexts[CHAINS + failed] = NONE;
            for (int k = 0; k < CHAINS && watch != NONE; k++) {
                int next = nexts[watch];
                int c = watch / 2;
                int other = watched[watch % 2 == 0 ? watch + 1 : watch - 1];
                int to = failed;
                if (clash == NONE && (with[c] & yes | without[c] & no) == 0) {
                    long some = with[c] & ~no;
                    long none = without[c] & ~yes;
                    int free = pick(some, none, other);
                    to = free == NONE ? failed : free;
                    if ((some | none) == 0) {
                        clash = c;
                    } else if (free == NONE) {
                        put(other, c);
                    }
                }
                link(watch, to);
                watch = next;
            }
            return clash;
        }

        /** If no more packages may be changed, the others stay; BOUND if there are too many. */
        private int spread() {
            int changed = Long.bitCount(yes & CHANGES);
            for (int p = 0; p < clauses.shelf.packs && changed == bound; p++) {
                if (((yes | no) >> (FIRST_CHANGE + p) & 1) == 0) {
                    put(BITS + FIRST_CHANGE + p, BOUND);
                }
            }
            return changed > bound ? BOUND : NONE;
        }

        /**
         * Makes the draft what the clash comes from, by joining it with the reasons of its literals:
         * a clause with one literal of this level; below level 2, of what was asked for alone.
         */
        private void trace(int clash) {
            without[BOUND] = yes & CHANGES;
            with[DRAFT] = 0L;
            without[DRAFT] = 0L;
            long seen = join(clash, 0L);
            boolean isAlone = false;
            for (int place = Long.bitCount(yes | no) - 1; place >= 0; place--) {
                long bit = 1L << (trail[place] % BITS);
                int reason = reasons[trail[place] % BITS];
                long all = with[DRAFT] | without[DRAFT];
                isAlone = isAlone || level > 1 && Long.bitCount(all & atLevel[level]) == 1;
                if (reason != NONE && (all & bit) != 0 && (!isAlone || isCovered(reason, bit))) {
                    seen |= join(reason, bit);
                }
            }
            weigh(seen);
        }

        private long join(int c, long bit) {
            if (c < clauses.number) {
                isUsed[c] = true;
            }
            with[DRAFT] = (with[DRAFT] | with[c]) & ~bit;
            without[DRAFT] = (without[DRAFT] | without[c]) & ~bit;
            return with[c] | without[c];
        }

        /** Whether the draft only loses a literal if it is joined with a clause. */
        private boolean isCovered(int c, long bit) {
            return ((with[c] & ~with[DRAFT] | without[c] & ~without[DRAFT]) & ~bit) == 0;
        }

        private void weigh(long seen) {
            gain += gain / 16 + 1;
            for (int bit = 0; bit < BITS; bit++) {
                weights[bit] += (seen >> bit & 1) != 0 ? gain : 0;
            }
            if (gain > MOST_GAIN) {
                gain = gain >> 16;
                for (int bit = 0; bit < BITS; bit++) {
                    weights[bit] = weights[bit] >> 16;
                }
            }
        }

        /** The highest level of the draft below this one. */
        private int levelBelow() {
            long all = with[DRAFT] | without[DRAFT];
            int to = level - 1;
            while (to > 0 && (all & atLevel[to]) == 0) {
                to--;
            }
            return to;
        }

        /** Keeps the draft, of which one literal must hold now. */
        private void keep() {
            int c = end;
            end++;
            with[c] = with[DRAFT];
            without[c] = without[DRAFT];
            watch(c);
            if ((with[c] & yes | without[c] & no) == 0) {
                put(pick(with[c] & ~no, without[c] & ~yes, NONE), c);
            }
        }

        /** Forgets the older half of what was kept, but the reasons of what is put. */
        private void forget() {
            int newer = (told + end) / 2;
            int left = told;
            for (int c = told; c < end; c++) {
                boolean isKept = c >= newer;
                for (int place = 0; place < Long.bitCount(yes | no); place++) {
                    int bit = trail[place] % BITS;
                    if (reasons[bit] == c) {
                        reasons[bit] = left;
                        isKept = true;
                    }
                }
                if (isKept) {
                    with[left] = with[c];
                    without[left] = without[c];
                    left++;
                }
            }
            end = left;
        }

        /**
         * A literal of a clause that would not hold if all that is open were as in like: of those
         * with the fewest open literals the one with the most weight. NONE without such a clause.
         */
        private int choose() {
            long filled = yes | like & ~no;
            int fewest = 2 * BITS;
            long some = 0L;
            long none = 0L;
            for (int c = 0; c < told; c++) {
                if ((with[c] & filled) == 0 && (without[c] & ~filled) == 0 && isTaken(c)) {
                    long open = with[c] & ~no;
                    long openNot = without[c] & ~yes;
                    int count = Long.bitCount(open) + Long.bitCount(openNot);
                    boolean isFewer = count < fewest;
                    some = isFewer ? open : count == fewest ? some | open : some;
                    none = isFewer ? openNot : count == fewest ? none | openNot : none;
                    fewest = Math.min(count, fewest);
                }
            }
            return heaviest(some, none);
        }

        private int heaviest(long some, long none) {
            int best = NONE;
            int most = NONE;
            for (int bit = 0; bit < BITS; bit++) {
                if (((some | none) >> bit & 1) != 0 && weights[bit] > most) {
                    most = weights[bit];
                    best = (some >> bit & 1) != 0 ? bit : BITS + bit;
                }
            }
            return best;
        }
    }

    /** Finds the newest set that fits, the least changed one, and whether all of them have a version. */
    private static final class Solver {
        private final State state;
        private final Shelf shelf;
        private final Search search;
        long found = 0L;
        private final int[] turns = new int[MOST_PACKS];
        private int wishedPacks;

        Solver(State state, Search search) {
            this.state = state;
            this.shelf = state.shelf;
            this.search = search;
        }

        /** Makes found a set that fits, if asked for with the fewest changes; false without any. */
        boolean find(boolean isLeast) {
            long like = isLeast ? state.atHand().inPlace : 0L;
            search.load(like, MOST_PACKS);
            if (!search.canHold(0L, 0L)) {
                return false;
            }
            found = search.found();
            int changed = isLeast ? Integer.bitCount(shelf.unlikePacks(found, like)) : 0;
            for (int k = 0; k < MOST_PACKS && changed > 0; k++) {
                search.load(like, changed - 1);
                boolean isLess = search.canHold(0L, 0L);
                found = isLess ? search.found() : found;
                changed = isLess ? Integer.bitCount(shelf.unlikePacks(found, like)) : 0;
            }
            if (isLeast) {
                search.load(like, Integer.bitCount(shelf.unlikePacks(found, like)));
            }
            return true;
        }

        /** 1 if the version is in all sets that fit, -1 if in none, otherwise 0; -2 without any. */
        int mustHave(long version) {
            search.load(0L, MOST_PACKS);
            if (!search.canHold(0L, 0L)) {
                return -2;
            }
            boolean isIn = (search.found() & version) != 0;
            boolean isOther = search.canHold(isIn ? 0L : version, isIn ? version : 0L);
            return isOther ? 0 : isIn ? 1 : -1;
        }

        /** Settles package by package, the better one first, behind find. */
        void settle() {
            findTurns();
            long some = 0L;
            long none = 0L;
            for (int t = 0; t < shelf.packs; t++) {
                long version = bestVersion(turns[t], some, none);
                some |= version;
                none |= shelf.versionsOf(turns[t]) & ~version;
            }
            for (int p = 0; p < shelf.packs; p++) {
                if (canStill(some, none | switchOf(p))) {
                    none |= switchOf(p);
                } else {
                    some |= switchOf(p);
                }
            }
            found = some;
        }

        /** The best version of a package that can be with what is settled, 0 for none. */
        private long bestVersion(int pack, long some, long none) {
            boolean isWished = (wishedPacks >> pack & 1) != 0;
            if (!isWished && canStill(some, none | shelf.versionsOf(pack))) {
                return 0L;
            }
            for (int k = shelf.perPack[pack] - 1; k >= 0; k--) {
                long version = 1L << shelf.idAt(pack, k);
                if (canStill(some | version, none)) {
                    return version;
                }
            }
            return 0L;
        }

        /** Whether a set has these, and lacks those; no search if the set found last shows it. */
        private boolean canStill(long some, long none) {
            if ((some & ~found) == 0 && (none & found) == 0) {
                return true;
            }
            boolean isFound = search.canHold(some, none);
            found = isFound ? search.found() : found;
            return isFound;
        }

        /** The order of the packages: those in wishes as they stand there, then the others. */
        private void findTurns() {
            Root root = state.atHand();
            int count = 0;
            wishedPacks = 0;
            for (int w = 0; w < root.wished; w++) {
                for (Atom atom = root.wishes[w]; atom != null; atom = atom.next) {
                    if ((wishedPacks >> atom.pack & 1) == 0 && count < MOST_PACKS) {
                        wishedPacks |= 1 << atom.pack;
                        turns[count] = atom.pack;
                        count++;
                    }
                }
            }
            for (int p = 0; p < shelf.packs; p++) {
                if ((wishedPacks >> p & 1) == 0 && count < MOST_PACKS) {
                    turns[count] = p;
                    count++;
                }
            }
        }

        /** Whether a set is ahead of another one (behind settle). */
        boolean isAhead(long set, long other) {
            for (int t = 0; t < shelf.packs; t++) {
                int pack = turns[t];
                int mine = shelf.codeIn(set, pack);
                int yours = shelf.codeIn(other, pack);
                if (mine != yours) {
                    boolean isWished = (wishedPacks >> pack & 1) != 0;
                    boolean isNoneBetter = !isWished && (mine == NONE || yours == NONE);
                    return isNoneBetter ? mine == NONE : mine > yours;
                }
            }
            for (int p = 0; p < shelf.packs; p++) {
                if (((set ^ other) & switchOf(p)) != 0) {
                    return (set & switchOf(p)) == 0;
                }
            }
            return false;
        }
    }

    /** The core of the told clauses that cannot hold together, and the proof from it. */
    private static final class Prover {
        private static final int MOST_ROWS = 200;
        private static final int WORDS = 4;

        private final Clauses clauses;
        private final Search search;
        int coreCount = 0;
        final int[] core = new int[Clauses.MOST];
        private final boolean[] isBlamed = new boolean[Clauses.MOST];
        int rows = 0;
        final long[] with = new long[MOST_ROWS];
        final long[] without = new long[MOST_ROWS];
        final int[] earlier = new int[MOST_ROWS];
        final int[] later = new int[MOST_ROWS];
        private final int[] places = new int[MOST_ROWS];
        // Bit i of the words of row j: the pair of the rows i and j is of no use any more.
        private final long[] spent = new long[MOST_ROWS * WORDS];
        private long joinedWith;
        private long joinedWithout;

        Prover(Clauses clauses, Search search) {
            this.clauses = clauses;
            this.search = search;
        }

        int literalsOf(int row) {
            return Long.bitCount(with[row]) + Long.bitCount(without[row]);
        }

        /**
         * Leaves out one clause after the other, from the last one. The clauses that the latest
         * search without success used cannot hold together, so any other one goes without a search.
         */
        void findCore() {
            coreCount = 0;
            takeAll();
            boolean canHold = !isRefuted();
            for (int c = clauses.number - 1; c >= 0 && !canHold; c--) {
                search.isLeftOut[c] = true;
                if (isBlamed[c] && !isRefuted()) {
                    search.isLeftOut[c] = false;
                }
            }
            for (int c = 0; c < clauses.number && !canHold; c++) {
                if (!search.isLeftOut[c]) {
                    core[coreCount] = c;
                    coreCount++;
                }
            }
            takeAll();
        }

        private void takeAll() {
            for (int c = 0; c < clauses.number; c++) {
                search.isLeftOut[c] = false;
            }
        }

        private boolean isRefuted() {
            for (int c = 0; c < clauses.number; c++) {
                search.isUsed[c] = false;
            }
            search.load(0L, MOST_PACKS);
            boolean canHold = search.canHold(0L, 0L);
            for (int c = 0; c < clauses.number && !canHold; c++) {
                isBlamed[c] = search.isUsed[c];
            }
            return !canHold;
        }

        /** Joins rows until one has no literal; rows is NONE then if there is no proof. */
        void join() {
            rows = coreCount <= MOST_ROWS ? coreCount : NONE;
            for (int r = 0; r < rows; r++) {
                with[r] = clauses.with[core[r]];
                without[r] = clauses.without[core[r]];
                earlier[r] = NONE;
                later[r] = NONE;
            }
            Arrays.fill(spent, 0L);
            for (int k = 0; k < MOST_ROWS && rows > 0 && literalsOf(rows - 1) != 0; k++) {
                if (!isBestJoined()) {
                    rows = NONE;
                }
            }
            dropUnneeded();
        }

        private boolean isBestJoined() {
            int best = Search.BITS;
            int first = NONE;
            int second = NONE;
            for (int j = 1; j < rows; j++) {
                for (int i = 0; i < j; i++) {
                    if (isSpent(i, j) || !isJoinable(i, j)) {
                        continue;
                    }
                    int size = Long.bitCount(joinedWith) + Long.bitCount(joinedWithout);
                    if (size < best && !isCovered(i, j)) {
                        best = size;
                        first = i;
                        second = j;
                    }
                }
            }
            if (first == NONE || rows >= MOST_ROWS || !isJoinable(first, second)) {
                return false;
            }
            with[rows] = joinedWith;
            without[rows] = joinedWithout;
            earlier[rows] = first;
            later[rows] = second;
            rows++;
            return true;
        }

        private boolean isSpent(int i, int j) {
            return (spent[j * WORDS + (i >> 6)] >> (i & 63) & 1) != 0;
        }

        private void spend(int i, int j) {
            spent[j * WORDS + (i >> 6)] |= 1L << (i & 63);
        }

        /** Joins two rows, if exactly one version or option stands against itself in them. */
        private boolean isJoinable(int i, int j) {
            long clash = with[i] & without[j] | without[i] & with[j];
            if (Long.bitCount(clash) != 1) {
                spend(i, j);
                return false;
            }
            joinedWith = (with[i] | with[j]) & ~clash;
            joinedWithout = (without[i] | without[j]) & ~clash;
            return true;
        }

        /** Whether the joined row has all literals of some row; it will have them ever after. */
        private boolean isCovered(int i, int j) {
            for (int r = 0; r < rows; r++) {
                if ((with[r] & ~joinedWith) == 0 && (without[r] & ~joinedWithout) == 0) {
                    spend(i, j);
                    return true;
                }
            }
            return false;
        }

        private void dropUnneeded() {
            Arrays.fill(places, NONE);
            if (rows > 0) {
                places[rows - 1] = 0;
            }
            for (int r = rows - 1; r >= 0; r--) {
                if (places[r] != NONE && later[r] != NONE) {
                    places[earlier[r]] = 0;
                    places[later[r]] = 0;
                }
            }
            int kept = 0;
            for (int r = 0; r < rows; r++) {
                if (places[r] != NONE) {
                    places[r] = kept;
                    with[kept] = with[r];
                    without[kept] = without[r];
                    boolean isJoined = later[r] != NONE;
                    earlier[kept] = isJoined ? places[earlier[r]] : NONE;
                    later[kept] = isJoined ? places[later[r]] : NONE;
                    kept++;
                }
            }
            rows = rows > 0 ? kept : rows;
        }

        /** Whether the core can hold together, or one of its clauses can be left out. */
        boolean isCoreWrong() {
            if (coreCount == 0) {
                return false;
            }
            for (int c = 0; c < clauses.number; c++) {
                search.isLeftOut[c] = true;
            }
            for (int k = 0; k < coreCount; k++) {
                search.isLeftOut[core[k]] = false;
            }
            boolean isWrong = !isRefuted();
            for (int k = 0; k < coreCount && !isWrong; k++) {
                search.isLeftOut[core[k]] = true;
                isWrong = isRefuted();
                search.isLeftOut[core[k]] = false;
            }
            takeAll();
            return isWrong;
        }

        /** Whether a row is not what its two rows joined are, or the last one has a literal. */
        boolean isProofWrong() {
            for (int r = 0; r < rows; r++) {
                if (later[r] != NONE && (!isJoinable(earlier[r], later[r])
                        || joinedWith != with[r] || joinedWithout != without[r])) {
                    return true;
                }
            }
            return rows > 0 && literalsOf(rows - 1) != 0;
        }
    }

    /**
     * How the packages of a set hang together: the order of scripts, and why they are reached; the
     * steps to the goal, what is fetched for them, and how they are carried out.
     */
    private static final class Installer {
        // Told in place of a set if a step fails; no set has this bit.
        private static final long FAILED = 1L << 62;

        private final State state;
        private final Shelf shelf;
        private final Meets meets;
        private final int[] ahead = new int[MOST_PACKS];
        // The packages from which a row leads so many steps to the least one of the ring.
        private final int[] atDistance = new int[MOST_PACKS + 1];
        final int[] row = new int[MOST_PACKS];
        int length = 0;
        boolean isRing = false;
        final int[] reasons = new int[MOST_PACKS];
        final int[] distances = new int[MOST_PACKS];
        final int[] steps = new int[MOST_PACKS];
        int stepCount = 0;

        Installer(State state, Meets meets) {
            this.state = state;
            this.shelf = state.shelf;
            this.meets = meets;
        }

        /** Makes row the order of scripts of a set, or its ring. */
        void arrange(long set) {
            int left = 0;
            for (int p = 0; p < shelf.packs; p++) {
                ahead[p] = aheadOf(p, set);
                left |= shelf.idIn(set, p) != NONE ? 1 << p : 0;
            }
            length = 0;
            int next = firstFree(left);
            for (int k = 0; k < MOST_PACKS && next != NONE; k++) {
                row[k] = next;
                length = k + 1;
                left &= ~(1 << next);
                next = firstFree(left);
            }
            isRing = left != 0;
            for (int p = 0; p < shelf.packs && isRing; p++) {
                if (isRingFrom(p, left)) {
                    return;
                }
            }
        }

        /** The packages of a set that are ahead of one of it. */
        private int aheadOf(int pack, long set) {
            int id = shelf.idIn(set, pack);
            long met = 0L;
            for (int k = 0; id != NONE && k < shelf.needCount[id]; k++) {
                met |= shelf.aheads[id * MOST_NEEDS + k] ? meets.needs[id * MOST_NEEDS + k] : 0L;
            }
            return packsWith(met & set) & ~(1 << pack);
        }

        private int packsWith(long versions) {
            int packs = 0;
            for (int id = 0; id < shelf.total; id++) {
                packs |= has(versions, id) ? 1 << shelf.packOf[id] : 0;
            }
            return packs;
        }

        private int firstFree(int left) {
            for (int p = 0; p < shelf.packs; p++) {
                if ((left >> p & 1) != 0 && (ahead[p] & left) == 0) {
                    return p;
                }
            }
            return NONE;
        }

        /** Makes row the ring whose least package is the first one; false if there is none. */
        private boolean isRingFrom(int first, int left) {
            int unseen = left & -(1 << first) & ~(1 << first);
            atDistance[0] = left & 1 << first;
            for (int d = 1; d <= MOST_PACKS; d++) {
                int level = 0;
                for (int p = 0; p < shelf.packs; p++) {
                    level |= (atDistance[d - 1] >> p & 1) != 0 ? ahead[p] : 0;
                }
                if ((level >> first & 1) != 0) {
                    walkRing(first, d);
                    return true;
                }
                atDistance[d] = level & unseen;
                unseen &= ~level;
            }
            return false;
        }

        /** Goes from the first one back to it, by the least package at each distance from it. */
        private void walkRing(int first, int steps) {
            row[0] = first;
            length = steps;
            for (int k = 1; k < steps && k < MOST_PACKS; k++) {
                row[k] = leastBehind(row[k - 1], atDistance[steps - k]);
            }
        }

        private int leastBehind(int pack, int choice) {
            for (int p = 0; p < shelf.packs; p++) {
                if ((choice >> p & 1) != 0 && (ahead[p] >> pack & 1) != 0) {
                    return p;
                }
            }
            return 0;
        }

        /** Finds by which wish or package each package of a set is reached, and how far it is. */
        void reach(long set) {
            Arrays.fill(reasons, NONE);
            Arrays.fill(distances, NONE);
            for (int p = 0; p < shelf.packs; p++) {
                int wish = firstWishFor(shelf.idIn(set, p));
                if (wish != NONE) {
                    reasons[p] = 100 + wish;
                    distances[p] = 1;
                }
            }
            for (int step = 1; step <= MOST_PACKS; step++) {
                for (int p = 0; p < shelf.packs; p++) {
                    if (distances[p] == step) {
                        reachFrom(p, set, step);
                    }
                }
            }
        }

        private int firstWishFor(int id) {
            Root root = state.atHand();
            for (int w = 0; w < root.wished && id != NONE; w++) {
                if (root.wishes[w] != null && has(meets.wishes[w], id)) {
                    return w;
                }
            }
            return NONE;
        }

        private void reachFrom(int pack, long set, int step) {
            int id = shelf.idIn(set, pack);
            if (id == NONE) {
                return;
            }
            long met = meets.isOptionOn(id, set) ? meets.options[id] : 0L;
            for (int k = 0; k < shelf.needCount[id]; k++) {
                met |= meets.needs[id * MOST_NEEDS + k];
            }
            int packs = packsWith(met & set);
            for (int p = 0; p < shelf.packs; p++) {
                if ((packs >> p & 1) != 0 && distances[p] == NONE) {
                    reasons[p] = pack;
                    distances[p] = step + 1;
                }
            }
        }

        void findSteps() {
            long there = state.atHand().inPlace;
            long goal = state.atHand().goal;
            int left = shelf.unlikePacks(there, goal);
            stepCount = 0;
            for (int k = 0; k < MOST_PACKS && left != 0; k++) {
                int step = nextStep(there, goal, left);
                steps[k] = step;
                stepCount = k + 1;
                there = moved(there, goal, step);
                left &= ~step;
            }
        }

        private int nextStep(long there, long goal, int left) {
            for (int p = 0; p < shelf.packs; p++) {
                int alone = left & 1 << p;
                if (alone != 0 && meets.isSoundSet(moved(there, goal, alone))) {
                    return alone;
                }
            }
            return left;
        }

        private long moved(long there, long goal, int packs) {
            long part = wholeOf(packs);
            return there & ~part | goal & part;
        }

        private long wholeOf(int packs) {
            long part = 0L;
            for (int p = 0; p < shelf.packs; p++) {
                part |= (packs >> p & 1) != 0 ? shelf.whole[p] : 0L;
            }
            return part;
        }

        /** The version of a package that would come, or NONE. */
        private int comingOf(int pack) {
            Root root = state.atHand();
            return shelf.idIn(root.goal & ~root.inPlace, pack);
        }

        int comingCount() {
            Root root = state.atHand();
            return packsIn(root.goal & ~root.inPlace);
        }

        /** What would come at a place of the order of fetches (behind arrange). */
        int comingAt(int place, boolean isMirror) {
            int fetched = state.fetched;
            int passed = 0;
            for (int k = 0; k < length; k++) {
                int id = comingOf(row[k]);
                if (id != NONE) {
                    int mirror = state.mirrorFor(id, fetched, false);
                    if (passed == place) {
                        return isMirror ? mirror : row[k];
                    }
                    fetched += mirror != NONE ? 1 : 0;
                    passed++;
                }
            }
            return NONE;
        }

        /** Installs the goal, or tells the failure and leaves what is installed; counts steps. */
        int run() {
            Root root = state.atHand();
            root.tellFailure(NONE, NONE, NONE);
            arrange(root.goal);
            if (isRing) {
                root.tellFailure(RING, row[0], NONE);
                return NONE;
            }
            if (!isAllFetched()) {
                return NONE;
            }
            findSteps();
            long there = root.inPlace;
            for (int k = 0; k < stepCount && there != FAILED; k++) {
                there = afterStep(there, k);
            }
            if (there == FAILED) {
                return NONE;
            }
            root.inPlace = root.goal;
            root.keepEntry();
            return stepCount;
        }

        private boolean isAllFetched() {
            for (int k = 0; k < length && state.mirrors > 0; k++) {
                int id = comingOf(row[k]);
                if (id != NONE) {
                    if (state.mirrorFor(id, state.fetched, true) == NONE) {
                        state.atHand().tellFailure(FETCH, row[k], NONE);
                        return false;
                    }
                    state.fetched++;
                }
            }
            return true;
        }

        /** What is there after a step, or FAILED. */
        private long afterStep(long there, int number) {
            long goal = state.atHand().goal;
            long moved = moved(there, goal, steps[number]);
            long coming = moved & ~there & ALL_VERSIONS;
            int files = filesOf(there & moved);
            for (int k = 0; k < length; k++) {
                int id = shelf.idIn(coming, row[k]);
                if (id != NONE && (files & shelf.files[id]) != 0) {
                    return failedBy(FILE, row[k], number);
                }
                files |= id != NONE ? shelf.files[id] : 0;
            }
            if (shelf.sizeOf(moved) > state.atHand().most) {
                return failedBy(SPACE, greatestOf(steps[number]), number);
            }
            for (int k = 0; k < length; k++) {
                int id = shelf.idIn(coming, row[k]);
                if (id != NONE && has(shelf.failing, id)) {
                    return failedBy(SCRIPT, row[k], number);
                }
            }
            return moved;
        }

        private long failedBy(int reason, int pack, int step) {
            state.atHand().tellFailure(reason, pack, step);
            return FAILED;
        }

        private int filesOf(long set) {
            int files = 0;
            for (int id = 0; id < shelf.total; id++) {
                files |= has(set, id) ? shelf.files[id] : 0;
            }
            return files;
        }

        private int greatestOf(int packs) {
            int greatest = NONE;
            for (int p = 0; p < shelf.packs; p++) {
                greatest = (packs >> p & 1) != 0 ? p : greatest;
            }
            return greatest;
        }
    }
}
