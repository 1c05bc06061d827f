/** Each sentence of the document that names a boundary case has a test of its own here. */
public final class EdgesTest {
    // What is left says what a section or a call is about, and names no boundary.
    private static final String WITHOUT_EDGE = """
            What it is: A keeper of packages:
            What it is: versions and ranges, needs, either-ors, bans, options and what a version provides;
            What it is: the newest set that fits and the set with the fewest changes, both exact;
            What it is: the told clauses that cannot hold together, and a proof of that by joining;
            What it is: locks, mirrors with sums, installs step by step that are taken back if they fail, scripts in order, orphans, several roots, history, undo.
            What it is: what later calls answer is free.
            Terms: Versions are kept in java.util.TreeMaps and found by their floors and parts, clauses are BitSets, what is tried stands on an ArrayDeque, what is installed in a LinkedHashMap.
            2: Needs and ranges are told as texts on the tape.
            2: A span is met by versions so:
            3: A package can have an option:
            5: The packages go in this order:
            6: A literal is a version of a package, the option of a package, or not one of these.
            6: A told clause is a set of literals of which at least one must hold.
            8: To fetch a version, mirrors are asked by turns:
            9: The order of scripts of a set:
            9: The steps from what is installed to the goal:
            9: To install the goal, which must be sound:
            9: Then the steps are carried out, each so:
            10: To merge two locks:
            12: The constants:
            12: The absence of a number.
            12: Reasons why installs fail.
            P2: Appends bytes to the tape:
            P5: A package comes.
            P6: A version comes.
            P7: A version gets the need on the tape.
            P8: A version gets a ban:
            P8: the atom on the tape.
            P9: A version provides a version of another package.
            P10: A version gets the option of its package, with the need on the tape.
            P11: Counts things.
            P12: Counts the versions of a package.
            P13: Returns the code of a version of a package by its place.
            P15: Takes a root at hand.
            P16: The root at hand gets the wish on the tape.
            P17: Takes a wish back.
            P18: Sets or ends the hold of a package.
            P20: Sets the quota.
            P21: Makes the goal the newest set, or the least changed one;
            P22: Returns the version of a package in the goal.
            P23: Tells whether the option of a package is on in the goal.
            P24: Counts the changes from what is installed to the goal.
            P25: Tells whether a version is in the sets that fit.
            P26: Counts the sets that fit, going through all sets:
            P27: Returns why a package is in the goal (section 7).
            P28: Returns how far a package is in the goal (section 7).
            P29: Counts the clauses of the core.
            P30: Tells about a clause of the core.
            P31: Counts the rows of the proof.
            P32: Tells about a row of the proof.
            P34: Keeps the goal as a lock.
            P35: Counts the changes between two locks.
            P36: Makes the goal what two locks are merged.
            P37: Makes the goal what a lock has.
            P38: A mirror comes.
            P40: Returns how often a mirror offered a wrong sum as it was asked.
            P41: Counts the packages that would come, if the goal were installed.
            P42: Returns a package that would come, in the order in which they are fetched, or the mirror of which it would be fetched.
            P43: Counts the steps from what is installed to the goal.
            P44: Returns the packages of a step.
            P45: Installs the goal.
            P47: Returns the version of a package that is installed.
            P48: Returns the package that has a file of what is installed.
            P49: Counts the files that more than one version of the goal has.
            P50: Tells that the script of a version fails from now on, or that it does not.
            P51: Counts the scripts of the goal, or the packages of its ring.
            P52: Returns a package of the goal in the order of scripts, or a package of its ring.
            P53: Returns the orphans.
            P54: Returns what breaks if a package goes:
            P56: Returns the version of a package in an entry of the history.
            P57: Returns the size of what is installed.
            P58: Undoes the latest change that can be undone.
            P59: Returns a sum of the goal and of what is installed:
            P59: Returns the sum.
            P60: Tells whether what is installed is sound in all roots.
            P61: Holds what is found against all sets and the told clauses, for the root at hand:
            P62: Returns the mean size of what is installed.
            P63: Returns the share of the quota that is used.
            """;

    public static void main(String[] args) {
        TextEdges.all();
        PackageEdges.all();
        RootEdges.all();
        SetEdges.all();
        ClauseEdges.all();
        LockEdges.all();
        InstallEdges.all();
        HistoryEdges.all();
        Edge.checkAllTested(WITHOUT_EDGE.lines().toList());
        Kit.end("EdgesTest");
    }
}
