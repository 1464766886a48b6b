/** The five examples of the document, call by call. */
public final class ExamplesTest {
    private static final Checks CHECKS = new Checks();

    public static void main(String[] args) {
        copiesASet();
        loadsWhatWasStored();
        callsAFunction();
        findsACycle();
        refusesASecondFunction();
        CHECKS.end();
    }

    private static void due(String call, long got, long want) {
        CHECKS.due(call, got, want);
    }

    private static void copiesASet() {
        PointsToSolver x = new PointsToSolver();
        due("1 append", x.append(1852143392, 1881170235, 1668247673, 544284784, 989855744), 20);
        due("1 parse(17)", x.parse(17), 2);
        due("1 pointsTo(0)", x.pointsTo(0), 1);
        due("1 pointsTo(1)", x.pointsTo(1), 1);
        due("1 roundOf(1, 0)", x.roundOf(1, 0), 2);
        due("1 explanationLength(1, 0)", x.explanationLength(1, 0), 2);
        due("1 hasEdge(0, 1)", x.hasEdge(0, 1), 1);
        due("1 dumpLength()", x.dumpLength(), 8);
    }

    private static void loadsWhatWasStored() {
        PointsToSolver x = new PointsToSolver();
        due("2 append", x.append(1852143392, 1881170235, 1852143392, 1897947707, 1937010546), 20);
        due("2 append", x.append(1696624672, 1713402171, 1819238756, 544350320, 543570688), 40);
        due("2 parse(39)", x.parse(39), 4);
        due("2 pointsTo(100)", x.pointsTo(100), 2);
        due("2 pointsTo(2)", x.pointsTo(2), 2);
        due("2 explanationSource(2, 1, 0)", x.explanationSource(2, 1, 0), 100);
        due("2 explanationVia(2, 1, 0)", x.explanationVia(2, 1, 0), 0);
        due("2 proof(2, 1)", x.proof(2, 1), 15);
    }

    private static void callsAFunction() {
        PointsToSolver x = new PointsToSolver();
        due("3 append", x.append(1852143392, 1730177083, 1718971936, 1746957600, 1966826337), 20);
        due("3 append", x.append(1819025523, 543629434, 997090679, 544874595, 989855744), 40);
        due("3 parse(37)", x.parse(37), 3);
        due("3 pointsTo(3)", x.pointsTo(3), 2);
        due("3 pointsTo(1)", x.pointsTo(1), 2);
        due("3 callTargets(1)", x.callTargets(1), 1);
        due("3 roundOf(1, 1)", x.roundOf(1, 1), 2);
        due("3 edgeCount()", x.edgeCount(), 2);
    }

    private static void findsACycle() {
        PointsToSolver x = new PointsToSolver();
        due("4 append", x.append(1668247673, 543236194, 996372336, 2032165408, 1631284837), 20);
        due("4 append", x.append(1998610720, 1866137600, 0, 0, 0), 40);
        due("4 parse(26)", x.parse(26), 3);
        due("4 componentSize(0)", x.componentSize(0), 2);
        due("4 representative(1)", x.representative(1), 0);
        due("4 derivationCount(0, 0)", x.derivationCount(0, 0), 2);
        due("4 mostInfluentialConstraint()", x.mostInfluentialConstraint(), 2);
        due("4 factCountWithout(4)", x.factCountWithout(4), 0);
    }

    private static void refusesASecondFunction() {
        PointsToSolver x = new PointsToSolver();
        due("5 append", x.append(1718971936, 1713398048, 1648060021, 1847617056, 1629512251), 20);
        due("5 parse(20)", x.parse(20), -116);
        due("5 constraintCount()", x.constraintCount(), 0);
        due("5 bufferLength()", x.bufferLength(), 0);
        due("5 pointsTo(0)", x.pointsTo(0), -1);
    }
}
