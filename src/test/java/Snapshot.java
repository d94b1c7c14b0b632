/** All that an object tells of its state; asking changes nothing but fault(). */
final class Snapshot {
    private Snapshot() {
    }

    static String of(TrickHouses x) {
        StringBuilder all = new StringBuilder("trace " + x.trace() + ", many");
        for (int what = 0; what < 3; what++) {
            all.append(' ').append(x.many(what));
        }
        for (int h = 0; h < 6; h++) {
            all.append("\n house");
            for (int what = 0; what < 4; what++) {
                all.append(' ').append(x.ofHouse(h, what));
            }
            all.append(" kinds ").append(x.kinds(h));
        }
        for (int g = 0; g < 5; g++) {
            all.append("\n guest ").append(x.gear(g));
            all.append(" had ").append(x.had(g, 0)).append(' ').append(x.had(g, 1));
        }
        for (int k = 0; k < 4; k++) {
            all.append("\n sheet ").append(rowOf(x, k));
        }
        return all.toString();
    }

    private static String rowOf(TrickHouses x, int k) {
        for (int lane = 0; lane < 3; lane++) {
            x.cell(k, 0, lane);
            if (x.fault() == 1) {
                return "nothing";
            }
            if (x.fault() != 2) {
                return "lane " + lane + cellsOf(x, k, lane);
            }
        }
        return "of no lane";
    }

    private static String cellsOf(TrickHouses x, int k, int lane) {
        StringBuilder cells = new StringBuilder();
        for (int p = 0; p < 60; p++) {
            long v = x.cell(k, p, lane);
            if (v == TrickHouses.LOST) {
                break;
            }
            cells.append(' ').append(v);
        }
        return cells.toString();
    }
}
