import java.util.List;

/** The acts as the document writes them: classes under one another, with Java's own super. */
class PlainActs {
    int number;
    int friends;
    List<Integer> trace;

    static PlainActs of(int kind) {
        switch (kind) {
            case 1: return new Greedy();
            case 2: return new Ahead();
            case 3: return new Friend();
            case 4: return new Best();
            case 5: return new Told();
            case 6: return new Kind();
            default: return new PlainActs();
        }
    }

    int picks(int x) {
        trace.add(1);
        return x + number;
    }

    int wants(int x) {
        trace.add(2);
        return picks(x) - friends;
    }

    int leaves(int x) {
        trace.add(3);
        return wants(x) * 2;
    }

    static class Greedy extends PlainActs {
        @Override int picks(int x) {
            trace.add(11);
            return super.picks(x * 3);
        }
    }

    static class Ahead extends PlainActs {
        @Override int wants(int x) {
            trace.add(21);
            return -super.wants(x);
        }
    }

    static class Told extends PlainActs {
        @Override int leaves(int x) {
            trace.add(31);
            return super.leaves(x) ^ 7;
        }
    }

    static class Friend extends Greedy {
        @Override int leaves(int x) {
            trace.add(41);
            return super.leaves(x - 1) + picks(2);
        }
    }

    static class Best extends Ahead {
        @Override int picks(int x) {
            trace.add(51);
            return super.picks(x) ^ number;
        }
    }

    static class Kind extends Greedy {
        @Override int wants(int x) {
            trace.add(61);
            return super.wants(x) + friends;
        }
    }
}
