import java.util.List;

/** LOTS as Java's own classes, so that Java says which body runs. */
final class PlainLots {
    static final List<Class<?>> CLASSES = List.of(Lot.class, Spoon.class, Grief.class, Piano.class,
            Orphan.class, Duke.class, Thief.class, Cloth.class);

    private PlainLots() {
    }

    static Lot make(int kind, int n, List<Integer> trace) {
        Lot lot = kind == 0 ? new Lot() : kind == 1 ? new Spoon() : kind == 2 ? new Grief()
                : kind == 3 ? new Piano() : kind == 4 ? new Orphan() : kind == 5 ? new Duke()
                : kind == 6 ? new Thief() : new Cloth();
        lot.n = n;
        lot.trace = trace;
        return lot;
    }

    interface Bids {
        int number();

        void began(int body);

        default int bids(int x) {
            began(1);
            return x + number();
        }
    }

    interface Tells {
        void began(int body);

        int misses(int x);

        int loses(int x);

        default int tells(int x) {
            began(2);
            return misses(x) - loses(1);
        }
    }

    static class Lot implements Bids, Tells {
        int n;
        List<Integer> trace;

        public int number() {
            return n;
        }

        public void began(int body) {
            trace.add(body);
        }

        public int misses(int x) {
            began(10);
            return bids(x) * 2;
        }

        public int loses(int x) {
            began(11);
            return x ^ n;
        }
    }

    static class Spoon extends Lot {
        public int bids(int x) {
            began(20);
            return super.bids(x) + 3;
        }
    }

    static class Grief extends Lot {
        public int misses(int x) {
            began(30);
            return -super.misses(x);
        }
    }

    static class Piano extends Grief {
        public int loses(int x) {
            began(40);
            return super.loses(x) * 3;
        }

        public int misses(int x) {
            began(41);
            return super.misses(x + 1);
        }
    }

    static class Orphan extends Spoon {
        public int loses(int x) {
            began(50);
            return super.loses(x) - bids(2);
        }
    }

    static class Duke extends Piano {
        public int tells(int x) {
            began(60);
            return super.tells(x) ^ 5;
        }
    }

    static class Thief extends Lot {
        public int bids(int x) {
            began(70);
            return super.bids(x) * 2;
        }
    }

    static class Cloth extends Orphan {
        public int misses(int x) {
            began(80);
            return super.misses(x) + loses(2);
        }

        public int tells(int x) {
            began(81);
            return super.tells(x) - 1;
        }
    }
}
