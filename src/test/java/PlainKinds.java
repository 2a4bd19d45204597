import java.util.List;

/** The KINDS of the terms' part 5 as classes of Java itself, so that Java says whose body runs. */
final class PlainKinds {
    private PlainKinds() {
    }

    interface Keeps {
        List<Integer> ran();

        int n();

        default int keeps(int x) {
            ran().add(1);
            return x + n();
        }
    }

    interface Tells {
        List<Integer> ran();

        int stings(int x);

        int grows(int x);

        default int tells(int x) {
            ran().add(2);
            return stings(x) - grows(1);
        }
    }

    static class Swarm implements Keeps, Tells {
        private final int n;
        private final List<Integer> ran;

        Swarm(int n, List<Integer> ran) {
            this.n = n;
            this.ran = ran;
        }

        @Override
        public List<Integer> ran() {
            return ran;
        }

        @Override
        public int n() {
            return n;
        }

        @Override
        public int stings(int x) {
            ran.add(10);
            return keeps(x) * 2;
        }

        @Override
        public int grows(int x) {
            ran.add(11);
            return x ^ n;
        }
    }

    static class Lamb extends Swarm {
        Lamb(int n, List<Integer> ran) {
            super(n, ran);
        }

        @Override
        public int keeps(int x) {
            ran().add(20);
            return super.keeps(x) + 3;
        }
    }

    static class Veil extends Swarm {
        Veil(int n, List<Integer> ran) {
            super(n, ran);
        }

        @Override
        public int stings(int x) {
            ran().add(30);
            return -super.stings(x);
        }
    }

    static class Slate extends Veil {
        Slate(int n, List<Integer> ran) {
            super(n, ran);
        }

        @Override
        public int grows(int x) {
            ran().add(40);
            return super.grows(x) * 3;
        }

        @Override
        public int stings(int x) {
            ran().add(41);
            return super.stings(x + 1);
        }
    }

    static class Heifer extends Lamb {
        Heifer(int n, List<Integer> ran) {
            super(n, ran);
        }

        @Override
        public int tells(int x) {
            ran().add(50);
            return super.tells(x) ^ 5;
        }
    }

    static class Tinker extends Slate {
        Tinker(int n, List<Integer> ran) {
            super(n, ran);
        }

        @Override
        public int grows(int x) {
            ran().add(60);
            return super.grows(x) - keeps(2);
        }

        @Override
        public int tells(int x) {
            ran().add(61);
            return super.tells(x) + 1;
        }
    }

    static class Frost extends Swarm {
        Frost(int n, List<Integer> ran) {
            super(n, ran);
        }

        @Override
        public int keeps(int x) {
            ran().add(70);
            return super.keeps(x) * 2;
        }
    }

    static class Tar extends Frost {
        Tar(int n, List<Integer> ran) {
            super(n, ran);
        }

        @Override
        public int stings(int x) {
            ran().add(80);
            return super.stings(x) + grows(2);
        }

        @Override
        public int keeps(int x) {
            ran().add(81);
            return super.keeps(x) - 1;
        }
    }

    static Swarm make(int kind, int n, List<Integer> ran) {
        return switch (kind) {
            case 0 -> new Swarm(n, ran);
            case 1 -> new Lamb(n, ran);
            case 2 -> new Veil(n, ran);
            case 3 -> new Slate(n, ran);
            case 4 -> new Heifer(n, ran);
            case 5 -> new Tinker(n, ran);
            case 6 -> new Frost(n, ran);
            default -> new Tar(n, ran);
        };
    }

    static int kindOf(Swarm body) {
        List<Class<? extends Swarm>> kinds = List.of(Swarm.class, Lamb.class, Veil.class, Slate.class, Heifer.class,
            Tinker.class, Frost.class, Tar.class);
        return kinds.indexOf(body.getClass());
    }

    static boolean isUnder(Swarm body, int kind) {
        return switch (kind) {
            case 0 -> body instanceof Swarm;
            case 1 -> body instanceof Lamb;
            case 2 -> body instanceof Veil;
            case 3 -> body instanceof Slate;
            case 4 -> body instanceof Heifer;
            case 5 -> body instanceof Tinker;
            case 6 -> body instanceof Frost;
            default -> body instanceof Tar;
        };
    }
}
