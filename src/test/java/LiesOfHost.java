import java.util.List;

/** The lies as classes of the host, so that its own rules find the bodies. */
final class LiesOfHost {
    interface Ground {
        int number();
        void began(int body);
    }

    interface Lies extends Ground {
        default int lies(int x) { began(1); return x + number(); }
    }

    interface Tells extends Ground {
        int crosses(int x);
        int undoes(int x);
        default int tells(int x) { began(2); return crosses(x) - undoes(1); }
    }

    static class Lie implements Lies, Tells {
        int n;
        List<Integer> trace;
        public int number() { return n; }
        public void began(int body) { trace.add(body); }
        public int crosses(int x) { began(10); return lies(x) * 2; }
        public int undoes(int x) { began(11); return x ^ n; }
        int kind() { return CLASSES.indexOf(getClass()); }
    }

    static class Plain extends Lie {
        public int lies(int x) { began(20); return super.lies(x) + 3; }
    }

    static class Knotted extends Lie {
        public int crosses(int x) { began(30); return -super.crosses(x); }
    }

    static class Several extends Knotted {
        public int undoes(int x) { began(40); return super.undoes(x) * 3; }
        public int crosses(int x) { began(41); return super.crosses(x + 1); }
    }

    static class Tangled extends Plain {
        public int tells(int x) { began(50); return super.tells(x) ^ 5; }
    }

    static class Unreadable extends Lie {
        public int undoes(int x) { began(60); return super.undoes(x) - lies(2); }
    }

    static class Eared extends Lie {
        public int lies(int x) { began(70); return super.lies(x) * 2; }
    }

    static class Tight extends Knotted {
        public int crosses(int x) { began(80); return super.crosses(x) + undoes(2); }
        public int tells(int x) { began(81); return super.tells(x) - 1; }
    }

    static final List<Class<? extends Lie>> CLASSES = List.of(Lie.class, Plain.class, Knotted.class, Several.class,
        Tangled.class, Unreadable.class, Eared.class, Tight.class);

    static Lie make(int kind, int n, List<Integer> trace) {
        Lie lie = switch (kind) {
            case 0 -> new Lie();
            case 1 -> new Plain();
            case 2 -> new Knotted();
            case 3 -> new Several();
            case 4 -> new Tangled();
            case 5 -> new Unreadable();
            case 6 -> new Eared();
            default -> new Tight();
        };
        lie.n = n;
        lie.trace = trace;
        return lie;
    }

    private LiesOfHost() { }
}
