/** A fraction in least terms, the lower number above 0; whatever does not fit a long is refused aloud. */
final class Frac implements Comparable<Frac> {
    static final Frac ZERO = new Frac(0, 1);
    final long up, low;

    private Frac(long up, long low) {
        this.up = up;
        this.low = low;
    }

    static Frac of(long up, long low) {
        long a = Math.abs(up);
        long b = Math.abs(low);
        while (b != 0) {
            long rest = a % b;
            a = b;
            b = rest;
        }
        long common = low < 0 ? -a : a;
        return new Frac(up / common, low / common);
    }

    Frac plus(Frac f) {
        return of(Math.addExact(Math.multiplyExact(up, f.low), Math.multiplyExact(f.up, low)),
            Math.multiplyExact(low, f.low));
    }

    Frac minus(Frac f) {
        return plus(new Frac(-f.up, f.low));
    }

    Frac times(Frac f) {
        return of(Math.multiplyExact(up, f.up), Math.multiplyExact(low, f.low));
    }

    Frac over(Frac f) {
        return of(Math.multiplyExact(up, f.low), Math.multiplyExact(low, f.up));
    }

    int sign() {
        return Long.signum(up);
    }

    @Override
    public int compareTo(Frac f) {
        return Long.compare(Math.multiplyExact(up, f.low), Math.multiplyExact(f.up, low));
    }
}
