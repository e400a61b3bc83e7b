import java.math.BigInteger;

/** Promise 26: BOAT. */
public final class Promise26BoatTest {
    public static void main(String[] args) {
        Kit.run(Promise26BoatTest.class);
    }

    private static void is(int n, int k, int q, long above, long below) {
        IdeaMousers x = new IdeaMousers();
        Kit.due("boat(" + n + ", " + k + ", " + q + ", 0)", x.boat(n, k, q, 0), above);
        Kit.due("boat(" + n + ", " + k + ", " + q + ", 1)", x.boat(n, k, q, 1), below);
    }

    static void planksAre0To12() {
        Kit.illegal("-1", x -> x.boat(-1, 0, 0, 0));
        Kit.illegal("13", x -> x.boat(13, 0, 0, 0));
        Kit.illegal("wild", x -> x.boat(Integer.MAX_VALUE, 0, 0, 0));
        is(0, 0, 5, 1, 1);
        is(12, 12, 1, 129746337890625L, 281474976710656L);
    }

    static void kIs0To13() {
        Kit.illegal("-1", x -> x.boat(0, -1, 0, 0));
        Kit.illegal("14", x -> x.boat(12, 14, 0, 0));
        Kit.illegal("wild", x -> x.boat(0, Integer.MIN_VALUE, 0, 0));
        is(12, 13, 0, 0, 1);
        is(12, 0, 9, 1, 1);
    }

    static void qIs0To16() {
        Kit.illegal("-1", x -> x.boat(0, 0, -1, 0));
        Kit.illegal("17", x -> x.boat(0, 0, 17, 0));
        Kit.illegal("wild", x -> x.boat(0, 0, Integer.MAX_VALUE, 0));
        is(5, 5, 0, 1, 1);
        is(5, 0, 16, 1, 1);
        is(5, 1, 16, 0, 1);
    }

    static void anotherPartIsRefused() {
        Kit.illegal("-1", x -> x.boat(0, 0, 0, -1));
        Kit.illegal("2", x -> x.boat(12, 13, 16, 2));
        Kit.illegal("wild", x -> x.boat(0, 0, 0, Integer.MIN_VALUE));
    }

    static void kAboveNIs0By1() {
        for (int n = 0; n <= 12; n++) {
            is(n, n + 1, 0, 0, 1);
            is(n, 13, 7, 0, 1);
        }
    }

    static void k0IsSure() {
        for (int n = 0; n <= 12; n++) {
            is(n, 0, n, 1, 1);
        }
    }

    static void inLeastTerms() {
        is(2, 1, 8, 3, 4);
        is(3, 2, 8, 1, 2);
        is(2, 2, 4, 9, 16);
        is(2, 1, 4, 15, 16);
        is(12, 12, 15, 1, 281474976710656L);
    }

    static void allAsTheSumTells() {
        for (int n = 0; n <= 12; n++) {
            for (int k = 0; k <= 13; k++) {
                for (int q = 0; q <= 16; q++) {
                    BigInteger above = BigInteger.ZERO;
                    BigInteger choices = BigInteger.ONE;
                    for (int left = 0; left <= n; left++) {
                        if (left >= k) {
                            above = above.add(choices.multiply(BigInteger.valueOf(16 - q).pow(left))
                                .multiply(BigInteger.valueOf(q).pow(n - left)));
                        }
                        choices = choices.multiply(BigInteger.valueOf(n - left)).divide(BigInteger.valueOf(left + 1));
                    }
                    BigInteger below = BigInteger.valueOf(16).pow(n);
                    BigInteger common = below.gcd(above);
                    is(n, k, q, above.divide(common).longValueExact(), below.divide(common).longValueExact());
                }
            }
        }
    }

    static void asksOnly() {
        Kit.asksOnly("boat(2, 1, 8, 0)", x -> x.boat(2, 1, 8, 0));
        Kit.asksOnly("boat(12, 3, 5, 1)", x -> x.boat(12, 3, 5, 1));
    }
}
