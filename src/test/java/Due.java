/** Roots of flakes, nonces and hashes as the document writes them, for lists of up to four flakes. */
final class Due {
    private Due() {
    }

    static int combined(int a, int b) {
        return (31 * a + 17 * b + 7) % 997;
    }

    static int root(int... flakes) {
        switch (flakes.length) {
            case 0:
                return 0;
            case 1:
                return flakes[0];
            case 2:
                return combined(flakes[0], flakes[1]);
            case 3:
                return combined(combined(flakes[0], flakes[1]), combined(flakes[2], flakes[2]));
            default:
                return combined(combined(flakes[0], flakes[1]), combined(flakes[2], flakes[3]));
        }
    }

    static int hash(int parentHash, int root, int writer, int nonce) {
        return (61 * parentHash + 29 * root + 13 * writer + nonce) % 9973;
    }

    static int nonce(int parentHash, int root, int writer) {
        int nonce = 0;
        while (hash(parentHash, root, writer, nonce) % 4 != 0) {
            nonce++;
        }
        return nonce;
    }

    /** The hash that a block gets when it is added. */
    static int hash(int parentHash, int root, int writer) {
        return hash(parentHash, root, writer, nonce(parentHash, root, writer));
    }
}
