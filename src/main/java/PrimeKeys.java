import java.util.Arrays;
import java.util.NoSuchElementException;

/**
 * Keys on the curve P-256: secrets that two sides agree on, and signatures by ECDSA with SHA-256
 * whose nonces come out of the message itself (RFC 6979).
 */
public final class PrimeKeys {
    private static final int TAPE_LIMIT = 65536;
    private static final int TAPE_START = 1024;
    private static final int FEED_BYTES = 20;
    private static final int KEY_LIMIT = 100;
    private static final int NUMBER_BYTES = 32;
    private static final int PUBLIC_BYTES = 65;
    private static final int UNCOMPRESSED = 4;
    private static final int X_AT = 1;
    private static final int Y_AT = X_AT + NUMBER_BYTES;

    private static final int GOOD = 0;
    private static final int NO_SIGNATURE = 1;
    private static final int OUT_OF_RANGE = 2;
    private static final int NO_PUBLIC_KEY = 3;
    private static final int NOT_GOOD = 4;
    private static final int VERDICTS = 5;

    private byte[] tape = new byte[TAPE_START];
    private int tapeLength = 0;
    private final byte[][] secrets = new byte[KEY_LIMIT][NUMBER_BYTES];
    private int keyCount = 0;
    // Signing and verifying read the message through its digest alone, so its bytes are not kept.
    private final byte[] messageDigest = new byte[NUMBER_BYTES];
    private int messageLength = 0;
    private final byte[] resultRow = new byte[Signature.LONGEST];
    private int resultLength = 0;
    private int signaturesMade = 0;
    private final int[] verdictCounts = new int[VERDICTS];

    private final Sha256 hash = new Sha256();
    private final Curve curve = new Curve();
    private final Signer signer = new Signer();
    private final Signature signature = new Signature();
    private final Point point = new Point();
    private final long[] x = new long[Limbs.COUNT];
    private final long[] y = new long[Limbs.COUNT];

    public PrimeKeys() {
        hash.digest(tape, tapeLength, messageDigest);
    }

    public int feed(int a, int b, int c, int d, int e) throws IllegalStateException {
        if (tapeLength + FEED_BYTES > TAPE_LIMIT) {
            throw new IllegalStateException();
        }
        makeRoom(FEED_BYTES);
        Words.put(a, tape, tapeLength);
        Words.put(b, tape, tapeLength + 4);
        Words.put(c, tape, tapeLength + 8);
        Words.put(d, tape, tapeLength + 12);
        Words.put(e, tape, tapeLength + 16);
        tapeLength += FEED_BYTES;
        return tapeLength;
    }

    public int end(int n) throws IllegalArgumentException {
        if (n < 0 || n > tapeLength) {
            throw new IllegalArgumentException();
        }
        tapeLength = n;
        return n;
    }

    public int key() throws IllegalArgumentException, IllegalStateException {
        if (tapeLength != NUMBER_BYTES || !signer.isInRange(tape, 0)) {
            throw new IllegalArgumentException();
        }
        if (keyCount >= KEY_LIMIT) {
            throw new IllegalStateException();
        }
        int number = keyCount;
        System.arraycopy(tape, 0, secrets[number], 0, NUMBER_BYTES);
        keyCount++;
        tapeLength = 0;
        return number;
    }

    public void open(int key) throws NoSuchElementException {
        if (!isKey(key)) {
            throw new NoSuchElementException();
        }
        curve.sumOfTimes(secrets[key], curve.none, point);
        curve.readAffine(point, x, y);
        resultRow[0] = UNCOMPRESSED;
        Limbs.write(x, resultRow, X_AT);
        Limbs.write(y, resultRow, Y_AT);
        resultLength = PUBLIC_BYTES;
    }

    public void agree(int key) throws NoSuchElementException, IllegalArgumentException {
        if (!isKey(key)) {
            throw new NoSuchElementException();
        }
        if (tapeLength != PUBLIC_BYTES || !curve.takesOther(tape)) {
            throw new IllegalArgumentException();
        }
        curve.sumOfTimes(curve.none, secrets[key], point);
        curve.readAffine(point, x, y);
        Limbs.write(x, resultRow, 0);
        resultLength = NUMBER_BYTES;
        tapeLength = 0;
    }

    public int message() {
        hash.digest(tape, tapeLength, messageDigest);
        messageLength = tapeLength;
        tapeLength = 0;
        return messageLength;
    }

    public int sign(int key) throws NoSuchElementException {
        if (!isKey(key)) {
            throw new NoSuchElementException();
        }
        signer.makeSignature(curve, secrets[key], messageDigest, signature);
        resultLength = signature.write(resultRow);
        signaturesMade++;
        return resultLength;
    }

    public int verify() throws IllegalArgumentException {
        if (tapeLength < PUBLIC_BYTES) {
            throw new IllegalArgumentException();
        }
        int verdict;
        if (!signature.read(tape, PUBLIC_BYTES, tapeLength)) {
            verdict = NO_SIGNATURE;
        } else if (!signer.isInRange(signature)) {
            verdict = OUT_OF_RANGE;
        } else if (!curve.takesOther(tape)) {
            verdict = NO_PUBLIC_KEY;
        } else {
            verdict = signer.isGood(curve, signature, messageDigest) ? GOOD : NOT_GOOD;
        }
        verdictCounts[verdict]++;
        tapeLength = 0;
        return verdict;
    }

    public int back(int at, int with) throws IndexOutOfBoundsException, IllegalStateException {
        if (at < -1 || at >= resultLength) {
            throw new IndexOutOfBoundsException();
        }
        if (tapeLength + resultLength > TAPE_LIMIT) {
            throw new IllegalStateException();
        }
        makeRoom(resultLength);
        System.arraycopy(resultRow, 0, tape, tapeLength, resultLength);
        if (at >= 0) {
            tape[tapeLength + at] = (byte) (resultRow[at] ^ with);
        }
        tapeLength += resultLength;
        return tapeLength;
    }

    public int result(int i) throws IndexOutOfBoundsException {
        if (i < 0 || i >= resultLength) {
            throw new IndexOutOfBoundsException();
        }
        return resultRow[i] & 255;
    }

    public int count(int what) {
        switch (what) {
            case 0:
                return tapeLength;
            case 1:
                return keyCount;
            case 2:
                return messageLength;
            case 3:
                return resultLength;
            case 4:
                return signaturesMade;
            case 5:
            case 6:
            case 7:
            case 8:
            case 9:
                return verdictCounts[what - 5];
            default:
                return -1;
        }
    }

    private boolean isKey(int key) {
        return key >= 0 && key < keyCount;
    }

    // The tape grows by doubling, so that an object that is fed little stays small.
    private void makeRoom(int more) {
        int size = tape.length;
        while (size < tapeLength + more && size < TAPE_LIMIT) {
            size *= 2;
        }
        if (size > tape.length) {
            tape = Arrays.copyOf(tape, size);
        }
    }

    /** Numbers of 32 bits as four bytes, the highest first. */
    private static final class Words {
        static void put(int word, byte[] to, int at) {
            to[at] = (byte) (word >>> 24);
            to[at + 1] = (byte) (word >>> 16);
            to[at + 2] = (byte) (word >>> 8);
            to[at + 3] = (byte) word;
        }
    }

    /** SHA-256 (FIPS 180-4). */
    private static final class Sha256 {
        private static final int BLOCK_BYTES = 64;
        private static final int LENGTH_AT = 56;
        private static final int STATE_WORDS = 8;
        private static final int ROUNDS = 64;
        private static final int[] START = {
            0x6a09e667, 0xbb67ae85, 0x3c6ef372, 0xa54ff53a, 0x510e527f, 0x9b05688c, 0x1f83d9ab, 0x5be0cd19
        };
        private static final int[] ROUND = {
            0x428a2f98, 0x71374491, 0xb5c0fbcf, 0xe9b5dba5, 0x3956c25b, 0x59f111f1, 0x923f82a4, 0xab1c5ed5,
            0xd807aa98, 0x12835b01, 0x243185be, 0x550c7dc3, 0x72be5d74, 0x80deb1fe, 0x9bdc06a7, 0xc19bf174,
            0xe49b69c1, 0xefbe4786, 0x0fc19dc6, 0x240ca1cc, 0x2de92c6f, 0x4a7484aa, 0x5cb0a9dc, 0x76f988da,
            0x983e5152, 0xa831c66d, 0xb00327c8, 0xbf597fc7, 0xc6e00bf3, 0xd5a79147, 0x06ca6351, 0x14292967,
            0x27b70a85, 0x2e1b2138, 0x4d2c6dfc, 0x53380d13, 0x650a7354, 0x766a0abb, 0x81c2c92e, 0x92722c85,
            0xa2bfe8a1, 0xa81a664b, 0xc24b8b70, 0xc76c51a3, 0xd192e819, 0xd6990624, 0xf40e3585, 0x106aa070,
            0x19a4c116, 0x1e376c08, 0x2748774c, 0x34b0bcb5, 0x391c0cb3, 0x4ed8aa4a, 0x5b9cca4f, 0x682e6ff3,
            0x748f82ee, 0x78a5636f, 0x84c87814, 0x8cc70208, 0x90befffa, 0xa4506ceb, 0xbef9a3f7, 0xc67178f2
        };

        private final int[] state = new int[STATE_WORDS];
        private final int[] schedule = new int[ROUNDS];
        private final byte[] block = new byte[BLOCK_BYTES];
        private int used = 0;
        private int total = 0;

        void digest(byte[] row, int length, byte[] to) {
            begin();
            take(row, length);
            finish(to);
        }

        void begin() {
            System.arraycopy(START, 0, state, 0, STATE_WORDS);
            used = 0;
            total = 0;
        }

        void take(byte[] row, int length) {
            for (int i = 0; i < length; i++) {
                block[used] = row[i];
                used++;
                if (used == BLOCK_BYTES) {
                    mixBlock();
                }
            }
            total += length;
        }

        void finish(byte[] to) {
            block[used] = (byte) 128;
            used++;
            if (used > LENGTH_AT) {
                clearRestOfBlock();
                mixBlock();
            }
            clearRestOfBlock();
            // The longest row here has fewer than 2^17 bytes, so the length's high word stays 0.
            Words.put(8 * total, block, LENGTH_AT + 4);
            mixBlock();
            for (int i = 0; i < STATE_WORDS; i++) {
                Words.put(state[i], to, 4 * i);
            }
        }

        private void clearRestOfBlock() {
            for (int i = used; i < BLOCK_BYTES; i++) {
                block[i] = 0;
            }
        }

        private void mixBlock() {
            fillSchedule();
            int a = state[0];
            int b = state[1];
            int c = state[2];
            int d = state[3];
            int e = state[4];
            int f = state[5];
            int g = state[6];
            int h = state[7];
            for (int i = 0; i < ROUNDS; i++) {
                int sumE = (e >>> 6 | e << 26) ^ (e >>> 11 | e << 21) ^ (e >>> 25 | e << 7);
                int sumA = (a >>> 2 | a << 30) ^ (a >>> 13 | a << 19) ^ (a >>> 22 | a << 10);
                int first = h + sumE + (e & f ^ ~e & g) + ROUND[i] + schedule[i];
                int second = sumA + (a & b ^ a & c ^ b & c);
                h = g;
                g = f;
                f = e;
                e = d + first;
                d = c;
                c = b;
                b = a;
                a = first + second;
            }
            state[0] += a;
            state[1] += b;
            state[2] += c;
            state[3] += d;
            state[4] += e;
            state[5] += f;
            state[6] += g;
            state[7] += h;
            used = 0;
        }

        private void fillSchedule() {
            for (int i = 0; i < 16; i++) {
                int at = 4 * i;
                schedule[i] = block[at] << 24 | (block[at + 1] & 255) << 16 | (block[at + 2] & 255) << 8
                        | block[at + 3] & 255;
            }
            for (int i = 16; i < ROUNDS; i++) {
                int old = schedule[i - 15];
                int young = schedule[i - 2];
                int low = (old >>> 7 | old << 25) ^ (old >>> 18 | old << 14) ^ old >>> 3;
                int high = (young >>> 17 | young << 15) ^ (young >>> 19 | young << 13) ^ young >>> 10;
                schedule[i] = high + schedule[i - 7] + low + schedule[i - 16];
            }
        }
    }

    /** The candidates for a nonce, one after the other (RFC 6979, 3.2, with HMAC of SHA-256). */
    private static final class Nonces {
        private static final int PAD_BYTES = 64;
        private static final int TAG_AT = NUMBER_BYTES;
        private static final int SECRET_AT = TAG_AT + 1;
        private static final int DIGEST_AT = SECRET_AT + NUMBER_BYTES;
        private static final int SEED_BYTES = DIGEST_AT + NUMBER_BYTES;

        private final Sha256 hash = new Sha256();
        private final byte[] macKey = new byte[NUMBER_BYTES];
        private final byte[] value = new byte[NUMBER_BYTES];
        private final byte[] seed = new byte[SEED_BYTES];
        private final byte[] pad = new byte[PAD_BYTES];
        private final byte[] inner = new byte[NUMBER_BYTES];

        // The digest comes here reduced by the order, as bits2octets of the RFC asks.
        void begin(byte[] secret, byte[] reducedDigest) {
            Arrays.fill(value, (byte) 1);
            Arrays.fill(macKey, (byte) 0);
            System.arraycopy(secret, 0, seed, SECRET_AT, NUMBER_BYTES);
            System.arraycopy(reducedDigest, 0, seed, DIGEST_AT, NUMBER_BYTES);
            renew((byte) 0, SEED_BYTES);
            renew((byte) 1, SEED_BYTES);
        }

        void writeNext(byte[] to) {
            mac(value, NUMBER_BYTES, value);
            System.arraycopy(value, 0, to, 0, NUMBER_BYTES);
        }

        void refuse() {
            renew((byte) 0, SECRET_AT);
        }

        private void renew(byte tag, int length) {
            System.arraycopy(value, 0, seed, 0, NUMBER_BYTES);
            seed[TAG_AT] = tag;
            mac(seed, length, macKey);
            mac(value, NUMBER_BYTES, value);
        }

        private void mac(byte[] row, int length, byte[] to) {
            fillPad(0x36);
            hash.begin();
            hash.take(pad, PAD_BYTES);
            hash.take(row, length);
            hash.finish(inner);
            fillPad(0x5c);
            hash.begin();
            hash.take(pad, PAD_BYTES);
            hash.take(inner, NUMBER_BYTES);
            hash.finish(to);
        }

        private void fillPad(int mask) {
            Arrays.fill(pad, (byte) mask);
            for (int i = 0; i < NUMBER_BYTES; i++) {
                pad[i] = (byte) (macKey[i] ^ mask);
            }
        }
    }

    /** Numbers below 2^261 as limbs of 29 bits, the lowest first. */
    private static final class Limbs {
        static final int COUNT = 9;
        static final int BITS = 29;
        static final long MASK = (1L << BITS) - 1;

        static void read(byte[] row, int at, long[] to) {
            Arrays.fill(to, 0);
            for (int i = 0; i < NUMBER_BYTES; i++) {
                long part = row[at + NUMBER_BYTES - 1 - i] & 255;
                int limb = 8 * i / BITS;
                int shift = 8 * i % BITS;
                to[limb] |= part << shift & MASK;
                if (shift + 8 > BITS) {
                    to[limb + 1] |= part >> BITS - shift;
                }
            }
        }

        static void write(long[] from, byte[] to, int at) {
            for (int i = 0; i < NUMBER_BYTES; i++) {
                int limb = 8 * i / BITS;
                int shift = 8 * i % BITS;
                long part = from[limb] >> shift;
                if (shift + 8 > BITS) {
                    part |= from[limb + 1] << BITS - shift;
                }
                to[at + NUMBER_BYTES - 1 - i] = (byte) part;
            }
        }

        // Words of 32 bits, the highest first: the form in which the standard prints its constants.
        static void readWords(int[] words, long[] to) {
            byte[] row = new byte[NUMBER_BYTES];
            for (int i = 0; i < words.length; i++) {
                Words.put(words[i], row, 4 * i);
            }
            read(row, 0, to);
        }

        static boolean areZero(long[] a) {
            long any = 0;
            for (int i = 0; i < COUNT; i++) {
                any |= a[i];
            }
            return any == 0;
        }

        static boolean areSame(long[] a, long[] b) {
            long any = 0;
            for (int i = 0; i < COUNT; i++) {
                any |= a[i] ^ b[i];
            }
            return any == 0;
        }

        static void copy(long[] from, long[] to) {
            System.arraycopy(from, 0, to, 0, COUNT);
        }
    }

    /**
     * Arithmetic modulo a prime of 256 bits. All numbers taken and given are below the prime. Products
     * are Montgomery's: multiply answers a * b / 2^261, so what is multiplied stands in Montgomery's
     * form, which is the number times 2^261. A row may be both argument and answer of a call.
     */
    private static final class Modulus {
        private static final int TOP = Limbs.COUNT - 1;

        private final long[] prime = new long[Limbs.COUNT];
        private final long[] exponent = new long[Limbs.COUNT];
        private final long[] plainOne = new long[Limbs.COUNT];
        private final long[] one = new long[Limbs.COUNT];
        private final long[] toForm = new long[Limbs.COUNT];
        private final long lowInverse;
        private final long[] wide = new long[2 * Limbs.COUNT - 1];
        private final long[] spare = new long[Limbs.COUNT];
        private final long[] power = new long[Limbs.COUNT];

        Modulus(int[] primeWords) {
            Limbs.readWords(primeWords, prime);
            Limbs.copy(prime, exponent);
            exponent[0] -= 2;
            plainOne[0] = 1;
            Limbs.copy(plainOne, one);
            for (int i = 0; i < Limbs.COUNT * Limbs.BITS; i++) {
                add(one, one, one);
            }
            Limbs.copy(one, toForm);
            for (int i = 0; i < Limbs.COUNT * Limbs.BITS; i++) {
                add(toForm, toForm, toForm);
            }
            // Newton's step doubles the number of right low bits: 1, 2, 4, 8, 16, 32.
            long inverse = 1;
            for (int i = 0; i < 5; i++) {
                inverse *= 2 - prime[0] * inverse;
            }
            lowInverse = -inverse & Limbs.MASK;
        }

        void copyOne(long[] to) {
            Limbs.copy(one, to);
        }

        void enterForm(long[] a, long[] to) {
            multiply(a, toForm, to);
        }

        void leaveForm(long[] a, long[] to) {
            multiply(a, plainOne, to);
        }

        boolean isAbove(long[] a) {
            return lessPrime(a) < 0;
        }

        // For numbers below twice the prime, as all of 256 bits are. The highest limb is looked at first
        // because it nearly always tells a product to be below the prime.
        void reduceOnce(long[] a) {
            if (a[TOP] >= prime[TOP] && lessPrime(a) >= 0) {
                System.arraycopy(spare, 0, a, 0, Limbs.COUNT);
            }
        }

        void add(long[] a, long[] b, long[] to) {
            long carry = 0;
            for (int i = 0; i < Limbs.COUNT; i++) {
                carry += a[i] + b[i];
                to[i] = carry & Limbs.MASK;
                carry >>= Limbs.BITS;
            }
            reduceOnce(to);
        }

        void subtract(long[] a, long[] b, long[] to) {
            long carry = 0;
            for (int i = 0; i < Limbs.COUNT; i++) {
                carry += a[i] - b[i];
                to[i] = carry & Limbs.MASK;
                carry >>= Limbs.BITS;
            }
            if (carry < 0) {
                addPrime(to);
            }
        }

        void multiply(long[] a, long[] b, long[] to) {
            fillWide(a, b);
            foldWide(to);
            reduceOnce(to);
        }

        // By Fermat: the power with exponent prime - 2. The inverse of 0 comes out as 0.
        void invert(long[] a, long[] to) {
            Limbs.copy(one, power);
            for (int i = 8 * NUMBER_BYTES - 1; i >= 0; i--) {
                multiply(power, power, power);
                if ((exponent[i / Limbs.BITS] >> i % Limbs.BITS & 1) == 1) {
                    multiply(power, a, power);
                }
            }
            Limbs.copy(power, to);
        }

        // Leaves a - prime in the spare row; the answer is below 0 if a is below the prime.
        private long lessPrime(long[] a) {
            long carry = 0;
            for (int i = 0; i < Limbs.COUNT; i++) {
                carry += a[i] - prime[i];
                spare[i] = carry & Limbs.MASK;
                carry >>= Limbs.BITS;
            }
            return carry;
        }

        private void addPrime(long[] to) {
            long carry = 0;
            for (int i = 0; i < Limbs.COUNT; i++) {
                carry += to[i] + prime[i];
                to[i] = carry & Limbs.MASK;
                carry >>= Limbs.BITS;
            }
        }

        // Written out by columns, since this is where nearly all of the time goes. A column stays
        // below 9 * 2^58, and foldWide adds as much again: together below 2^63.
        private void fillWide(long[] a, long[] b) {
            long a0 = a[0];
            long a1 = a[1];
            long a2 = a[2];
            long a3 = a[3];
            long a4 = a[4];
            long a5 = a[5];
            long a6 = a[6];
            long a7 = a[7];
            long a8 = a[8];
            long b0 = b[0];
            long b1 = b[1];
            long b2 = b[2];
            long b3 = b[3];
            long b4 = b[4];
            long b5 = b[5];
            long b6 = b[6];
            long b7 = b[7];
            long b8 = b[8];
            wide[0] = a0 * b0;
            wide[1] = a0 * b1 + a1 * b0;
            wide[2] = a0 * b2 + a1 * b1 + a2 * b0;
            wide[3] = a0 * b3 + a1 * b2 + a2 * b1 + a3 * b0;
            wide[4] = a0 * b4 + a1 * b3 + a2 * b2 + a3 * b1 + a4 * b0;
            wide[5] = a0 * b5 + a1 * b4 + a2 * b3 + a3 * b2 + a4 * b1 + a5 * b0;
            wide[6] = a0 * b6 + a1 * b5 + a2 * b4 + a3 * b3 + a4 * b2 + a5 * b1 + a6 * b0;
            wide[7] = a0 * b7 + a1 * b6 + a2 * b5 + a3 * b4 + a4 * b3 + a5 * b2 + a6 * b1 + a7 * b0;
            wide[8] = a0 * b8 + a1 * b7 + a2 * b6 + a3 * b5 + a4 * b4 + a5 * b3 + a6 * b2 + a7 * b1 + a8 * b0;
            wide[9] = a1 * b8 + a2 * b7 + a3 * b6 + a4 * b5 + a5 * b4 + a6 * b3 + a7 * b2 + a8 * b1;
            wide[10] = a2 * b8 + a3 * b7 + a4 * b6 + a5 * b5 + a6 * b4 + a7 * b3 + a8 * b2;
            wide[11] = a3 * b8 + a4 * b7 + a5 * b6 + a6 * b5 + a7 * b4 + a8 * b3;
            wide[12] = a4 * b8 + a5 * b7 + a6 * b6 + a7 * b5 + a8 * b4;
            wide[13] = a5 * b8 + a6 * b7 + a7 * b6 + a8 * b5;
            wide[14] = a6 * b8 + a7 * b7 + a8 * b6;
            wide[15] = a7 * b8 + a8 * b7;
            wide[16] = a8 * b8;
        }

        // Adds multiples of the prime until the low nine limbs are 0, and leaves the high nine: again by
        // columns, with the factors of the multiples found one after the other.
        private void foldWide(long[] to) {
            long p0 = prime[0];
            long p1 = prime[1];
            long p2 = prime[2];
            long p3 = prime[3];
            long p4 = prime[4];
            long p5 = prime[5];
            long p6 = prime[6];
            long p7 = prime[7];
            long p8 = prime[8];
            long inverse = lowInverse;
            long sum = wide[0];
            long f0 = sum * inverse & Limbs.MASK;
            sum = (sum + f0 * p0 >> Limbs.BITS) + wide[1] + f0 * p1;
            long f1 = sum * inverse & Limbs.MASK;
            sum = (sum + f1 * p0 >> Limbs.BITS) + wide[2] + f0 * p2 + f1 * p1;
            long f2 = sum * inverse & Limbs.MASK;
            sum = (sum + f2 * p0 >> Limbs.BITS) + wide[3] + f0 * p3 + f1 * p2 + f2 * p1;
            long f3 = sum * inverse & Limbs.MASK;
            sum = (sum + f3 * p0 >> Limbs.BITS) + wide[4] + f0 * p4 + f1 * p3 + f2 * p2 + f3 * p1;
            long f4 = sum * inverse & Limbs.MASK;
            sum = (sum + f4 * p0 >> Limbs.BITS) + wide[5] + f0 * p5 + f1 * p4 + f2 * p3 + f3 * p2 + f4 * p1;
            long f5 = sum * inverse & Limbs.MASK;
            sum = (sum + f5 * p0 >> Limbs.BITS) + wide[6] + f0 * p6 + f1 * p5 + f2 * p4
                    + f3 * p3 + f4 * p2 + f5 * p1;
            long f6 = sum * inverse & Limbs.MASK;
            sum = (sum + f6 * p0 >> Limbs.BITS) + wide[7] + f0 * p7 + f1 * p6 + f2 * p5
                    + f3 * p4 + f4 * p3 + f5 * p2 + f6 * p1;
            long f7 = sum * inverse & Limbs.MASK;
            sum = (sum + f7 * p0 >> Limbs.BITS) + wide[8] + f0 * p8 + f1 * p7 + f2 * p6
                    + f3 * p5 + f4 * p4 + f5 * p3 + f6 * p2 + f7 * p1;
            long f8 = sum * inverse & Limbs.MASK;
            sum = (sum + f8 * p0 >> Limbs.BITS) + wide[9] + f1 * p8 + f2 * p7 + f3 * p6 + f4 * p5
                    + f5 * p4 + f6 * p3 + f7 * p2 + f8 * p1;
            to[0] = sum & Limbs.MASK;
            sum = (sum >> Limbs.BITS) + wide[10] + f2 * p8 + f3 * p7 + f4 * p6 + f5 * p5
                    + f6 * p4 + f7 * p3 + f8 * p2;
            to[1] = sum & Limbs.MASK;
            sum = (sum >> Limbs.BITS) + wide[11] + f3 * p8 + f4 * p7 + f5 * p6 + f6 * p5 + f7 * p4 + f8 * p3;
            to[2] = sum & Limbs.MASK;
            sum = (sum >> Limbs.BITS) + wide[12] + f4 * p8 + f5 * p7 + f6 * p6 + f7 * p5 + f8 * p4;
            to[3] = sum & Limbs.MASK;
            sum = (sum >> Limbs.BITS) + wide[13] + f5 * p8 + f6 * p7 + f7 * p6 + f8 * p5;
            to[4] = sum & Limbs.MASK;
            sum = (sum >> Limbs.BITS) + wide[14] + f6 * p8 + f7 * p7 + f8 * p6;
            to[5] = sum & Limbs.MASK;
            sum = (sum >> Limbs.BITS) + wide[15] + f7 * p8 + f8 * p7;
            to[6] = sum & Limbs.MASK;
            sum = (sum >> Limbs.BITS) + wide[16] + f8 * p8;
            to[7] = sum & Limbs.MASK;
            to[8] = sum >> Limbs.BITS;
        }
    }

    /** A point in Jacobian coordinates, x / z^2 and y / z^3, in Montgomery's form; z = 0: the neutral one. */
    private static final class Point {
        final long[] x = new long[Limbs.COUNT];
        final long[] y = new long[Limbs.COUNT];
        final long[] z = new long[Limbs.COUNT];

        void setNeutral() {
            Arrays.fill(x, 0);
            Arrays.fill(y, 0);
            Arrays.fill(z, 0);
        }

        boolean isNeutral() {
            return Limbs.areZero(z);
        }

        void set(Point from) {
            Limbs.copy(from.x, x);
            Limbs.copy(from.y, y);
            Limbs.copy(from.z, z);
        }
    }

    /** The curve P-256: y^2 = x^3 - 3x + b, with its base and with one other point taken from bytes. */
    private static final class Curve {
        private static final int[] PRIME = {
            0xffffffff, 0x00000001, 0x00000000, 0x00000000, 0x00000000, 0xffffffff, 0xffffffff, 0xffffffff
        };
        private static final int[] B = {
            0x5ac635d8, 0xaa3a93e7, 0xb3ebbd55, 0x769886bc, 0x651d06b0, 0xcc53b0f6, 0x3bce3c3e, 0x27d2604b
        };
        private static final int[] BASE_X = {
            0x6b17d1f2, 0xe12c4247, 0xf8bce6e5, 0x63a440f2, 0x77037d81, 0x2deb33a0, 0xf4a13945, 0xd898c296
        };
        private static final int[] BASE_Y = {
            0x4fe342e2, 0xfe1a7f9b, 0x8ee7eb4a, 0x7c0f9e16, 0x2bce3357, 0x6b315ece, 0xcbb64068, 0x37bf51f5
        };
        private static final int DIGIT_BITS = 4;
        private static final int DIGITS = 64;
        private static final int MULTIPLES = 16;
        private static final int SCRATCH_ROWS = 5;

        final byte[] none = new byte[NUMBER_BYTES];
        private final Modulus field = new Modulus(PRIME);
        private final long[] b = new long[Limbs.COUNT];
        private final Point[] baseMultiples = new Point[MULTIPLES];
        private final Point[] otherMultiples = new Point[MULTIPLES];
        private final long[][] scratch = new long[SCRATCH_ROWS][Limbs.COUNT];

        Curve() {
            for (int i = 0; i < MULTIPLES; i++) {
                baseMultiples[i] = new Point();
                otherMultiples[i] = new Point();
            }
            Limbs.readWords(B, b);
            field.enterForm(b, b);
            Point base = baseMultiples[1];
            Limbs.readWords(BASE_X, base.x);
            Limbs.readWords(BASE_Y, base.y);
            enterForm(base);
            fillMultiples(baseMultiples);
        }

        // Reads the other point from the row's first 65 bytes; the answer is whether they are a public key.
        boolean takesOther(byte[] row) {
            Point other = otherMultiples[1];
            Limbs.read(row, X_AT, other.x);
            Limbs.read(row, Y_AT, other.y);
            if (row[0] != UNCOMPRESSED || !field.isAbove(other.x) || !field.isAbove(other.y)) {
                return false;
            }
            enterForm(other);
            if (!isOnCurve(other)) {
                return false;
            }
            fillMultiples(otherMultiples);
            return true;
        }

        // The base times one factor plus the other point times another, four bits of each at a time.
        void sumOfTimes(byte[] baseFactor, byte[] otherFactor, Point to) {
            to.setNeutral();
            for (int i = 0; i < DIGITS; i++) {
                for (int j = 0; j < DIGIT_BITS; j++) {
                    twice(to, to);
                }
                add(to, baseMultiples[digit(baseFactor, i)], to);
                add(to, otherMultiples[digit(otherFactor, i)], to);
            }
        }

        // Out of Montgomery's form too. The neutral point comes out as 0, 0.
        void readAffine(Point from, long[] x, long[] y) {
            long[] inverse = scratch[0];
            long[] square = scratch[1];
            field.invert(from.z, inverse);
            field.multiply(inverse, inverse, square);
            field.multiply(from.x, square, x);
            field.multiply(square, inverse, square);
            field.multiply(from.y, square, y);
            field.leaveForm(x, x);
            field.leaveForm(y, y);
        }

        private void enterForm(Point affine) {
            field.enterForm(affine.x, affine.x);
            field.enterForm(affine.y, affine.y);
            field.copyOne(affine.z);
        }

        private boolean isOnCurve(Point affine) {
            long[] left = scratch[0];
            long[] right = scratch[1];
            field.multiply(affine.y, affine.y, left);
            field.multiply(affine.x, affine.x, right);
            for (int i = 0; i < 3; i++) {
                field.subtract(right, affine.z, right);
            }
            field.multiply(right, affine.x, right);
            field.add(right, b, right);
            return Limbs.areSame(left, right);
        }

        private void fillMultiples(Point[] multiples) {
            for (int i = 2; i < MULTIPLES; i++) {
                if (i % 2 == 0) {
                    twice(multiples[i / 2], multiples[i]);
                } else {
                    add(multiples[i - 1], multiples[1], multiples[i]);
                }
            }
        }

        private int digit(byte[] factor, int i) {
            return i % 2 == 0 ? factor[i / 2] >> DIGIT_BITS & 15 : factor[i / 2] & 15;
        }

        // The neutral point needs no case of its own: its z stays 0.
        private void twice(Point a, Point to) {
            long[] zz = scratch[0];
            long[] yy = scratch[1];
            long[] xyy = scratch[2];
            long[] slope = scratch[3];
            long[] part = scratch[4];
            field.multiply(a.z, a.z, zz);
            field.multiply(a.y, a.y, yy);
            field.multiply(a.x, yy, xyy);
            field.subtract(a.x, zz, part);
            field.add(a.x, zz, slope);
            field.multiply(slope, part, part);
            field.add(part, part, slope);
            field.add(slope, part, slope);
            field.multiply(a.y, a.z, part);
            field.add(part, part, to.z);
            field.add(xyy, xyy, xyy);
            field.add(xyy, xyy, xyy);
            field.multiply(slope, slope, to.x);
            field.subtract(to.x, xyy, to.x);
            field.subtract(to.x, xyy, to.x);
            field.subtract(xyy, to.x, part);
            field.multiply(slope, part, part);
            field.add(yy, yy, yy);
            field.multiply(yy, yy, yy);
            field.add(yy, yy, yy);
            field.subtract(part, yy, to.y);
        }

        private void add(Point a, Point b, Point to) {
            if (b.isNeutral()) {
                to.set(a);
                return;
            }
            if (a.isNeutral()) {
                to.set(b);
                return;
            }
            long[] ax = scratch[0];
            long[] bx = scratch[1];
            long[] ay = scratch[2];
            long[] by = scratch[3];
            long[] part = scratch[4];
            field.multiply(b.z, b.z, part);
            field.multiply(a.x, part, ax);
            field.multiply(part, b.z, part);
            field.multiply(a.y, part, ay);
            field.multiply(a.z, a.z, part);
            field.multiply(b.x, part, bx);
            field.multiply(part, a.z, part);
            field.multiply(b.y, part, by);
            if (!Limbs.areSame(ax, bx)) {
                addApart(a, b, to);
            } else if (Limbs.areSame(ay, by)) {
                twice(a, to);
            } else {
                to.setNeutral();
            }
        }

        // The part of add for two points with different x; add left both points in the scratch rows,
        // brought to one z.
        private void addApart(Point a, Point b, Point to) {
            long[] ax = scratch[0];
            long[] run = scratch[1];
            long[] ay = scratch[2];
            long[] rise = scratch[3];
            long[] part = scratch[4];
            field.subtract(run, ax, run);
            field.subtract(rise, ay, rise);
            field.multiply(a.z, b.z, part);
            field.multiply(part, run, to.z);
            field.multiply(run, run, part);
            field.multiply(ax, part, ax);
            field.multiply(part, run, run);
            field.multiply(ay, run, ay);
            field.multiply(rise, rise, to.x);
            field.subtract(to.x, run, to.x);
            field.subtract(to.x, ax, to.x);
            field.subtract(to.x, ax, to.x);
            field.subtract(ax, to.x, part);
            field.multiply(rise, part, part);
            field.subtract(part, ay, to.y);
        }
    }

    /** ECDSA (FIPS 186-4) over the curve, for digests of 32 bytes. */
    private static final class Signer {
        private static final int[] ORDER = {
            0xffffffff, 0x00000000, 0xffffffff, 0xffffffff, 0xbce6faad, 0xa7179e84, 0xf3b9cac2, 0xfc632551
        };
        private static final int NONCES = 100;

        private final Modulus order = new Modulus(ORDER);
        private final Nonces nonces = new Nonces();
        private final Point point = new Point();
        private final long[] r = new long[Limbs.COUNT];
        private final long[] s = new long[Limbs.COUNT];
        private final long[] e = new long[Limbs.COUNT];
        private final long[] x = new long[Limbs.COUNT];
        private final long[] y = new long[Limbs.COUNT];
        private final long[] part = new long[Limbs.COUNT];
        private final byte[] first = new byte[NUMBER_BYTES];
        private final byte[] second = new byte[NUMBER_BYTES];

        // Whether the 32 bytes are 1 .. order - 1.
        boolean isInRange(byte[] row, int at) {
            Limbs.read(row, at, part);
            return order.isAbove(part) && !Limbs.areZero(part);
        }

        boolean isInRange(Signature signature) {
            return signature.fits() && isInRange(signature.r, 1) && isInRange(signature.s, 1);
        }

        void makeSignature(Curve curve, byte[] secret, byte[] digest, Signature to) {
            readReduced(digest);
            Limbs.write(e, first, 0);
            nonces.begin(secret, first);
            to.setZero();
            for (int i = 0; i < NONCES; i++) {
                nonces.writeNext(first);
                if (isInRange(first, 0)) {
                    curve.sumOfTimes(first, curve.none, point);
                    readReducedX(curve);
                    fillS(secret, first);
                    if (!Limbs.areZero(r) && !Limbs.areZero(s)) {
                        Limbs.write(r, to.r, 1);
                        Limbs.write(s, to.s, 1);
                        return;
                    }
                }
                nonces.refuse();
            }
        }

        // For a signature in range, by the key that the curve took as its other point.
        boolean isGood(Curve curve, Signature signature, byte[] digest) {
            readReduced(digest);
            Limbs.read(signature.s, 1, s);
            order.enterForm(s, s);
            order.invert(s, s);
            // Only one side of these products is in Montgomery's form, so they come out plain.
            order.multiply(e, s, part);
            Limbs.write(part, first, 0);
            Limbs.read(signature.r, 1, part);
            order.multiply(part, s, s);
            Limbs.write(s, second, 0);
            curve.sumOfTimes(first, second, point);
            if (point.isNeutral()) {
                return false;
            }
            readReducedX(curve);
            return Limbs.areSame(r, part);
        }

        private void readReduced(byte[] digest) {
            Limbs.read(digest, 0, e);
            order.reduceOnce(e);
        }

        private void readReducedX(Curve curve) {
            curve.readAffine(point, x, y);
            Limbs.copy(x, r);
            order.reduceOnce(r);
        }

        // s = (e + r * secret) / nonce
        private void fillS(byte[] secret, byte[] nonce) {
            Limbs.read(secret, 0, part);
            order.enterForm(part, part);
            order.multiply(r, part, s);
            order.add(s, e, s);
            Limbs.read(nonce, 0, part);
            order.enterForm(part, part);
            order.invert(part, part);
            order.multiply(s, part, s);
        }
    }

    /** The numbers r and s, each as 33 bytes, the highest first, and their form in DER. */
    private static final class Signature {
        static final int LONGEST = 72;
        private static final int LONGEST_NUMBER = 33;
        private static final int SEQUENCE = 48;
        private static final int INTEGER = 2;
        private static final int HEAD_BYTES = 2;
        private static final int SHORT_LENGTHS = 128;

        final byte[] r = new byte[LONGEST_NUMBER];
        final byte[] s = new byte[LONGEST_NUMBER];

        void setZero() {
            Arrays.fill(r, (byte) 0);
            Arrays.fill(s, (byte) 0);
        }

        // Whether both numbers have at most 32 bytes that count.
        boolean fits() {
            return r[0] == 0 && s[0] == 0;
        }

        boolean read(byte[] row, int from, int end) {
            int behind = end - from - HEAD_BYTES;
            if (behind < 0 || behind >= SHORT_LENGTHS || row[from] != SEQUENCE || row[from + 1] != behind) {
                return false;
            }
            int middle = readNumber(row, from + HEAD_BYTES, end, r);
            return middle >= 0 && readNumber(row, middle, end, s) == end;
        }

        int write(byte[] to) {
            int middle = writeNumber(r, to, HEAD_BYTES);
            int end = writeNumber(s, to, middle);
            to[0] = SEQUENCE;
            to[1] = (byte) (end - HEAD_BYTES);
            return end;
        }

        // The place behind the number, or -1 if there is none in due form before the end.
        private int readNumber(byte[] row, int at, int end, byte[] to) {
            if (end - at < HEAD_BYTES || row[at] != INTEGER) {
                return -1;
            }
            int length = row[at + 1];
            int from = at + HEAD_BYTES;
            if (length < 1 || length > LONGEST_NUMBER || length > end - from || row[from] < 0) {
                return -1;
            }
            if (row[from] == 0 && length > 1 && row[from + 1] >= 0) {
                return -1;
            }
            Arrays.fill(to, (byte) 0);
            System.arraycopy(row, from, to, LONGEST_NUMBER - length, length);
            return from + length;
        }

        private int writeNumber(byte[] number, byte[] to, int at) {
            int from = 0;
            while (from < LONGEST_NUMBER - 1 && number[from] == 0) {
                from++;
            }
            // DER's numbers have a sign: a high bit needs a 0 before it.
            if (from > 0 && number[from] < 0) {
                from--;
            }
            int length = LONGEST_NUMBER - from;
            to[at] = INTEGER;
            to[at + 1] = (byte) length;
            System.arraycopy(number, from, to, at + HEAD_BYTES, length);
            return at + HEAD_BYTES + length;
        }
    }
}
