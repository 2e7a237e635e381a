import java.math.BigInteger;
import java.security.AlgorithmParameters;
import java.security.GeneralSecurityException;
import java.security.KeyFactory;
import java.security.PrivateKey;
import java.security.PublicKey;
import java.security.SecureRandom;
import java.security.Signature;
import java.security.spec.ECFieldFp;
import java.security.spec.ECGenParameterSpec;
import java.security.spec.ECParameterSpec;
import java.security.spec.ECPoint;
import java.security.spec.ECPrivateKeySpec;
import java.security.spec.ECPublicKeySpec;
import java.util.Arrays;
import java.util.Random;
import javax.crypto.KeyAgreement;

/**
 * "P-256 and ECDSA (FIPS 186-4) with SHA-256 (FIPS 180-4) ... bit for bit as these standards say": by others'
 * words, which are the vectors that NIST gives for its standards, and the Java library's own keys. NIST's vectors
 * were written down from memory, without their files at hand; a wrong digit in them would not have come out right.
 */
public final class StandardsTest {
    private static final int ROUNDS = 40;

    /** The library asks for chance numbers; these are the same in every run. */
    private static final class FixedRandom extends SecureRandom {
        private static final long serialVersionUID = 1;
        private final transient Random random = new Random(186);

        @Override
        public void nextBytes(byte[] row) {
            random.nextBytes(row);
        }
    }

    private final ECParameterSpec curve;
    private final KeyFactory factory = KeyFactory.getInstance("EC");
    private final FixedRandom random = new FixedRandom();

    private StandardsTest() throws GeneralSecurityException {
        AlgorithmParameters parameters = AlgorithmParameters.getInstance("EC");
        parameters.init(new ECGenParameterSpec("secp256r1"));
        curve = parameters.getParameterSpec(ECParameterSpec.class);
    }

    public static void main(String[] args) throws GeneralSecurityException {
        signatureOfNist();
        agreementOfNist();
        StandardsTest test = new StandardsTest();
        test.constantsAreTheLibrarys();
        for (int i = 0; i < ROUNDS; i++) {
            BigInteger secret = test.secret(i);
            byte[] message = new byte[7 * i];
            test.random.nextBytes(message);
            test.libraryTakesSignatures(secret, message);
            test.signaturesOfTheLibraryAreGood(secret, message);
            test.libraryAgrees(secret, test.secret(i + 1));
        }
        Check.end();
    }

    // The first of NIST's vectors for making signatures with P-256 and SHA-256.
    private static void signatureOfNist() {
        BigInteger secret = Reference.hex("519b423d715f8b581f4fa8ee59f4771a5b44c8130b4e3eacca54a56dda72b464");
        byte[] publicKey = Hand.bytes("04"
            + "1ccbe91c075fc7f4f033bfa248db8fccd3565de94bbfb12f3c59ff46c271bf83"
            + "ce4014c68811f9a21a1fdb2c0e6113e06db7ca93b7404e78dc7ccd5ca89a4ca9");
        byte[] message = Hand.bytes(
            "5905238877c77421f73e43ee3da6f2d9e2ccad5fc942dcec0cbd25482935faaf416983fe165b1a045ee2bcd2e6dca3bd"
            + "f46c4310a7461f9a37960ca672d3feb5473e253605fb1ddfd28065b53cb5858a8ad28175bf9bd386a5e471ea7a65c17c"
            + "c934a9d791e91491eb3754d03799790fe2d308d16146d5c9b0d0debd97d79ce8");
        byte[] signature = Reference.der(
            Reference.hex("f3ac8061b514795b8843e3d6629527ed2afd6b1f6a555a7acabb5e6f79c8c2ac"),
            Reference.hex("8bf77819ca05a6b2786c76262bf7371cef97b218e96f175a3ccdda2acc058903"));
        Check.same("NIST's public key", opened(secret), publicKey);
        PrimeKeys x = new PrimeKeys();
        Hand.message(x, message);
        Check.same("NIST's signature", Hand.verify(x, publicKey, signature), 0);
        message[0] ^= 1;
        Hand.message(x, message);
        Check.same("NIST's signature of another message", Hand.verify(x, publicKey, signature), 4);
    }

    // The first of NIST's vectors for agreement with P-256.
    private static void agreementOfNist() {
        BigInteger secret = Reference.hex("7d7dc5f71eb29ddaf80d6214632eeae03d9058af1fb6d22ed80badb62bc1a534");
        byte[] other = Hand.bytes("04"
            + "700c48f77f56584c5cc632ca65640db91b6bacce3a4df6b42ce7cc838833d287"
            + "db71e509e3fd9b060ddb20ba5c51dcc5948d46fbf640dfe0441782cab85fa4ac");
        byte[] publicKey = Hand.bytes("04"
            + "ead218590119e8876b29146ff89ca61770c4edbbf97d38ce385ed281d8a6b230"
            + "28af61281fd35e2fa7002523acc85a429cb06ee6648325389f59edfce1405141");
        byte[] agreed = Hand.bytes("46fc62106420ff012e54a434fbdd2d25ccc5852060561e68040dd7778997bd7b");
        Check.same("NIST's public key", opened(secret), publicKey);
        Check.same("NIST's agreed secret", agreed(secret, other), agreed);
    }

    private static byte[] opened(BigInteger secret) {
        PrimeKeys x = new PrimeKeys();
        x.open(Hand.key(x, secret));
        return Hand.result(x);
    }

    private static byte[] agreed(BigInteger secret, byte[] publicKey) {
        PrimeKeys x = new PrimeKeys();
        int key = Hand.key(x, secret);
        Hand.feed(x, publicKey);
        x.agree(key);
        return Hand.result(x);
    }

    // The Reference, by which the other tests go, has its constants from the document's standards as well.
    private void constantsAreTheLibrarys() {
        BigInteger prime = ((ECFieldFp) curve.getCurve().getField()).getP();
        Check.same("the prime", Reference.P.toString(), prime.toString());
        Check.same("a", Reference.P.subtract(BigInteger.valueOf(3)).toString(), curve.getCurve().getA().toString());
        Check.same("the order", Reference.N.toString(), curve.getOrder().toString());
        Check.same("b", Reference.B.toString(), curve.getCurve().getB().toString());
        Check.same("x of the base", Reference.BASE[0].toString(), curve.getGenerator().getAffineX().toString());
        Check.same("y of the base", Reference.BASE[1].toString(), curve.getGenerator().getAffineY().toString());
    }

    // Small ones, those near the order, and ones in between.
    private BigInteger secret(int i) {
        if (i % 10 == 0) {
            return BigInteger.valueOf(i / 10 + 1);
        }
        if (i % 10 == 1) {
            return Reference.N.subtract(BigInteger.valueOf(i / 10 + 1));
        }
        return Reference.number(Reference.digest(new byte[] {(byte) i})).mod(Reference.N);
    }

    private static BigInteger next(BigInteger secret) {
        return secret.mod(Reference.N.subtract(BigInteger.ONE)).add(BigInteger.ONE);
    }

    private PrivateKey privateKey(BigInteger secret) throws GeneralSecurityException {
        return factory.generatePrivate(new ECPrivateKeySpec(secret, curve));
    }

    private PublicKey publicKey(byte[] row) throws GeneralSecurityException {
        BigInteger x = Reference.number(Arrays.copyOfRange(row, 1, 33));
        BigInteger y = Reference.number(Arrays.copyOfRange(row, 33, 65));
        return factory.generatePublic(new ECPublicKeySpec(new ECPoint(x, y), curve));
    }

    private boolean isGoodToTheLibrary(byte[] publicKey, byte[] message, byte[] row) throws GeneralSecurityException {
        Signature judge = Signature.getInstance("SHA256withECDSA");
        judge.initVerify(publicKey(publicKey));
        judge.update(message);
        return judge.verify(row);
    }

    private void libraryTakesSignatures(BigInteger secret, byte[] message) throws GeneralSecurityException {
        PrimeKeys x = new PrimeKeys();
        int key = Hand.key(x, secret);
        Hand.message(x, message);
        x.sign(key);
        byte[] row = Hand.result(x);
        byte[] publicKey = opened(secret);
        Check.isTrue("good to the library: " + secret, isGoodToTheLibrary(publicKey, message, row));
        byte[] longer = Arrays.copyOf(message, message.length + 1);
        Check.isTrue("good for this message alone: " + secret, !isGoodToTheLibrary(publicKey, longer, row));
    }

    private void signaturesOfTheLibraryAreGood(BigInteger secret, byte[] message) throws GeneralSecurityException {
        Signature signer = Signature.getInstance("SHA256withECDSA");
        signer.initSign(privateKey(secret), random);
        signer.update(message);
        byte[] row = signer.sign();
        byte[] publicKey = opened(secret);
        PrimeKeys x = new PrimeKeys();
        Hand.message(x, message);
        Check.same("verdict on the library's signature", Hand.verify(x, publicKey, row), 0);
        Check.same("verdict with another key", Hand.verify(x, opened(next(secret)), row), 4);
    }

    private void libraryAgrees(BigInteger secret, BigInteger other) throws GeneralSecurityException {
        byte[] publicKey = opened(other);
        KeyAgreement agreement = KeyAgreement.getInstance("ECDH");
        agreement.init(privateKey(secret));
        agreement.doPhase(publicKey(publicKey), true);
        Check.same("the library's agreed secret", agreed(secret, publicKey), agreement.generateSecret());
    }
}
