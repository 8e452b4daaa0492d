import java.io.IOException;
import java.io.UncheckedIOException;
import java.nio.charset.StandardCharsets;
import java.nio.file.Files;
import java.nio.file.Path;
import java.util.Arrays;
import java.util.Set;
import java.util.TreeSet;

/** What the tests share: an object that is told a text, and the counting of answers that are not due. */
final class Check {
    /** Numbers far from all that can be told; 64, 256 and 65,536 are 0 to a shift, a byte and a short. */
    static final int[] FAR = {Integer.MIN_VALUE, -65536, -256, -32, -3, -2, 64, 99, 256, 65536, Integer.MAX_VALUE};

    private static final Path DOCUMENT = Path.of("../shared/DOC.md");

    private final Set<Integer> promises = new TreeSet<>();
    private String document;
    private String beside = "";
    private int sentences = 0;
    private int askedBefore = 0;
    private int asked = 0;
    private int wrong = 0;

    void due(String call, long got, long want) {
        asked++;
        if (got != want) {
            wrong++;
            System.out.println(beside + call + " answered " + got + ", due is " + want);
        }
    }

    void due(String call, boolean got, boolean want) {
        due(call, got ? 1 : 0, want ? 1 : 0);
    }

    /** The answers from here on are due by this sentence, which must stand in the document to the letter. */
    void says(int promise, String sentence) {
        endSentence();
        promises.add(promise);
        sentences++;
        beside = "promise " + promise + ", '" + sentence + "': ";
        if (!document().contains(sentence)) {
            wrong++;
            System.out.println(beside + "the document does not say this");
        }
    }

    private void endSentence() {
        if (sentences > 0 && asked == askedBefore) {
            wrong++;
            System.out.println(beside + "nothing was asked");
        }
        askedBefore = asked;
    }

    private String document() {
        if (document == null) {
            try {
                document = Files.readString(DOCUMENT).replace("&lt;", "<").replace("&gt;", ">").replaceAll("\\s+", " ");
            } catch (IOException e) {
                throw new UncheckedIOException(e);
            }
        }
        return document;
    }

    /** Each promise from the first to the last must have had a sentence. */
    void saidOfEach(int first, int last) {
        endSentence();
        beside = "";
        for (int promise = first; promise <= last; promise++) {
            due("sentences of promise " + promise, promises.contains(promise), true);
        }
        System.out.println(sentences + " sentences");
    }

    void finish(String name) {
        System.out.println(name + ": " + asked + " answers, " + wrong + " wrong");
        if (wrong > 0 || asked == 0) {
            System.exit(1);
        }
    }

    static int put(KiteRoofs x, String text) {
        return put(x, text.getBytes(StandardCharsets.ISO_8859_1));
    }

    /** Feeds the bytes and cuts off what the last feed had too many: what end() answers. */
    static int put(KiteRoofs x, byte[] bytes) {
        for (int i = 0; i < bytes.length; i += 20) {
            byte[] b = Arrays.copyOfRange(bytes, i, i + 20);
            x.feed(four(b, 0), four(b, 4), four(b, 8), four(b, 12), four(b, 16));
        }
        return x.end(bytes.length);
    }

    static int four(byte[] b, int at) {
        return (b[at] & 255) << 24 | (b[at + 1] & 255) << 16 | (b[at + 2] & 255) << 8 | b[at + 3] & 255;
    }

    static KiteRoofs with(String text) {
        KiteRoofs x = new KiteRoofs();
        put(x, text);
        if (x.town() < 0) {
            throw new IllegalStateException("FAULT " + x.fault(0) + " at " + x.fault(1) + " of " + text);
        }
        return x;
    }

    /** Tells a new object the text: its FAULT and the FAULT's place must be these. */
    void fault(String text, int kind, int place) {
        KiteRoofs x = new KiteRoofs();
        put(x, text);
        int answer = x.town();
        due("town() of '" + text + "'", answer, kind == 0 ? x.about(0) : KiteRoofs.NONE);
        due("fault(0) of '" + text + "'", x.fault(0), kind);
        due("fault(1) of '" + text + "'", x.fault(1), place);
    }

    /** Tells a new object the text: it must be a TOWN. */
    void sound(String text) {
        fault(text, 0, KiteRoofs.NONE);
    }

    /** A FAULT at the last part, which follows the rest directly. */
    void faultAt(String rest, String last, int kind) {
        fault(rest + last, kind, rest.length());
    }
}
