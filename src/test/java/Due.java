import java.io.IOException;
import java.nio.file.Files;
import java.nio.file.Path;

/** Counts and prints the answers that are not the ones due. */
final class Due {
    private static final Path DOCUMENT = Path.of("../shared/DOC.md");

    private static int looked = 0;
    private static int wrong = 0;
    private static String document = null;
    private static String sentence = "";

    private Due() {
    }

    interface Call {
        long go();
    }

    /** Whatever is looked at from now on is asked by these words, which must be the document's. */
    static void says(String words) {
        sentence = "";
        isTrue("the document says: " + words, isInDocument(words));
        sentence = " [" + words + "]";
    }

    // The tests can be run without the document at hand; then its words can't be looked up.
    private static boolean isInDocument(String words) {
        if (!Files.isReadable(DOCUMENT)) {
            return true;
        }
        try {
            if (document == null) {
                document = Files.readString(DOCUMENT);
            }
        } catch (IOException e) {
            throw new IllegalStateException(e);
        }
        return document.contains(words);
    }

    static void is(String call, long got, long want) {
        looked++;
        if (got != want) {
            report(call + " answered " + got + ", due is " + want);
        }
    }

    static void isTrue(String what, boolean holds) {
        is(what + " (1 it holds, 0 not)", holds ? 1 : 0, 1);
    }

    static void isText(String what, String got, String want) {
        looked++;
        if (!got.equals(want)) {
            report(what + " is\n    " + got + "\n  due is\n    " + want + "\n ");
        }
    }

    /** The call must throw just this class, and no subclass of it. */
    static void fails(String call, Class<? extends RuntimeException> want, Call made) {
        looked++;
        String got;
        try {
            got = "answered " + made.go();
        } catch (RuntimeException e) {
            if (e.getClass() == want) {
                return;
            }
            got = "threw " + e.getClass().getName();
        }
        report(call + " " + got + ", due is " + want.getName());
    }

    static void index(String call, Call made) {
        fails(call, IndexOutOfBoundsException.class, made);
    }

    static void argument(String call, Call made) {
        fails(call, IllegalArgumentException.class, made);
    }

    static void state(String call, Call made) {
        fails(call, IllegalStateException.class, made);
    }

    private static void report(String what) {
        wrong++;
        System.out.println(what + sentence);
    }

    static void end() {
        System.out.println(looked + " answers looked at, " + wrong + " not as due");
        if (wrong != 0) {
            System.exit(1);
        }
    }
}
