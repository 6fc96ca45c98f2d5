/**
 * Sentences of the document that name a boundary, each with a test of its own: the last that is taken, the first that is refused, and
 * what stays. With the argument 'left' it prints what of the document no test tells.
 */
public final class BoundaryTest extends Check {
    private BoundaryTest() { }

    /** Each promise has a sentence with a test. */
    private static void checkPromises(String document) {
        part = "the promises";
        String[] sections = document.split("## Promise ");
        due("promises", sections.length - 1, 28);
        for (int i = 1; i < sections.length; i++) {
            String section = sections[i];
            boolean said = SAID.stream().anyMatch(section::contains);
            due("a sentence with a test in '" + section.lines().findFirst().orElse("") + "'", said, true);
        }
    }

    private static void printWhatIsLeft(String document) {
        String left = document;
        for (String sentence : SAID) {
            left = left.replace(sentence, " @ ");
        }
        System.out.println(left);
    }

    public static void main(String[] args) {
        TextBoundaries.run();
        WalkBoundaries.run();
        PlanBoundaries.run();
        String document = document();
        checkPromises(document);
        if (args.length > 0 && args[0].equals("left")) {
            printWhatIsLeft(document);
        }
        report();
    }
}
