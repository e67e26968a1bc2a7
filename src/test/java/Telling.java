/** Hears the words of the document, each with the test that fails if those words are broken. */
interface Telling {
    /** The heading, as the document has it, under which the words that follow stand. */
    void part(String heading);

    void says(String words, Runnable test);
}
