/** Each sentence of the document that names a bound, a first worth or a refused call, by its promise. */
public final class SentencesTest {
    public static void main(String[] args) {
        FilterSentences.all();
        RuleSentences.all();
        StreamSentences.all();
        HourSentences.all();
        ReckonSentences.all();
        HouseSentences.all();
        Document.allQuoted();
        Check.finish();
    }
}
