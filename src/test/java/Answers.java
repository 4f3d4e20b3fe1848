/** What answers the calls of the face by their names: the class, and the model of it. */
interface Answers {
    long answer(String name, int... numbers);
}
