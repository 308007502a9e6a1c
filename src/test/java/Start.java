/** Makes an object in some state, each time a new one in the same. */
interface Start {
    Asked make();
}
